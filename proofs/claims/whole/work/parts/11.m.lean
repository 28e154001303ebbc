abbrev rm_M_isItself : Room := { frames := 0, cells := 0, slots := 0, locals := 0 }
abbrev K_M_isItself (l : Launch) := JW l vwCl NsG TsG "ClassifySortModel" prog_7_method_6_code 5 (some .boolean) rm_M_isItself
def L_M_isItself_14 (s : jS) (a : jB) (c1 : Int32) (c2 : Int32) (k82 : Int32 → Option (Int32)) : Nat → Int32 → Int32 → Option (Int32)
  | 0, _, _ => none
  | f + 1, x3, x4 => (if (s 3) ≤ x4 then k82 (x3) else jb (if x3 = (0 : Int32) then jg (jin x4 40) ((if ((a 4) (x4).toNatClampNeg) = (0 : Int32) then some (0 : Int32) else jg (jin x4 40) ((if ((a 1) (x4).toNatClampNeg) = c1 then jg (jin x4 40) ((if ((a 2) (x4).toNatClampNeg) = (-1 : Int32) then jg (jin x4 40) ((if ((a 3) (x4).toNatClampNeg) = c2 then some (1 : Int32) else some (0 : Int32))) else some (0 : Int32))) else some (0 : Int32))))) else some (1 : Int32)) (fun b2 => L_M_isItself_14 s a c1 c2 k82 f (b2) ((x4 + (1 : Int32)))))
set_option maxRecDepth 100000 in
set_option maxHeartbeats 4000000 in
theorem JL_M_isItself_14 (l : Launch) (s : jS) (a : jB) (c1 : Int32) (c2 : Int32) (k82 : Int32 → Option (Int32)) (r : Int32) (hk82 : ∀ (x3 : Int32) (o4 : Option Value), k82 x3 = some r → K_M_isItself l 82 [some (.ref 0), some (.int c1), some (.int c2), some (.int x3), o4] [] (wM s a) (fun v w => v = some (.int r) ∧ w = wM s a)) : ∀ (f : Nat), ∀ (x3 : Int32) (x4 : Int32), L_M_isItself_14 s a c1 c2 k82 f x3 x4 = some r → K_M_isItself l 14 [some (.ref 0), some (.int c1), some (.int c2), some (.int x3), some (.int x4)] [] (wM s a) (fun v w => v = some (.int r) ∧ w = wM s a) := by
  intro f
  induction f with
  | zero =>
    intro x3 x4 h
    cases h
  | succ f ih =>
    intro x3 x4 h
    rw [L_M_isItself_14] at h
    refine J_iload d_M_isItself_14 rfl ?_
    refine J_aload_n d_M_isItself_16 rfl ?_
    refine J_get (j := 3) (v := .int (s 3)) d_M_isItself_17 (wM_at0 _ _) rfl in_5 (by decide) ts_272 rfl ?_
    refine J_icmp_ge (tgt := 82) d_M_isItself_20 (by decide) (fun c => ?_) (fun c => ?_)
    · have h := j_ifp c h
      exact hk82 _ _ h
    · have h := j_ifn c h
      refine J_iload_n d_M_isItself_23 rfl ?_
      obtain ⟨b2, hb2, h⟩ := jb_some h
      have kb2 : K_M_isItself l 75 [some (.ref 0), some (.int c1), some (.int c2), some (.int x3), some (.int x4)] [.int b2] (wM s a) (fun v w => v = some (.int r) ∧ w = wM s a) := by
        refine J_istore_n d_M_isItself_75 (by decide) ?_
        refine J_iinc (v := (x4 + (1 : Int32))) d_M_isItself_76 rfl (by first | rfl | decide) (by decide) ?_
        refine J_goto (tgt := 14) d_M_isItself_79 (by decide) ?_
        exact ih _ _ h
      clear h
      have h := hb2
      refine J_if_ne (tgt := 70) d_M_isItself_24 (by decide) (fun c => ?_) (fun c => ?_)
      · have h := j_ifn c h
        refine J_iconst (v := (1 : Int32)) d_M_isItself_70 (by decide) ?_
        refine J_goto (tgt := 75) d_M_isItself_71 (by decide) ?_
        cases h
        exact kb2
      · have h := j_ifp c h
        refine J_aload_n d_M_isItself_27 rfl ?_
        refine J_get (j := 10) (v := .ref 4) d_M_isItself_28 (wM_at0 _ _) rfl in_5 (by decide) ts_273 rfl ?_
        refine J_iload d_M_isItself_31 rfl ?_
        obtain ⟨g, h⟩ := jg_some h
        refine J_zald (f := (a 4)) d_M_isItself_33 (wM_at4 _ _) (jin_in g) ?_
        refine J_if_eq (tgt := 74) d_M_isItself_34 (by decide) (fun c => ?_) (fun c => ?_)
        · have h := j_ifp c h
          refine J_iconst (v := (0 : Int32)) d_M_isItself_74 (by decide) ?_
          cases h
          exact kb2
        · have h := j_ifn c h
          refine J_aload_n d_M_isItself_37 rfl ?_
          refine J_get (j := 7) (v := .ref 1) d_M_isItself_38 (wM_at0 _ _) rfl in_5 (by decide) ts_274 rfl ?_
          refine J_iload d_M_isItself_41 rfl ?_
          obtain ⟨g, h⟩ := jg_some h
          refine J_iald (f := (a 1)) d_M_isItself_43 (wM_at1 _ _) (jin_in g) ?_
          refine J_iload_n d_M_isItself_44 rfl ?_
          refine J_icmp_ne (tgt := 74) d_M_isItself_45 (by decide) (fun c => ?_) (fun c => ?_)
          · have h := j_ifn c h
            refine J_iconst (v := (0 : Int32)) d_M_isItself_74 (by decide) ?_
            cases h
            exact kb2
          · have h := j_ifp c h
            refine J_aload_n d_M_isItself_48 rfl ?_
            refine J_get (j := 8) (v := .ref 2) d_M_isItself_49 (wM_at0 _ _) rfl in_5 (by decide) ts_275 rfl ?_
            refine J_iload d_M_isItself_52 rfl ?_
            obtain ⟨g, h⟩ := jg_some h
            refine J_iald (f := (a 2)) d_M_isItself_54 (wM_at2 _ _) (jin_in g) ?_
            refine J_iconst (v := (-1 : Int32)) d_M_isItself_55 (by decide) ?_
            refine J_icmp_ne (tgt := 74) d_M_isItself_56 (by decide) (fun c => ?_) (fun c => ?_)
            · have h := j_ifn c h
              refine J_iconst (v := (0 : Int32)) d_M_isItself_74 (by decide) ?_
              cases h
              exact kb2
            · have h := j_ifp c h
              refine J_aload_n d_M_isItself_59 rfl ?_
              refine J_get (j := 9) (v := .ref 3) d_M_isItself_60 (wM_at0 _ _) rfl in_5 (by decide) ts_276 rfl ?_
              refine J_iload d_M_isItself_63 rfl ?_
              obtain ⟨g, h⟩ := jg_some h
              refine J_iald (f := (a 3)) d_M_isItself_65 (wM_at3 _ _) (jin_in g) ?_
              refine J_iload_n d_M_isItself_66 rfl ?_
              refine J_icmp_ne (tgt := 74) d_M_isItself_67 (by decide) (fun c => ?_) (fun c => ?_)
              · have h := j_ifn c h
                refine J_iconst (v := (0 : Int32)) d_M_isItself_74 (by decide) ?_
                cases h
                exact kb2
              · have h := j_ifp c h
                refine J_iconst (v := (1 : Int32)) d_M_isItself_70 (by decide) ?_
                refine J_goto (tgt := 75) d_M_isItself_71 (by decide) ?_
                cases h
                exact kb2
def m_M_isItself (s : jS) (a : jB) (p0 : Int32) (p1 : Int32) : Option (Int32) := jb (if p0 = p1 then some (1 : Int32) else some (0 : Int32)) (fun b1 => L_M_isItself_14 (s) (a) (p0) (p1) (fun x3 => jg (jz x3) (some (x3))) jF (b1) ((0 : Int32)))
set_option maxRecDepth 100000 in
set_option maxHeartbeats 4000000 in
theorem c_M_isItself (l : Launch) (s : jS) (a : jB) (p0 : Int32) (p1 : Int32) (r : Int32) (h : m_M_isItself s a p0 p1 = some r) : JMet l vwCl NsG (.code y_M_isItself prog_7_method_6_code 5 (some .boolean) :: TsG) y_M_isItself rm_M_isItself [.ref 0, .int p0, .int p1] (wM s a) (fun v w => v = some (.int r) ∧ w = wM s a) := by
  refine J_enter (by decide +kernel) rfl (Nat.le_of_ble_eq_true rfl) ?_
  unfold m_M_isItself at h
  refine J_eq (ls' := [some (.ref 0), some (.int p0), some (.int p1), none, none]) rfl rfl rfl rfl ?_
  refine J_iload_n d_M_isItself_0 rfl ?_
  refine J_iload_n d_M_isItself_1 rfl ?_
  obtain ⟨b1, hb1, h⟩ := jb_some h
  have kb1 : K_M_isItself l 10 [some (.ref 0), some (.int p0), some (.int p1), none, none] [.int b1] (wM s a) (fun v w => v = some (.int r) ∧ w = wM s a) := by
    refine J_istore_n d_M_isItself_10 (by decide) ?_
    refine J_iconst (v := (0 : Int32)) d_M_isItself_11 (by decide) ?_
    refine J_istore d_M_isItself_12 (by decide) ?_
    refine JL_M_isItself_14 l _ _ _ _ _ r (fun x3 o4 h => ?_) jF _ _ h
    refine J_iload_n d_M_isItself_82 rfl ?_
    obtain ⟨g, h⟩ := jg_some h
    exact J_iret d_M_isItself_83 rfl (jz_nar g) (by cases h; exact ⟨rfl, rfl⟩)
  clear h
  have h := hb1
  refine J_icmp_ne (tgt := 9) d_M_isItself_2 (by decide) (fun c => ?_) (fun c => ?_)
  · have h := j_ifn c h
    refine J_iconst (v := (0 : Int32)) d_M_isItself_9 (by decide) ?_
    cases h
    exact kb1
  · have h := j_ifp c h
    refine J_iconst (v := (1 : Int32)) d_M_isItself_5 (by decide) ?_
    refine J_goto (tgt := 10) d_M_isItself_6 (by decide) ?_
    cases h
    exact kb1
abbrev rm_M_tellItself : Room := { frames := 1, cells := 0, slots := 0, locals := 24 }
abbrev K_M_tellItself (l : Launch) := JW l vwCl NsG TsG "ClassifySortModel" prog_7_method_7_code 3 none rm_M_tellItself
def L_M_tellItself_12 (c1 : Int32) (k59 : jS → jB → Option (jS × jB)) : Nat → jS → jB → Int32 → Option (jS × jB)
  | 0, _, _, _ => none
  | f + 1, s, a, x2 => (if (20 : Int32) < x2 then k59 (s) (a) else (if x2 < (s 1) then jb (m_M_isItself s a c1 x2) (fun v2 => (if v2 = (0 : Int32) then L_M_tellItself_12 c1 k59 f (s) (a) ((x2 + (1 : Int32))) else jg (jin (((21 : Int32) * c1) + x2) 420) (L_M_tellItself_12 c1 k59 f (s) ((va_up a 6 (upd (a 6) ((((21 : Int32) * c1) + x2)).toNatClampNeg (1 : Int32)))) ((x2 + (1 : Int32)))))) else (if x2 = (20 : Int32) then jb (m_M_isItself s a c1 x2) (fun v4 => (if v4 = (0 : Int32) then L_M_tellItself_12 c1 k59 f (s) (a) ((x2 + (1 : Int32))) else jg (jin (((21 : Int32) * c1) + x2) 420) (L_M_tellItself_12 c1 k59 f (s) ((va_up a 6 (upd (a 6) ((((21 : Int32) * c1) + x2)).toNatClampNeg (1 : Int32)))) ((x2 + (1 : Int32)))))) else L_M_tellItself_12 c1 k59 f (s) (a) ((x2 + (1 : Int32))))))
set_option maxRecDepth 100000 in
set_option maxHeartbeats 4000000 in
theorem JL_M_tellItself_12 (l : Launch) (c1 : Int32) (k59 : jS → jB → Option (jS × jB)) (r : jS × jB) (hk59 : ∀ (s : jS) (a : jB) (o2 : Option Value), k59 s a = some r → K_M_tellItself l 59 [some (.ref 0), some (.int c1), o2] [] (wM s a) (fun v w => v = none ∧ w = wM r.1 r.2)) : ∀ (f : Nat), ∀ (s : jS) (a : jB) (x2 : Int32), L_M_tellItself_12 c1 k59 f s a x2 = some r → K_M_tellItself l 12 [some (.ref 0), some (.int c1), some (.int x2)] [] (wM s a) (fun v w => v = none ∧ w = wM r.1 r.2) := by
  intro f
  induction f with
  | zero =>
    intro s a x2 h
    cases h
  | succ f ih =>
    intro s a x2 h
    rw [L_M_tellItself_12] at h
    refine J_iload_n d_M_tellItself_12 rfl ?_
    refine J_bipush (v := (20 : Int32)) d_M_tellItself_13 (by decide) ?_
    refine J_icmp_gt (tgt := 59) d_M_tellItself_15 (by decide) (fun c => ?_) (fun c => ?_)
    · have h := j_ifp c h
      exact hk59 _ _ _ h
    · have h := j_ifn c h
      refine J_iload_n d_M_tellItself_18 rfl ?_
      refine J_aload_n d_M_tellItself_19 rfl ?_
      refine J_get (j := 1) (v := .int (s 1)) d_M_tellItself_20 (wM_at0 _ _) rfl in_5 (by decide) ts_270 rfl ?_
      refine J_icmp_lt (tgt := 32) d_M_tellItself_23 (by decide) (fun c => ?_) (fun c => ?_)
      · have h := j_ifp c h
        refine J_aload_n d_M_tellItself_32 rfl ?_
        refine J_iload_n d_M_tellItself_33 rfl ?_
        refine J_iload_n d_M_tellItself_34 rfl ?_
        obtain ⟨v2, e1, h⟩ := jb_some h
        refine J_cVi2 d_M_tellItself_35 (c_M_isItself l _ _ _ _ _ e1) (wM_at0 _ _) rfl ts_277 ts_good rfl rfl ts_278 ts_279 dy_M_isItself (by decide) (Nat.le_of_ble_eq_true rfl) ts_280 ts_281 ?_
        refine J_if_eq (tgt := 53) d_M_tellItself_38 (by decide) (fun c => ?_) (fun c => ?_)
        · have h := j_ifp c h
          refine J_iinc (v := (x2 + (1 : Int32))) d_M_tellItself_53 rfl (by first | rfl | decide) (by decide) ?_
          refine J_goto (tgt := 12) d_M_tellItself_56 (by decide) ?_
          exact ih _ _ _ h
        · have h := j_ifn c h
          refine J_aload_n d_M_tellItself_41 rfl ?_
          refine J_get (j := 12) (v := .ref 6) d_M_tellItself_42 (wM_at0 _ _) rfl in_5 (by decide) ts_282 rfl ?_
          refine J_bipush (v := (21 : Int32)) d_M_tellItself_45 (by decide) ?_
          refine J_iload_n d_M_tellItself_47 rfl ?_
          refine J_imul d_M_tellItself_48 ?_
          refine J_iload_n d_M_tellItself_49 rfl ?_
          refine J_iadd d_M_tellItself_50 ?_
          refine J_iconst (v := (1 : Int32)) d_M_tellItself_51 (by decide) ?_
          obtain ⟨g, h⟩ := jg_some h
          refine J_iast (f := (a 6)) d_M_tellItself_52 (wM_at6 _ _) (jin_in g) ?_
          refine J_eq (ws' := wM s (va_up a 6 (upd (a 6) ((((21 : Int32) * c1) + x2)).toNatClampNeg (1 : Int32)))) rfl rfl rfl (wM_ast6 _ _ _) ?_
          refine J_iinc (v := (x2 + (1 : Int32))) d_M_tellItself_53 rfl (by first | rfl | decide) (by decide) ?_
          refine J_goto (tgt := 12) d_M_tellItself_56 (by decide) ?_
          exact ih _ _ _ h
      · have h := j_ifn c h
        refine J_iload_n d_M_tellItself_26 rfl ?_
        refine J_bipush (v := (20 : Int32)) d_M_tellItself_27 (by decide) ?_
        refine J_icmp_ne (tgt := 53) d_M_tellItself_29 (by decide) (fun c => ?_) (fun c => ?_)
        · have h := j_ifn c h
          refine J_iinc (v := (x2 + (1 : Int32))) d_M_tellItself_53 rfl (by first | rfl | decide) (by decide) ?_
          refine J_goto (tgt := 12) d_M_tellItself_56 (by decide) ?_
          exact ih _ _ _ h
        · have h := j_ifp c h
          refine J_aload_n d_M_tellItself_32 rfl ?_
          refine J_iload_n d_M_tellItself_33 rfl ?_
          refine J_iload_n d_M_tellItself_34 rfl ?_
          obtain ⟨v4, e3, h⟩ := jb_some h
          refine J_cVi2 d_M_tellItself_35 (c_M_isItself l _ _ _ _ _ e3) (wM_at0 _ _) rfl ts_277 ts_good rfl rfl ts_278 ts_279 dy_M_isItself (by decide) (Nat.le_of_ble_eq_true rfl) ts_280 ts_281 ?_
          refine J_if_eq (tgt := 53) d_M_tellItself_38 (by decide) (fun c => ?_) (fun c => ?_)
          · have h := j_ifp c h
            refine J_iinc (v := (x2 + (1 : Int32))) d_M_tellItself_53 rfl (by first | rfl | decide) (by decide) ?_
            refine J_goto (tgt := 12) d_M_tellItself_56 (by decide) ?_
            exact ih _ _ _ h
          · have h := j_ifn c h
            refine J_aload_n d_M_tellItself_41 rfl ?_
            refine J_get (j := 12) (v := .ref 6) d_M_tellItself_42 (wM_at0 _ _) rfl in_5 (by decide) ts_282 rfl ?_
            refine J_bipush (v := (21 : Int32)) d_M_tellItself_45 (by decide) ?_
            refine J_iload_n d_M_tellItself_47 rfl ?_
            refine J_imul d_M_tellItself_48 ?_
            refine J_iload_n d_M_tellItself_49 rfl ?_
            refine J_iadd d_M_tellItself_50 ?_
            refine J_iconst (v := (1 : Int32)) d_M_tellItself_51 (by decide) ?_
            obtain ⟨g, h⟩ := jg_some h
            refine J_iast (f := (a 6)) d_M_tellItself_52 (wM_at6 _ _) (jin_in g) ?_
            refine J_eq (ws' := wM s (va_up a 6 (upd (a 6) ((((21 : Int32) * c1) + x2)).toNatClampNeg (1 : Int32)))) rfl rfl rfl (wM_ast6 _ _ _) ?_
            refine J_iinc (v := (x2 + (1 : Int32))) d_M_tellItself_53 rfl (by first | rfl | decide) (by decide) ?_
            refine J_goto (tgt := 12) d_M_tellItself_56 (by decide) ?_
            exact ih _ _ _ h
def L_M_tellItself_2 (k65 : jS → jB → Option (jS × jB)) : Nat → jS → jB → Int32 → Option (jS × jB)
  | 0, _, _, _ => none
  | f + 1, s, a, x1 => (if (s 1) ≤ x1 then k65 (s) (a) else L_M_tellItself_12 (x1) (fun s5 a6 => L_M_tellItself_2 k65 f (s5) (a6) ((x1 + (1 : Int32)))) jF (s) (a) ((0 : Int32)))
set_option maxRecDepth 100000 in
set_option maxHeartbeats 4000000 in
theorem JL_M_tellItself_2 (l : Launch) (k65 : jS → jB → Option (jS × jB)) (r : jS × jB) (hk65 : ∀ (s : jS) (a : jB) (o1 : Option Value) (o2 : Option Value), k65 s a = some r → K_M_tellItself l 65 [some (.ref 0), o1, o2] [] (wM s a) (fun v w => v = none ∧ w = wM r.1 r.2)) : ∀ (f : Nat), ∀ (s : jS) (a : jB) (x1 : Int32) (o2 : Option Value), L_M_tellItself_2 k65 f s a x1 = some r → K_M_tellItself l 2 [some (.ref 0), some (.int x1), o2] [] (wM s a) (fun v w => v = none ∧ w = wM r.1 r.2) := by
  intro f
  induction f with
  | zero =>
    intro s a x1 o2 h
    cases h
  | succ f ih =>
    intro s a x1 o2 h
    rw [L_M_tellItself_2] at h
    refine J_iload_n d_M_tellItself_2 rfl ?_
    refine J_aload_n d_M_tellItself_3 rfl ?_
    refine J_get (j := 1) (v := .int (s 1)) d_M_tellItself_4 (wM_at0 _ _) rfl in_5 (by decide) ts_270 rfl ?_
    refine J_icmp_ge (tgt := 65) d_M_tellItself_7 (by decide) (fun c => ?_) (fun c => ?_)
    · have h := j_ifp c h
      exact hk65 _ _ _ _ h
    · have h := j_ifn c h
      refine J_iconst (v := (0 : Int32)) d_M_tellItself_10 (by decide) ?_
      refine J_istore_n d_M_tellItself_11 (by decide) ?_
      refine JL_M_tellItself_12 l _ _ r (fun s5 a6 o7 h => ?_) jF _ _ _ h
      refine J_iinc (v := (x1 + (1 : Int32))) d_M_tellItself_59 rfl (by first | rfl | decide) (by decide) ?_
      refine J_goto (tgt := 2) d_M_tellItself_62 (by decide) ?_
      exact ih _ _ _ _ h
def m_M_tellItself (s : jS) (a : jB) : Option (jS × jB) := L_M_tellItself_2 (fun s8 a9 => some (s8, a9)) jF (s) (a) ((0 : Int32))
set_option maxRecDepth 100000 in
set_option maxHeartbeats 4000000 in
theorem c_M_tellItself (l : Launch) (s : jS) (a : jB) (r : jS × jB) (h : m_M_tellItself s a = some r) : JMet l vwCl NsG (.code y_M_tellItself prog_7_method_7_code 3 none :: TsG) y_M_tellItself rm_M_tellItself [.ref 0] (wM s a) (fun v w => v = none ∧ w = wM r.1 r.2) := by
  refine J_enter (by decide +kernel) rfl (Nat.le_of_ble_eq_true rfl) ?_
  unfold m_M_tellItself at h
  refine J_eq (ls' := [some (.ref 0), none, none]) rfl rfl rfl rfl ?_
  refine J_iconst (v := (0 : Int32)) d_M_tellItself_0 (by decide) ?_
  refine J_istore_n d_M_tellItself_1 (by decide) ?_
  refine JL_M_tellItself_2 l _ r (fun s8 a9 o10 o11 h => ?_) jF _ _ _ _ h
  exact J_vret d_M_tellItself_65 rfl (by cases h; exact ⟨rfl, rfl⟩)
abbrev rm_M_isHere : Room := { frames := 0, cells := 0, slots := 0, locals := 0 }
abbrev K_M_isHere (l : Launch) := JW l vwCl NsG TsG "ClassifySortModel" prog_7_method_8_code 2 (some .boolean) rm_M_isHere
def m_M_isHere (s : jS) (a : jB) (p0 : Int32) : Option (Int32) := jb (if p0 < (s 1) then some (1 : Int32) else (if p0 = (20 : Int32) then some (1 : Int32) else some (0 : Int32))) (fun b1 => jg (jz b1) (some (b1)))
set_option maxRecDepth 100000 in
set_option maxHeartbeats 4000000 in
theorem c_M_isHere (l : Launch) (s : jS) (a : jB) (p0 : Int32) (r : Int32) (h : m_M_isHere s a p0 = some r) : JMet l vwCl NsG (.code y_M_isHere prog_7_method_8_code 2 (some .boolean) :: TsG) y_M_isHere rm_M_isHere [.ref 0, .int p0] (wM s a) (fun v w => v = some (.int r) ∧ w = wM s a) := by
  refine J_enter (by decide +kernel) rfl (Nat.le_of_ble_eq_true rfl) ?_
  unfold m_M_isHere at h
  refine J_eq (ls' := [some (.ref 0), some (.int p0)]) rfl rfl rfl rfl ?_
  refine J_iload_n d_M_isHere_0 rfl ?_
  refine J_aload_n d_M_isHere_1 rfl ?_
  refine J_get (j := 1) (v := .int (s 1)) d_M_isHere_2 (wM_at0 _ _) rfl in_5 (by decide) ts_270 rfl ?_
  obtain ⟨b1, hb1, h⟩ := jb_some h
  have kb1 : K_M_isHere l 19 [some (.ref 0), some (.int p0)] [.int b1] (wM s a) (fun v w => v = some (.int r) ∧ w = wM s a) := by
    obtain ⟨g, h⟩ := jg_some h
    exact J_iret d_M_isHere_19 rfl (jz_nar g) (by cases h; exact ⟨rfl, rfl⟩)
  clear h
  have h := hb1
  refine J_icmp_lt (tgt := 14) d_M_isHere_5 (by decide) (fun c => ?_) (fun c => ?_)
  · have h := j_ifp c h
    refine J_iconst (v := (1 : Int32)) d_M_isHere_14 (by decide) ?_
    refine J_goto (tgt := 19) d_M_isHere_15 (by decide) ?_
    cases h
    exact kb1
  · have h := j_ifn c h
    refine J_iload_n d_M_isHere_8 rfl ?_
    refine J_bipush (v := (20 : Int32)) d_M_isHere_9 (by decide) ?_
    refine J_icmp_ne (tgt := 18) d_M_isHere_11 (by decide) (fun c => ?_) (fun c => ?_)
    · have h := j_ifn c h
      refine J_iconst (v := (0 : Int32)) d_M_isHere_18 (by decide) ?_
      cases h
      exact kb1
    · have h := j_ifp c h
      refine J_iconst (v := (1 : Int32)) d_M_isHere_14 (by decide) ?_
      refine J_goto (tgt := 19) d_M_isHere_15 (by decide) ?_
      cases h
      exact kb1
abbrev rm_M_below : Room := { frames := 0, cells := 0, slots := 0, locals := 0 }
abbrev K_M_below (l : Launch) := JW l vwCl NsG TsG "ClassifySortModel" prog_7_method_5_code 3 (some .boolean) rm_M_below
def m_M_below (s : jS) (a : jB) (p0 : Int32) (p1 : Int32) : Option (Int32) := jb (if p0 = (20 : Int32) then some (1 : Int32) else jg (jin (((21 : Int32) * p0) + p1) 420) ((if ((a 6) ((((21 : Int32) * p0) + p1)).toNatClampNeg) = (1 : Int32) then some (1 : Int32) else some (0 : Int32)))) (fun b1 => jg (jz b1) (some (b1)))
set_option maxRecDepth 100000 in
set_option maxHeartbeats 4000000 in
theorem c_M_below (l : Launch) (s : jS) (a : jB) (p0 : Int32) (p1 : Int32) (r : Int32) (h : m_M_below s a p0 p1 = some r) : JMet l vwCl NsG (.code y_M_below prog_7_method_5_code 3 (some .boolean) :: TsG) y_M_below rm_M_below [.ref 0, .int p0, .int p1] (wM s a) (fun v w => v = some (.int r) ∧ w = wM s a) := by
  refine J_enter (by decide +kernel) rfl (Nat.le_of_ble_eq_true rfl) ?_
  unfold m_M_below at h
  refine J_eq (ls' := [some (.ref 0), some (.int p0), some (.int p1)]) rfl rfl rfl rfl ?_
  refine J_iload_n d_M_below_0 rfl ?_
  refine J_bipush (v := (20 : Int32)) d_M_below_1 (by decide) ?_
  obtain ⟨b1, hb1, h⟩ := jb_some h
  have kb1 : K_M_below l 26 [some (.ref 0), some (.int p0), some (.int p1)] [.int b1] (wM s a) (fun v w => v = some (.int r) ∧ w = wM s a) := by
    obtain ⟨g, h⟩ := jg_some h
    exact J_iret d_M_below_26 rfl (jz_nar g) (by cases h; exact ⟨rfl, rfl⟩)
  clear h
  have h := hb1
  refine J_icmp_eq (tgt := 21) d_M_below_3 (by decide) (fun c => ?_) (fun c => ?_)
  · have h := j_ifp c h
    refine J_iconst (v := (1 : Int32)) d_M_below_21 (by decide) ?_
    refine J_goto (tgt := 26) d_M_below_22 (by decide) ?_
    cases h
    exact kb1
  · have h := j_ifn c h
    refine J_aload_n d_M_below_6 rfl ?_
    refine J_get (j := 12) (v := .ref 6) d_M_below_7 (wM_at0 _ _) rfl in_5 (by decide) ts_282 rfl ?_
    refine J_bipush (v := (21 : Int32)) d_M_below_10 (by decide) ?_
    refine J_iload_n d_M_below_12 rfl ?_
    refine J_imul d_M_below_13 ?_
    refine J_iload_n d_M_below_14 rfl ?_
    refine J_iadd d_M_below_15 ?_
    obtain ⟨g, h⟩ := jg_some h
    refine J_iald (f := (a 6)) d_M_below_16 (wM_at6 _ _) (jin_in g) ?_
    refine J_iconst (v := (1 : Int32)) d_M_below_17 (by decide) ?_
    refine J_icmp_ne (tgt := 25) d_M_below_18 (by decide) (fun c => ?_) (fun c => ?_)
    · have h := j_ifn c h
      refine J_iconst (v := (0 : Int32)) d_M_below_25 (by decide) ?_
      cases h
      exact kb1
    · have h := j_ifp c h
      refine J_iconst (v := (1 : Int32)) d_M_below_21 (by decide) ?_
      refine J_goto (tgt := 26) d_M_below_22 (by decide) ?_
      cases h
      exact kb1
abbrev rm_M_spreadNo : Room := { frames := 1, cells := 0, slots := 0, locals := 22 }
abbrev K_M_spreadNo (l : Launch) := JW l vwCl NsG TsG "ClassifySortModel" prog_7_method_10_code 7 (some .boolean) rm_M_spreadNo
def L_M_spreadNo_27 (c2 : Int32) (c4 : Int32) (k101 : jS → jB → Int32 → Option (Int32 × jS × jB)) : Nat → jS → jB → Int32 → Int32 → Option (Int32 × jS × jB)
  | 0, _, _, _, _ => none
  | f + 1, s, a, x3, x5 => (if (20 : Int32) < x5 then k101 (s) (a) (x3) else jg (jin (((21 : Int32) * c4) + x5) 420) (jb (some ((a 6) ((((21 : Int32) * c4) + x5)).toNatClampNeg)) (fun y3 => jb (m_M_isHere s a x5) (fun v5 => (if v5 = (0 : Int32) then L_M_spreadNo_27 c2 c4 k101 f (s) (a) (x3) ((x5 + (1 : Int32))) else jb (m_M_below s a x5 c2) (fun v7 => (if v7 = (0 : Int32) then L_M_spreadNo_27 c2 c4 k101 f (s) (a) (x3) ((x5 + (1 : Int32))) else (if y3 = (0 : Int32) then L_M_spreadNo_27 c2 c4 k101 f (s) (a) (x3) ((x5 + (1 : Int32))) else (if y3 = (1 : Int32) then L_M_spreadNo_27 c2 c4 k101 f (s) (a) (x3) ((x5 + (1 : Int32))) else jg (jin (((21 : Int32) * c4) + x5) 420) (L_M_spreadNo_27 c2 c4 k101 f (s) ((va_up a 6 (upd (a 6) ((((21 : Int32) * c4) + x5)).toNatClampNeg (0 : Int32)))) ((1 : Int32)) ((x5 + (1 : Int32)))))))))))))
set_option maxRecDepth 100000 in
set_option maxHeartbeats 4000000 in
theorem JL_M_spreadNo_27 (l : Launch) (c2 : Int32) (c4 : Int32) (c1 : Int32) (k101 : jS → jB → Int32 → Option (Int32 × jS × jB)) (r : Int32 × jS × jB) (hk101 : ∀ (s : jS) (a : jB) (x3 : Int32) (o5 : Option Value) (o6 : Option Value), k101 s a x3 = some r → K_M_spreadNo l 101 [some (.ref 0), some (.int c1), some (.int c2), some (.int x3), some (.int c4), o5, o6] [] (wM s a) (fun v w => v = some (.int r.1) ∧ w = wM r.2.1 r.2.2)) : ∀ (f : Nat), ∀ (s : jS) (a : jB) (x3 : Int32) (x5 : Int32) (o6 : Option Value), L_M_spreadNo_27 c2 c4 k101 f s a x3 x5 = some r → K_M_spreadNo l 27 [some (.ref 0), some (.int c1), some (.int c2), some (.int x3), some (.int c4), some (.int x5), o6] [] (wM s a) (fun v w => v = some (.int r.1) ∧ w = wM r.2.1 r.2.2) := by
  intro f
  induction f with
  | zero =>
    intro s a x3 x5 o6 h
    cases h
  | succ f ih =>
    intro s a x3 x5 o6 h
    rw [L_M_spreadNo_27] at h
    refine J_iload d_M_spreadNo_27 rfl ?_
    refine J_bipush (v := (20 : Int32)) d_M_spreadNo_29 (by decide) ?_
    refine J_icmp_gt (tgt := 101) d_M_spreadNo_31 (by decide) (fun c => ?_) (fun c => ?_)
    · have h := j_ifp c h
      exact hk101 _ _ _ _ _ h
    · have h := j_ifn c h
      refine J_aload_n d_M_spreadNo_34 rfl ?_
      refine J_get (j := 12) (v := .ref 6) d_M_spreadNo_35 (wM_at0 _ _) rfl in_5 (by decide) ts_282 rfl ?_
      refine J_bipush (v := (21 : Int32)) d_M_spreadNo_38 (by decide) ?_
      refine J_iload d_M_spreadNo_40 rfl ?_
      refine J_imul d_M_spreadNo_42 ?_
      refine J_iload d_M_spreadNo_43 rfl ?_
      refine J_iadd d_M_spreadNo_45 ?_
      obtain ⟨g, h⟩ := jg_some h
      refine J_iald (f := (a 6)) d_M_spreadNo_46 (wM_at6 _ _) (jin_in g) ?_
      obtain ⟨y3, qy3, h⟩ := jb_some h
      refine J_topi (Option.some.inj qy3) ?_
      refine J_istore d_M_spreadNo_47 (by decide) ?_
      refine J_aload_n d_M_spreadNo_49 rfl ?_
      refine J_iload d_M_spreadNo_50 rfl ?_
      obtain ⟨v5, e4, h⟩ := jb_some h
      refine J_cVi1 d_M_spreadNo_52 (c_M_isHere l _ _ _ _ e4) (wM_at0 _ _) rfl ts_287 ts_good rfl rfl ts_278 ts_288 dy_M_isHere (by decide) (Nat.le_of_ble_eq_true rfl) ts_289 ts_290 ?_
      refine J_if_eq (tgt := 95) d_M_spreadNo_55 (by decide) (fun c => ?_) (fun c => ?_)
      · have h := j_ifp c h
        refine J_iinc (v := (x5 + (1 : Int32))) d_M_spreadNo_95 rfl (by first | rfl | decide) (by decide) ?_
        refine J_goto (tgt := 27) d_M_spreadNo_98 (by decide) ?_
        exact ih _ _ _ _ _ h
      · have h := j_ifn c h
        refine J_aload_n d_M_spreadNo_58 rfl ?_
        refine J_iload d_M_spreadNo_59 rfl ?_
        refine J_iload_n d_M_spreadNo_61 rfl ?_
        obtain ⟨v7, e6, h⟩ := jb_some h
        refine J_cVi2 d_M_spreadNo_62 (c_M_below l _ _ _ _ _ e6) (wM_at0 _ _) rfl ts_291 ts_good rfl rfl ts_278 ts_292 dy_M_below (by decide) (Nat.le_of_ble_eq_true rfl) ts_293 ts_294 ?_
        refine J_if_eq (tgt := 95) d_M_spreadNo_65 (by decide) (fun c => ?_) (fun c => ?_)
        · have h := j_ifp c h
          refine J_iinc (v := (x5 + (1 : Int32))) d_M_spreadNo_95 rfl (by first | rfl | decide) (by decide) ?_
          refine J_goto (tgt := 27) d_M_spreadNo_98 (by decide) ?_
          exact ih _ _ _ _ _ h
        · have h := j_ifn c h
          refine J_iload d_M_spreadNo_68 rfl ?_
          refine J_if_eq (tgt := 95) d_M_spreadNo_70 (by decide) (fun c => ?_) (fun c => ?_)
          · have h := j_ifp c h
            refine J_iinc (v := (x5 + (1 : Int32))) d_M_spreadNo_95 rfl (by first | rfl | decide) (by decide) ?_
            refine J_goto (tgt := 27) d_M_spreadNo_98 (by decide) ?_
            exact ih _ _ _ _ _ h
          · have h := j_ifn c h
            refine J_iload d_M_spreadNo_73 rfl ?_
            refine J_iconst (v := (1 : Int32)) d_M_spreadNo_75 (by decide) ?_
            refine J_icmp_eq (tgt := 95) d_M_spreadNo_76 (by decide) (fun c => ?_) (fun c => ?_)
            · have h := j_ifp c h
              refine J_iinc (v := (x5 + (1 : Int32))) d_M_spreadNo_95 rfl (by first | rfl | decide) (by decide) ?_
              refine J_goto (tgt := 27) d_M_spreadNo_98 (by decide) ?_
              exact ih _ _ _ _ _ h
            · have h := j_ifn c h
              refine J_aload_n d_M_spreadNo_79 rfl ?_
              refine J_get (j := 12) (v := .ref 6) d_M_spreadNo_80 (wM_at0 _ _) rfl in_5 (by decide) ts_282 rfl ?_
              refine J_bipush (v := (21 : Int32)) d_M_spreadNo_83 (by decide) ?_
              refine J_iload d_M_spreadNo_85 rfl ?_
              refine J_imul d_M_spreadNo_87 ?_
              refine J_iload d_M_spreadNo_88 rfl ?_
              refine J_iadd d_M_spreadNo_90 ?_
              refine J_iconst (v := (0 : Int32)) d_M_spreadNo_91 (by decide) ?_
              obtain ⟨g, h⟩ := jg_some h
              refine J_iast (f := (a 6)) d_M_spreadNo_92 (wM_at6 _ _) (jin_in g) ?_
              refine J_eq (ws' := wM s (va_up a 6 (upd (a 6) ((((21 : Int32) * c4) + x5)).toNatClampNeg (0 : Int32)))) rfl rfl rfl (wM_ast6 _ _ _) ?_
              refine J_iconst (v := (1 : Int32)) d_M_spreadNo_93 (by decide) ?_
              refine J_istore_n d_M_spreadNo_94 (by decide) ?_
              refine J_iinc (v := (x5 + (1 : Int32))) d_M_spreadNo_95 rfl (by first | rfl | decide) (by decide) ?_
              refine J_goto (tgt := 27) d_M_spreadNo_98 (by decide) ?_
              exact ih _ _ _ _ _ h
def L_M_spreadNo_5 (c1 : Int32) (c2 : Int32) (k107 : jS → jB → Int32 → Option (Int32 × jS × jB)) : Nat → jS → jB → Int32 → Int32 → Option (Int32 × jS × jB)
  | 0, _, _, _, _ => none
  | f + 1, s, a, x3, x4 => (if (s 1) ≤ x4 then k107 (s) (a) (x3) else jb (m_M_below s a c1 x4) (fun v2 => (if v2 = (0 : Int32) then L_M_spreadNo_5 c1 c2 k107 f (s) (a) (x3) ((x4 + (1 : Int32))) else L_M_spreadNo_27 (c2) (x4) (fun s8 a9 x10 => L_M_spreadNo_5 c1 c2 k107 f (s8) (a9) (x10) ((x4 + (1 : Int32)))) jF (s) (a) (x3) ((0 : Int32)))))
set_option maxRecDepth 100000 in
set_option maxHeartbeats 4000000 in
theorem JL_M_spreadNo_5 (l : Launch) (c1 : Int32) (c2 : Int32) (k107 : jS → jB → Int32 → Option (Int32 × jS × jB)) (r : Int32 × jS × jB) (hk107 : ∀ (s : jS) (a : jB) (x3 : Int32) (o4 : Option Value) (o5 : Option Value) (o6 : Option Value), k107 s a x3 = some r → K_M_spreadNo l 107 [some (.ref 0), some (.int c1), some (.int c2), some (.int x3), o4, o5, o6] [] (wM s a) (fun v w => v = some (.int r.1) ∧ w = wM r.2.1 r.2.2)) : ∀ (f : Nat), ∀ (s : jS) (a : jB) (x3 : Int32) (x4 : Int32) (o5 : Option Value) (o6 : Option Value), L_M_spreadNo_5 c1 c2 k107 f s a x3 x4 = some r → K_M_spreadNo l 5 [some (.ref 0), some (.int c1), some (.int c2), some (.int x3), some (.int x4), o5, o6] [] (wM s a) (fun v w => v = some (.int r.1) ∧ w = wM r.2.1 r.2.2) := by
  intro f
  induction f with
  | zero =>
    intro s a x3 x4 o5 o6 h
    cases h
  | succ f ih =>
    intro s a x3 x4 o5 o6 h
    rw [L_M_spreadNo_5] at h
    refine J_iload d_M_spreadNo_5 rfl ?_
    refine J_aload_n d_M_spreadNo_7 rfl ?_
    refine J_get (j := 1) (v := .int (s 1)) d_M_spreadNo_8 (wM_at0 _ _) rfl in_5 (by decide) ts_270 rfl ?_
    refine J_icmp_ge (tgt := 107) d_M_spreadNo_11 (by decide) (fun c => ?_) (fun c => ?_)
    · have h := j_ifp c h
      exact hk107 _ _ _ _ _ _ h
    · have h := j_ifn c h
      refine J_aload_n d_M_spreadNo_14 rfl ?_
      refine J_iload_n d_M_spreadNo_15 rfl ?_
      refine J_iload d_M_spreadNo_16 rfl ?_
      obtain ⟨v2, e1, h⟩ := jb_some h
      refine J_cVi2 d_M_spreadNo_18 (c_M_below l _ _ _ _ _ e1) (wM_at0 _ _) rfl ts_291 ts_good rfl rfl ts_278 ts_292 dy_M_below (by decide) (Nat.le_of_ble_eq_true rfl) ts_293 ts_294 ?_
      refine J_if_eq (tgt := 101) d_M_spreadNo_21 (by decide) (fun c => ?_) (fun c => ?_)
      · have h := j_ifp c h
        refine J_iinc (v := (x4 + (1 : Int32))) d_M_spreadNo_101 rfl (by first | rfl | decide) (by decide) ?_
        refine J_goto (tgt := 5) d_M_spreadNo_104 (by decide) ?_
        exact ih _ _ _ _ _ _ h
      · have h := j_ifn c h
        refine J_iconst (v := (0 : Int32)) d_M_spreadNo_24 (by decide) ?_
        refine J_istore d_M_spreadNo_25 (by decide) ?_
        refine JL_M_spreadNo_27 l _ _ _ _ r (fun s8 a9 x10 o11 o12 h => ?_) jF _ _ _ _ _ h
        refine J_iinc (v := (x4 + (1 : Int32))) d_M_spreadNo_101 rfl (by first | rfl | decide) (by decide) ?_
        refine J_goto (tgt := 5) d_M_spreadNo_104 (by decide) ?_
        exact ih _ _ _ _ _ _ h
def m_M_spreadNo (s : jS) (a : jB) (p0 : Int32) (p1 : Int32) : Option (Int32 × jS × jB) := L_M_spreadNo_5 (p0) (p1) (fun s13 a14 x15 => jg (jz x15) (some (x15, s13, a14))) jF (s) (a) ((0 : Int32)) ((0 : Int32))
set_option maxRecDepth 100000 in
set_option maxHeartbeats 4000000 in
theorem c_M_spreadNo (l : Launch) (s : jS) (a : jB) (p0 : Int32) (p1 : Int32) (r : Int32 × jS × jB) (h : m_M_spreadNo s a p0 p1 = some r) : JMet l vwCl NsG (.code y_M_spreadNo prog_7_method_10_code 7 (some .boolean) :: TsG) y_M_spreadNo rm_M_spreadNo [.ref 0, .int p0, .int p1] (wM s a) (fun v w => v = some (.int r.1) ∧ w = wM r.2.1 r.2.2) := by
  refine J_enter (by decide +kernel) rfl (Nat.le_of_ble_eq_true rfl) ?_
  unfold m_M_spreadNo at h
  refine J_eq (ls' := [some (.ref 0), some (.int p0), some (.int p1), none, none, none, none]) rfl rfl rfl rfl ?_
  refine J_iconst (v := (0 : Int32)) d_M_spreadNo_0 (by decide) ?_
  refine J_istore_n d_M_spreadNo_1 (by decide) ?_
  refine J_iconst (v := (0 : Int32)) d_M_spreadNo_2 (by decide) ?_
  refine J_istore d_M_spreadNo_3 (by decide) ?_
  refine JL_M_spreadNo_5 l _ _ _ r (fun s13 a14 x15 o16 o17 o18 h => ?_) jF _ _ _ _ _ _ h
  refine J_iload_n d_M_spreadNo_107 rfl ?_
  obtain ⟨g, h⟩ := jg_some h
  exact J_iret d_M_spreadNo_108 rfl (jz_nar g) (by cases h; exact ⟨rfl, rfl⟩)
abbrev rm_M_closeOnce : Room := { frames := 2, cells := 0, slots := 0, locals := 48 }
abbrev K_M_closeOnce (l : Launch) := JW l vwCl NsG TsG "ClassifySortModel" prog_7_method_9_code 5 (some .boolean) rm_M_closeOnce
def L_M_closeOnce_40 (c2 : Int32) (c3 : Int32) (k103 : jS → jB → Int32 → Option (Int32 × jS × jB)) : Nat → jS → jB → Int32 → Int32 → Option (Int32 × jS × jB)
  | 0, _, _, _, _ => none
  | f + 1, s, a, x1, x4 => (if (20 : Int32) < x4 then k103 (s) (a) (x1) else jb (m_M_isHere s a x4) (fun v6 => (if v6 = (0 : Int32) then L_M_closeOnce_40 c2 c3 k103 f (s) (a) (x1) ((x4 + (1 : Int32))) else jb (m_M_below s a c3 x4) (fun v8 => (if v8 = (0 : Int32) then L_M_closeOnce_40 c2 c3 k103 f (s) (a) (x1) ((x4 + (1 : Int32))) else jg (jin (((21 : Int32) * c2) + x4) 420) ((if ((a 6) ((((21 : Int32) * c2) + x4)).toNatClampNeg) = (1 : Int32) then L_M_closeOnce_40 c2 c3 k103 f (s) (a) (x1) ((x4 + (1 : Int32))) else jg (jin (((21 : Int32) * c2) + x4) 420) (L_M_closeOnce_40 c2 c3 k103 f (s) ((va_up a 6 (upd (a 6) ((((21 : Int32) * c2) + x4)).toNatClampNeg (1 : Int32)))) ((1 : Int32)) ((x4 + (1 : Int32)))))))))))
set_option maxRecDepth 100000 in
set_option maxHeartbeats 4000000 in
theorem JL_M_closeOnce_40 (l : Launch) (c2 : Int32) (c3 : Int32) (k103 : jS → jB → Int32 → Option (Int32 × jS × jB)) (r : Int32 × jS × jB) (hk103 : ∀ (s : jS) (a : jB) (x1 : Int32) (o4 : Option Value), k103 s a x1 = some r → K_M_closeOnce l 103 [some (.ref 0), some (.int x1), some (.int c2), some (.int c3), o4] [] (wM s a) (fun v w => v = some (.int r.1) ∧ w = wM r.2.1 r.2.2)) : ∀ (f : Nat), ∀ (s : jS) (a : jB) (x1 : Int32) (x4 : Int32), L_M_closeOnce_40 c2 c3 k103 f s a x1 x4 = some r → K_M_closeOnce l 40 [some (.ref 0), some (.int x1), some (.int c2), some (.int c3), some (.int x4)] [] (wM s a) (fun v w => v = some (.int r.1) ∧ w = wM r.2.1 r.2.2) := by
  intro f
  induction f with
  | zero =>
    intro s a x1 x4 h
    cases h
  | succ f ih =>
    intro s a x1 x4 h
    rw [L_M_closeOnce_40] at h
    refine J_iload d_M_closeOnce_40 rfl ?_
    refine J_bipush (v := (20 : Int32)) d_M_closeOnce_42 (by decide) ?_
    refine J_icmp_gt (tgt := 103) d_M_closeOnce_44 (by decide) (fun c => ?_) (fun c => ?_)
    · have h := j_ifp c h
      exact hk103 _ _ _ _ h
    · have h := j_ifn c h
      refine J_aload_n d_M_closeOnce_47 rfl ?_
      refine J_iload d_M_closeOnce_48 rfl ?_
      obtain ⟨v6, e5, h⟩ := jb_some h
      refine J_cVi1 d_M_closeOnce_50 (c_M_isHere l _ _ _ _ e5) (wM_at0 _ _) rfl ts_287 ts_good rfl rfl ts_278 ts_288 dy_M_isHere (by decide) (Nat.le_of_ble_eq_true rfl) ts_289 ts_290 ?_
      refine J_if_eq (tgt := 97) d_M_closeOnce_53 (by decide) (fun c => ?_) (fun c => ?_)
      · have h := j_ifp c h
        refine J_iinc (v := (x4 + (1 : Int32))) d_M_closeOnce_97 rfl (by first | rfl | decide) (by decide) ?_
        refine J_goto (tgt := 40) d_M_closeOnce_100 (by decide) ?_
        exact ih _ _ _ _ h
      · have h := j_ifn c h
        refine J_aload_n d_M_closeOnce_56 rfl ?_
        refine J_iload_n d_M_closeOnce_57 rfl ?_
        refine J_iload d_M_closeOnce_58 rfl ?_
        obtain ⟨v8, e7, h⟩ := jb_some h
        refine J_cVi2 d_M_closeOnce_60 (c_M_below l _ _ _ _ _ e7) (wM_at0 _ _) rfl ts_291 ts_good rfl rfl ts_278 ts_292 dy_M_below (by decide) (Nat.le_of_ble_eq_true rfl) ts_293 ts_294 ?_
        refine J_if_eq (tgt := 97) d_M_closeOnce_63 (by decide) (fun c => ?_) (fun c => ?_)
        · have h := j_ifp c h
          refine J_iinc (v := (x4 + (1 : Int32))) d_M_closeOnce_97 rfl (by first | rfl | decide) (by decide) ?_
          refine J_goto (tgt := 40) d_M_closeOnce_100 (by decide) ?_
          exact ih _ _ _ _ h
        · have h := j_ifn c h
          refine J_aload_n d_M_closeOnce_66 rfl ?_
          refine J_get (j := 12) (v := .ref 6) d_M_closeOnce_67 (wM_at0 _ _) rfl in_5 (by decide) ts_282 rfl ?_
          refine J_bipush (v := (21 : Int32)) d_M_closeOnce_70 (by decide) ?_
          refine J_iload_n d_M_closeOnce_72 rfl ?_
          refine J_imul d_M_closeOnce_73 ?_
          refine J_iload d_M_closeOnce_74 rfl ?_
          refine J_iadd d_M_closeOnce_76 ?_
          obtain ⟨g, h⟩ := jg_some h
          refine J_iald (f := (a 6)) d_M_closeOnce_77 (wM_at6 _ _) (jin_in g) ?_
          refine J_iconst (v := (1 : Int32)) d_M_closeOnce_78 (by decide) ?_
          refine J_icmp_eq (tgt := 97) d_M_closeOnce_79 (by decide) (fun c => ?_) (fun c => ?_)
          · have h := j_ifp c h
            refine J_iinc (v := (x4 + (1 : Int32))) d_M_closeOnce_97 rfl (by first | rfl | decide) (by decide) ?_
            refine J_goto (tgt := 40) d_M_closeOnce_100 (by decide) ?_
            exact ih _ _ _ _ h
          · have h := j_ifn c h
            refine J_aload_n d_M_closeOnce_82 rfl ?_
            refine J_get (j := 12) (v := .ref 6) d_M_closeOnce_83 (wM_at0 _ _) rfl in_5 (by decide) ts_282 rfl ?_
            refine J_bipush (v := (21 : Int32)) d_M_closeOnce_86 (by decide) ?_
            refine J_iload_n d_M_closeOnce_88 rfl ?_
            refine J_imul d_M_closeOnce_89 ?_
            refine J_iload d_M_closeOnce_90 rfl ?_
            refine J_iadd d_M_closeOnce_92 ?_
            refine J_iconst (v := (1 : Int32)) d_M_closeOnce_93 (by decide) ?_
            obtain ⟨g, h⟩ := jg_some h
            refine J_iast (f := (a 6)) d_M_closeOnce_94 (wM_at6 _ _) (jin_in g) ?_
            refine J_eq (ws' := wM s (va_up a 6 (upd (a 6) ((((21 : Int32) * c2) + x4)).toNatClampNeg (1 : Int32)))) rfl rfl rfl (wM_ast6 _ _ _) ?_
            refine J_iconst (v := (1 : Int32)) d_M_closeOnce_95 (by decide) ?_
            refine J_istore_n d_M_closeOnce_96 (by decide) ?_
            refine J_iinc (v := (x4 + (1 : Int32))) d_M_closeOnce_97 rfl (by first | rfl | decide) (by decide) ?_
            refine J_goto (tgt := 40) d_M_closeOnce_100 (by decide) ?_
            exact ih _ _ _ _ h
def L_M_closeOnce_14 (c2 : Int32) (k109 : jS → jB → Int32 → Option (Int32 × jS × jB)) : Nat → jS → jB → Int32 → Int32 → Option (Int32 × jS × jB)
  | 0, _, _, _, _ => none
  | f + 1, s, a, x1, x3 => (if (20 : Int32) < x3 then k109 (s) (a) (x1) else jb (m_M_isHere s a x3) (fun v2 => (if v2 = (0 : Int32) then L_M_closeOnce_14 c2 k109 f (s) (a) (x1) ((x3 + (1 : Int32))) else jb (m_M_below s a c2 x3) (fun v4 => (if v4 = (0 : Int32) then L_M_closeOnce_14 c2 k109 f (s) (a) (x1) ((x3 + (1 : Int32))) else L_M_closeOnce_40 (c2) (x3) (fun s9 a10 x11 => L_M_closeOnce_14 c2 k109 f (s9) (a10) (x11) ((x3 + (1 : Int32)))) jF (s) (a) (x1) ((0 : Int32)))))))
set_option maxRecDepth 100000 in
set_option maxHeartbeats 4000000 in
theorem JL_M_closeOnce_14 (l : Launch) (c2 : Int32) (k109 : jS → jB → Int32 → Option (Int32 × jS × jB)) (r : Int32 × jS × jB) (hk109 : ∀ (s : jS) (a : jB) (x1 : Int32) (o3 : Option Value) (o4 : Option Value), k109 s a x1 = some r → K_M_closeOnce l 109 [some (.ref 0), some (.int x1), some (.int c2), o3, o4] [] (wM s a) (fun v w => v = some (.int r.1) ∧ w = wM r.2.1 r.2.2)) : ∀ (f : Nat), ∀ (s : jS) (a : jB) (x1 : Int32) (x3 : Int32) (o4 : Option Value), L_M_closeOnce_14 c2 k109 f s a x1 x3 = some r → K_M_closeOnce l 14 [some (.ref 0), some (.int x1), some (.int c2), some (.int x3), o4] [] (wM s a) (fun v w => v = some (.int r.1) ∧ w = wM r.2.1 r.2.2) := by
  intro f
  induction f with
  | zero =>
    intro s a x1 x3 o4 h
    cases h
  | succ f ih =>
    intro s a x1 x3 o4 h
    rw [L_M_closeOnce_14] at h
    refine J_iload_n d_M_closeOnce_14 rfl ?_
    refine J_bipush (v := (20 : Int32)) d_M_closeOnce_15 (by decide) ?_
    refine J_icmp_gt (tgt := 109) d_M_closeOnce_17 (by decide) (fun c => ?_) (fun c => ?_)
    · have h := j_ifp c h
      exact hk109 _ _ _ _ _ h
    · have h := j_ifn c h
      refine J_aload_n d_M_closeOnce_20 rfl ?_
      refine J_iload_n d_M_closeOnce_21 rfl ?_
      obtain ⟨v2, e1, h⟩ := jb_some h
      refine J_cVi1 d_M_closeOnce_22 (c_M_isHere l _ _ _ _ e1) (wM_at0 _ _) rfl ts_287 ts_good rfl rfl ts_278 ts_288 dy_M_isHere (by decide) (Nat.le_of_ble_eq_true rfl) ts_289 ts_290 ?_
      refine J_if_eq (tgt := 103) d_M_closeOnce_25 (by decide) (fun c => ?_) (fun c => ?_)
      · have h := j_ifp c h
        refine J_iinc (v := (x3 + (1 : Int32))) d_M_closeOnce_103 rfl (by first | rfl | decide) (by decide) ?_
        refine J_goto (tgt := 14) d_M_closeOnce_106 (by decide) ?_
        exact ih _ _ _ _ _ h
      · have h := j_ifn c h
        refine J_aload_n d_M_closeOnce_28 rfl ?_
        refine J_iload_n d_M_closeOnce_29 rfl ?_
        refine J_iload_n d_M_closeOnce_30 rfl ?_
        obtain ⟨v4, e3, h⟩ := jb_some h
        refine J_cVi2 d_M_closeOnce_31 (c_M_below l _ _ _ _ _ e3) (wM_at0 _ _) rfl ts_291 ts_good rfl rfl ts_278 ts_292 dy_M_below (by decide) (Nat.le_of_ble_eq_true rfl) ts_293 ts_294 ?_
        refine J_if_eq (tgt := 103) d_M_closeOnce_34 (by decide) (fun c => ?_) (fun c => ?_)
        · have h := j_ifp c h
          refine J_iinc (v := (x3 + (1 : Int32))) d_M_closeOnce_103 rfl (by first | rfl | decide) (by decide) ?_
          refine J_goto (tgt := 14) d_M_closeOnce_106 (by decide) ?_
          exact ih _ _ _ _ _ h
        · have h := j_ifn c h
          refine J_iconst (v := (0 : Int32)) d_M_closeOnce_37 (by decide) ?_
          refine J_istore d_M_closeOnce_38 (by decide) ?_
          refine JL_M_closeOnce_40 l _ _ _ r (fun s9 a10 x11 o12 h => ?_) jF _ _ _ _ h
          refine J_iinc (v := (x3 + (1 : Int32))) d_M_closeOnce_103 rfl (by first | rfl | decide) (by decide) ?_
          refine J_goto (tgt := 14) d_M_closeOnce_106 (by decide) ?_
          exact ih _ _ _ _ _ h
def L_M_closeOnce_4 (k115 : jS → jB → Int32 → Option (Int32 × jS × jB)) : Nat → jS → jB → Int32 → Int32 → Option (Int32 × jS × jB)
  | 0, _, _, _, _ => none
  | f + 1, s, a, x1, x2 => (if (s 1) ≤ x2 then k115 (s) (a) (x1) else L_M_closeOnce_14 (x2) (fun s13 a14 x15 => L_M_closeOnce_4 k115 f (s13) (a14) (x15) ((x2 + (1 : Int32)))) jF (s) (a) (x1) ((0 : Int32)))
set_option maxRecDepth 100000 in
set_option maxHeartbeats 4000000 in
theorem JL_M_closeOnce_4 (l : Launch) (k115 : jS → jB → Int32 → Option (Int32 × jS × jB)) (r : Int32 × jS × jB) (hk115 : ∀ (s : jS) (a : jB) (x1 : Int32) (o2 : Option Value) (o3 : Option Value) (o4 : Option Value), k115 s a x1 = some r → K_M_closeOnce l 115 [some (.ref 0), some (.int x1), o2, o3, o4] [] (wM s a) (fun v w => v = some (.int r.1) ∧ w = wM r.2.1 r.2.2)) : ∀ (f : Nat), ∀ (s : jS) (a : jB) (x1 : Int32) (x2 : Int32) (o3 : Option Value) (o4 : Option Value), L_M_closeOnce_4 k115 f s a x1 x2 = some r → K_M_closeOnce l 4 [some (.ref 0), some (.int x1), some (.int x2), o3, o4] [] (wM s a) (fun v w => v = some (.int r.1) ∧ w = wM r.2.1 r.2.2) := by
  intro f
  induction f with
  | zero =>
    intro s a x1 x2 o3 o4 h
    cases h
  | succ f ih =>
    intro s a x1 x2 o3 o4 h
    rw [L_M_closeOnce_4] at h
    refine J_iload_n d_M_closeOnce_4 rfl ?_
    refine J_aload_n d_M_closeOnce_5 rfl ?_
    refine J_get (j := 1) (v := .int (s 1)) d_M_closeOnce_6 (wM_at0 _ _) rfl in_5 (by decide) ts_270 rfl ?_
    refine J_icmp_ge (tgt := 115) d_M_closeOnce_9 (by decide) (fun c => ?_) (fun c => ?_)
    · have h := j_ifp c h
      exact hk115 _ _ _ _ _ _ h
    · have h := j_ifn c h
      refine J_iconst (v := (0 : Int32)) d_M_closeOnce_12 (by decide) ?_
      refine J_istore_n d_M_closeOnce_13 (by decide) ?_
      refine JL_M_closeOnce_14 l _ _ r (fun s13 a14 x15 o16 o17 h => ?_) jF _ _ _ _ _ h
      refine J_iinc (v := (x2 + (1 : Int32))) d_M_closeOnce_109 rfl (by first | rfl | decide) (by decide) ?_
      refine J_goto (tgt := 4) d_M_closeOnce_112 (by decide) ?_
      exact ih _ _ _ _ _ _ h
def L_M_closeOnce_127 (c2 : Int32) (k180 : jS → jB → Int32 → Option (Int32 × jS × jB)) : Nat → jS → jB → Int32 → Int32 → Option (Int32 × jS × jB)
  | 0, _, _, _, _ => none
  | f + 1, s, a, x1, x3 => (if (20 : Int32) < x3 then k180 (s) (a) (x1) else jb (m_M_isHere s a x3) (fun v25 => (if v25 = (0 : Int32) then L_M_closeOnce_127 c2 k180 f (s) (a) (x1) ((x3 + (1 : Int32))) else jg (jin (((21 : Int32) * c2) + x3) 420) ((if ((a 6) ((((21 : Int32) * c2) + x3)).toNatClampNeg) = (0 : Int32) then jb3 (m_M_spreadNo s a c2 x3) (fun v29 s27 a28 => jb (if v29 = (0 : Int32) then (if x1 = (0 : Int32) then some (0 : Int32) else some (1 : Int32)) else some (1 : Int32)) (fun b30 => L_M_closeOnce_127 c2 k180 f (s27) (a28) (b30) ((x3 + (1 : Int32))))) else L_M_closeOnce_127 c2 k180 f (s) (a) (x1) ((x3 + (1 : Int32))))))))
set_option maxRecDepth 100000 in
set_option maxHeartbeats 4000000 in
theorem JL_M_closeOnce_127 (l : Launch) (c2 : Int32) (k180 : jS → jB → Int32 → Option (Int32 × jS × jB)) (r : Int32 × jS × jB) (hk180 : ∀ (s : jS) (a : jB) (x1 : Int32) (o3 : Option Value) (o4 : Option Value), k180 s a x1 = some r → K_M_closeOnce l 180 [some (.ref 0), some (.int x1), some (.int c2), o3, o4] [] (wM s a) (fun v w => v = some (.int r.1) ∧ w = wM r.2.1 r.2.2)) : ∀ (f : Nat), ∀ (s : jS) (a : jB) (x1 : Int32) (x3 : Int32) (o4 : Option Value), L_M_closeOnce_127 c2 k180 f s a x1 x3 = some r → K_M_closeOnce l 127 [some (.ref 0), some (.int x1), some (.int c2), some (.int x3), o4] [] (wM s a) (fun v w => v = some (.int r.1) ∧ w = wM r.2.1 r.2.2) := by
  intro f
  induction f with
  | zero =>
    intro s a x1 x3 o4 h
    cases h
  | succ f ih =>
    intro s a x1 x3 o4 h
    rw [L_M_closeOnce_127] at h
    refine J_iload_n d_M_closeOnce_127 rfl ?_
    refine J_bipush (v := (20 : Int32)) d_M_closeOnce_128 (by decide) ?_
    refine J_icmp_gt (tgt := 180) d_M_closeOnce_130 (by decide) (fun c => ?_) (fun c => ?_)
    · have h := j_ifp c h
      exact hk180 _ _ _ _ _ h
    · have h := j_ifn c h
      refine J_aload_n d_M_closeOnce_133 rfl ?_
      refine J_iload_n d_M_closeOnce_134 rfl ?_
      obtain ⟨v25, e24, h⟩ := jb_some h
      refine J_cVi1 d_M_closeOnce_135 (c_M_isHere l _ _ _ _ e24) (wM_at0 _ _) rfl ts_287 ts_good rfl rfl ts_278 ts_288 dy_M_isHere (by decide) (Nat.le_of_ble_eq_true rfl) ts_289 ts_290 ?_
      refine J_if_eq (tgt := 174) d_M_closeOnce_138 (by decide) (fun c => ?_) (fun c => ?_)
      · have h := j_ifp c h
        refine J_iinc (v := (x3 + (1 : Int32))) d_M_closeOnce_174 rfl (by first | rfl | decide) (by decide) ?_
        refine J_goto (tgt := 127) d_M_closeOnce_177 (by decide) ?_
        exact ih _ _ _ _ _ h
      · have h := j_ifn c h
        refine J_aload_n d_M_closeOnce_141 rfl ?_
        refine J_get (j := 12) (v := .ref 6) d_M_closeOnce_142 (wM_at0 _ _) rfl in_5 (by decide) ts_282 rfl ?_
        refine J_bipush (v := (21 : Int32)) d_M_closeOnce_145 (by decide) ?_
        refine J_iload_n d_M_closeOnce_147 rfl ?_
        refine J_imul d_M_closeOnce_148 ?_
        refine J_iload_n d_M_closeOnce_149 rfl ?_
        refine J_iadd d_M_closeOnce_150 ?_
        obtain ⟨g, h⟩ := jg_some h
        refine J_iald (f := (a 6)) d_M_closeOnce_151 (wM_at6 _ _) (jin_in g) ?_
        refine J_if_ne (tgt := 174) d_M_closeOnce_152 (by decide) (fun c => ?_) (fun c => ?_)
        · have h := j_ifn c h
          refine J_iinc (v := (x3 + (1 : Int32))) d_M_closeOnce_174 rfl (by first | rfl | decide) (by decide) ?_
          refine J_goto (tgt := 127) d_M_closeOnce_177 (by decide) ?_
          exact ih _ _ _ _ _ h
        · have h := j_ifp c h
          refine J_aload_n d_M_closeOnce_155 rfl ?_
          refine J_iload_n d_M_closeOnce_156 rfl ?_
          refine J_iload_n d_M_closeOnce_157 rfl ?_
          obtain ⟨v29, s27, a28, e26, h⟩ := jb3_some h
          refine J_cVi2 d_M_closeOnce_158 (c_M_spreadNo l _ _ _ _ _ e26) (wM_at0 _ _) rfl ts_295 ts_good rfl rfl ts_278 ts_296 dy_M_spreadNo (by decide) (Nat.le_of_ble_eq_true rfl) ts_297 ts_298 ?_
          obtain ⟨b30, hb30, h⟩ := jb_some h
          have kb30 : K_M_closeOnce l 173 [some (.ref 0), some (.int x1), some (.int c2), some (.int x3), o4] [.int b30] (wM s27 a28) (fun v w => v = some (.int r.1) ∧ w = wM r.2.1 r.2.2) := by
            refine J_istore_n d_M_closeOnce_173 (by decide) ?_
            refine J_iinc (v := (x3 + (1 : Int32))) d_M_closeOnce_174 rfl (by first | rfl | decide) (by decide) ?_
            refine J_goto (tgt := 127) d_M_closeOnce_177 (by decide) ?_
            exact ih _ _ _ _ _ h
          clear h
          have h := hb30
          refine J_if_ne (tgt := 168) d_M_closeOnce_161 (by decide) (fun c => ?_) (fun c => ?_)
          · have h := j_ifn c h
            refine J_iconst (v := (1 : Int32)) d_M_closeOnce_168 (by decide) ?_
            refine J_goto (tgt := 173) d_M_closeOnce_169 (by decide) ?_
            cases h
            exact kb30
          · have h := j_ifp c h
            refine J_iload_n d_M_closeOnce_164 rfl ?_
            refine J_if_eq (tgt := 172) d_M_closeOnce_165 (by decide) (fun c => ?_) (fun c => ?_)
            · have h := j_ifp c h
              refine J_iconst (v := (0 : Int32)) d_M_closeOnce_172 (by decide) ?_
              cases h
              exact kb30
            · have h := j_ifn c h
              refine J_iconst (v := (1 : Int32)) d_M_closeOnce_168 (by decide) ?_
              refine J_goto (tgt := 173) d_M_closeOnce_169 (by decide) ?_
              cases h
              exact kb30
def L_M_closeOnce_117 (k186 : jS → jB → Int32 → Option (Int32 × jS × jB)) : Nat → jS → jB → Int32 → Int32 → Option (Int32 × jS × jB)
  | 0, _, _, _, _ => none
  | f + 1, s, a, x1, x2 => (if (s 1) ≤ x2 then k186 (s) (a) (x1) else L_M_closeOnce_127 (x2) (fun s31 a32 x33 => L_M_closeOnce_117 k186 f (s31) (a32) (x33) ((x2 + (1 : Int32)))) jF (s) (a) (x1) ((0 : Int32)))
set_option maxRecDepth 100000 in
set_option maxHeartbeats 4000000 in
theorem JL_M_closeOnce_117 (l : Launch) (k186 : jS → jB → Int32 → Option (Int32 × jS × jB)) (r : Int32 × jS × jB) (hk186 : ∀ (s : jS) (a : jB) (x1 : Int32) (o2 : Option Value) (o3 : Option Value) (o4 : Option Value), k186 s a x1 = some r → K_M_closeOnce l 186 [some (.ref 0), some (.int x1), o2, o3, o4] [] (wM s a) (fun v w => v = some (.int r.1) ∧ w = wM r.2.1 r.2.2)) : ∀ (f : Nat), ∀ (s : jS) (a : jB) (x1 : Int32) (x2 : Int32) (o3 : Option Value) (o4 : Option Value), L_M_closeOnce_117 k186 f s a x1 x2 = some r → K_M_closeOnce l 117 [some (.ref 0), some (.int x1), some (.int x2), o3, o4] [] (wM s a) (fun v w => v = some (.int r.1) ∧ w = wM r.2.1 r.2.2) := by
  intro f
  induction f with
  | zero =>
    intro s a x1 x2 o3 o4 h
    cases h
  | succ f ih =>
    intro s a x1 x2 o3 o4 h
    rw [L_M_closeOnce_117] at h
    refine J_iload_n d_M_closeOnce_117 rfl ?_
    refine J_aload_n d_M_closeOnce_118 rfl ?_
    refine J_get (j := 1) (v := .int (s 1)) d_M_closeOnce_119 (wM_at0 _ _) rfl in_5 (by decide) ts_270 rfl ?_
    refine J_icmp_ge (tgt := 186) d_M_closeOnce_122 (by decide) (fun c => ?_) (fun c => ?_)
    · have h := j_ifp c h
      exact hk186 _ _ _ _ _ _ h
    · have h := j_ifn c h
      refine J_iconst (v := (0 : Int32)) d_M_closeOnce_125 (by decide) ?_
      refine J_istore_n d_M_closeOnce_126 (by decide) ?_
      refine JL_M_closeOnce_127 l _ _ r (fun s31 a32 x33 o34 o35 h => ?_) jF _ _ _ _ _ h
      refine J_iinc (v := (x2 + (1 : Int32))) d_M_closeOnce_180 rfl (by first | rfl | decide) (by decide) ?_
      refine J_goto (tgt := 117) d_M_closeOnce_183 (by decide) ?_
      exact ih _ _ _ _ _ _ h
def m_M_closeOnce (s : jS) (a : jB) : Option (Int32 × jS × jB) := L_M_closeOnce_4 (fun s18 a19 x20 => L_M_closeOnce_117 (fun s36 a37 x38 => jg (jz x38) (some (x38, s36, a37))) jF (s18) (a19) (x20) ((0 : Int32))) jF (s) (a) ((0 : Int32)) ((0 : Int32))
set_option maxRecDepth 100000 in
set_option maxHeartbeats 4000000 in
theorem c_M_closeOnce (l : Launch) (s : jS) (a : jB) (r : Int32 × jS × jB) (h : m_M_closeOnce s a = some r) : JMet l vwCl NsG (.code y_M_closeOnce prog_7_method_9_code 5 (some .boolean) :: TsG) y_M_closeOnce rm_M_closeOnce [.ref 0] (wM s a) (fun v w => v = some (.int r.1) ∧ w = wM r.2.1 r.2.2) := by
  refine J_enter (by decide +kernel) rfl (Nat.le_of_ble_eq_true rfl) ?_
  unfold m_M_closeOnce at h
  refine J_eq (ls' := [some (.ref 0), none, none, none, none]) rfl rfl rfl rfl ?_
  refine J_iconst (v := (0 : Int32)) d_M_closeOnce_0 (by decide) ?_
  refine J_istore_n d_M_closeOnce_1 (by decide) ?_
  refine J_iconst (v := (0 : Int32)) d_M_closeOnce_2 (by decide) ?_
  refine J_istore_n d_M_closeOnce_3 (by decide) ?_
  refine JL_M_closeOnce_4 l _ r (fun s18 a19 x20 o21 o22 o23 h => ?_) jF _ _ _ _ _ _ h
  refine J_iconst (v := (0 : Int32)) d_M_closeOnce_115 (by decide) ?_
  refine J_istore_n d_M_closeOnce_116 (by decide) ?_
  refine JL_M_closeOnce_117 l _ r (fun s36 a37 x38 o39 o40 o41 h => ?_) jF _ _ _ _ _ _ h
  refine J_iload_n d_M_closeOnce_186 rfl ?_
  obtain ⟨g, h⟩ := jg_some h
  exact J_iret d_M_closeOnce_187 rfl (jz_nar g) (by cases h; exact ⟨rfl, rfl⟩)
abbrev rm_M_close : Room := { frames := 3, cells := 0, slots := 0, locals := 72 }
abbrev K_M_close (l : Launch) := JW l vwCl NsG TsG "ClassifySortModel" prog_7_method_11_code 2 none rm_M_close
def L_M_close_6 (k18 : jS → jB → Option (jS × jB)) : Nat → jS → jB → Int32 → Option (jS × jB)
  | 0, _, _, _ => none
  | f + 1, s, a, x1 => (if x1 = (0 : Int32) then k18 (s) (a) else jb3 (m_M_closeOnce s a) (fun v7 s5 a6 => L_M_close_6 k18 f (s5) (a6) (v7)))
set_option maxRecDepth 100000 in
set_option maxHeartbeats 4000000 in
theorem JL_M_close_6 (l : Launch) (k18 : jS → jB → Option (jS × jB)) (r : jS × jB) (hk18 : ∀ (s : jS) (a : jB) (o1 : Option Value), k18 s a = some r → K_M_close l 18 [some (.ref 0), o1] [] (wM s a) (fun v w => v = none ∧ w = wM r.1 r.2)) : ∀ (f : Nat), ∀ (s : jS) (a : jB) (x1 : Int32), L_M_close_6 k18 f s a x1 = some r → K_M_close l 6 [some (.ref 0), some (.int x1)] [] (wM s a) (fun v w => v = none ∧ w = wM r.1 r.2) := by
  intro f
  induction f with
  | zero =>
    intro s a x1 h
    cases h
  | succ f ih =>
    intro s a x1 h
    rw [L_M_close_6] at h
    refine J_iload_n d_M_close_6 rfl ?_
    refine J_if_eq (tgt := 18) d_M_close_7 (by decide) (fun c => ?_) (fun c => ?_)
    · have h := j_ifp c h
      exact hk18 _ _ _ h
    · have h := j_ifn c h
      refine J_aload_n d_M_close_10 rfl ?_
      obtain ⟨v7, s5, a6, e4, h⟩ := jb3_some h
      refine J_cVi0 d_M_close_11 (c_M_closeOnce l _ _ _ e4) (wM_at0 _ _) rfl ts_299 ts_good rfl rfl ts_278 ts_300 dy_M_closeOnce (by decide) (Nat.le_of_ble_eq_true rfl) ts_301 ts_302 ?_
      refine J_istore_n d_M_close_14 (by decide) ?_
      refine J_goto (tgt := 6) d_M_close_15 (by decide) ?_
      exact ih _ _ _ h
def m_M_close (s : jS) (a : jB) : Option (jS × jB) := jb2 (m_M_tellItself s a) (fun s2 a3 => L_M_close_6 (fun s8 a9 => some (s8, a9)) jF (s2) (a3) ((1 : Int32)))
set_option maxRecDepth 100000 in
set_option maxHeartbeats 4000000 in
theorem c_M_close (l : Launch) (s : jS) (a : jB) (r : jS × jB) (h : m_M_close s a = some r) : JMet l vwCl NsG (.code y_M_close prog_7_method_11_code 2 none :: TsG) y_M_close rm_M_close [.ref 0] (wM s a) (fun v w => v = none ∧ w = wM r.1 r.2) := by
  refine J_enter (by decide +kernel) rfl (Nat.le_of_ble_eq_true rfl) ?_
  unfold m_M_close at h
  refine J_eq (ls' := [some (.ref 0), none]) rfl rfl rfl rfl ?_
  refine J_aload_n d_M_close_0 rfl ?_
  obtain ⟨s2, a3, e1, h⟩ := jb2_some h
  refine J_cVv0 d_M_close_1 (c_M_tellItself l _ _ _ e1) (wM_at0 _ _) rfl ts_283 ts_good rfl rfl ts_278 ts_284 dy_M_tellItself (by decide) (Nat.le_of_ble_eq_true rfl) ts_285 ts_286 ?_
  refine J_iconst (v := (1 : Int32)) d_M_close_4 (by decide) ?_
  refine J_istore_n d_M_close_5 (by decide) ?_
  refine JL_M_close_6 l _ r (fun s8 a9 o10 h => ?_) jF _ _ _ h
  exact J_vret d_M_close_18 rfl (by cases h; exact ⟨rfl, rfl⟩)
abbrev rm_M_class0 : Room := { frames := 4, cells := 0, slots := 0, locals := 93 }
abbrev K_M_class0 (l : Launch) := JW l vwCl NsG TsG "ClassifySortModel" prog_7_method_15_code 1 (some .int) rm_M_class0
def m_M_class0 (s : jS) (a : jB) : Option (Int32 × jS × jB) := (if (s 1) = (20 : Int32) then some ((-4 : Int32), s, a) else jb2 (m_M_close (upd (upd s 1 ((s 1) + (1 : Int32))) 6 (0 : Int32)) a) (fun s2 a3 => some (((s2 1) - (1 : Int32)), s2, a3)))
set_option maxRecDepth 100000 in
set_option maxHeartbeats 4000000 in
theorem c_M_class0 (l : Launch) (s : jS) (a : jB) (r : Int32 × jS × jB) (h : m_M_class0 s a = some r) : JMet l vwCl NsG (.code y_M_class0 prog_7_method_15_code 1 (some .int) :: TsG) y_M_class0 rm_M_class0 [.ref 0] (wM s a) (fun v w => v = some (.int r.1) ∧ w = wM r.2.1 r.2.2) := by
  refine J_enter (by decide +kernel) rfl (Nat.le_of_ble_eq_true rfl) ?_
  unfold m_M_class0 at h
  refine J_eq (ls' := [some (.ref 0)]) rfl rfl rfl rfl ?_
  refine J_aload_n d_M_class0_0 rfl ?_
  refine J_get (j := 1) (v := .int (s 1)) d_M_class0_1 (wM_at0 _ _) rfl in_5 (by decide) ts_270 rfl ?_
  refine J_bipush (v := (20 : Int32)) d_M_class0_4 (by decide) ?_
  refine J_icmp_ne (tgt := 12) d_M_class0_6 (by decide) (fun c => ?_) (fun c => ?_)
  · have h := j_ifn c h
    refine J_aload_n d_M_class0_12 rfl ?_
    refine J_dup d_M_class0_13 rfl ?_
    refine J_get (j := 1) (v := .int (s 1)) d_M_class0_14 (wM_at0 _ _) rfl in_5 (by decide) ts_270 rfl ?_
    refine J_iconst (v := (1 : Int32)) d_M_class0_17 (by decide) ?_
    refine J_iadd d_M_class0_18 ?_
    refine J_put (j := 1) d_M_class0_19 (wM_at0 _ _) rfl in_5 ty_M tyok_M nok_M (by decide) ts_270 rfl (tyok_M 1 (by decide)) rfl rfl (Nat.le_of_ble_eq_true rfl) ?_
    refine J_eq rfl rfl rfl (wM_put1 _ _ _) ?_
    refine J_aload_n d_M_class0_22 rfl ?_
    refine J_iconst (v := (0 : Int32)) d_M_class0_23 (by decide) ?_
    refine J_put (j := 6) d_M_class0_24 (wM_at0 _ _) rfl in_5 ty_M tyok_M nok_M (by decide) ts_271 rfl (tyok_M 6 (by decide)) (by decide) (by decide) (Nat.le_of_ble_eq_true rfl) ?_
    refine J_eq rfl rfl rfl (wM_put6 _ _ _) ?_
    refine J_aload_n d_M_class0_27 rfl ?_
    obtain ⟨s2, a3, e1, h⟩ := jb2_some h
    refine J_cVv0 d_M_class0_28 (c_M_close l _ _ _ e1) (wM_at0 _ _) rfl ts_303 ts_good rfl rfl ts_278 ts_304 dy_M_close (by decide) (Nat.le_of_ble_eq_true rfl) ts_305 ts_306 ?_
    refine J_aload_n d_M_class0_31 rfl ?_
    refine J_get (j := 1) (v := .int (s2 1)) d_M_class0_32 (wM_at0 _ _) rfl in_5 (by decide) ts_270 rfl ?_
    refine J_iconst (v := (1 : Int32)) d_M_class0_35 (by decide) ?_
    refine J_isub d_M_class0_36 ?_
    exact J_iret d_M_class0_37 rfl rfl (by cases h; exact ⟨rfl, rfl⟩)
  · have h := j_ifp c h
    refine J_bipush (v := (-4 : Int32)) d_M_class0_9 (by decide) ?_
    exact J_iret d_M_class0_11 rfl rfl (by cases h; exact ⟨rfl, rfl⟩)
abbrev rm_M_thing : Room := { frames := 0, cells := 0, slots := 0, locals := 0 }
abbrev K_M_thing (l : Launch) := JW l vwCl NsG TsG "ClassifySortModel" prog_7_method_16_code 1 (some .int) rm_M_thing
def m_M_thing (s : jS) (a : jB) : Option (Int32 × jS × jB) := (if (s 2) = (8 : Int32) then some ((-4 : Int32), s, a) else some ((((s 2) + (1 : Int32)) - (1 : Int32)), (upd s 2 ((s 2) + (1 : Int32))), a))
set_option maxRecDepth 100000 in
set_option maxHeartbeats 4000000 in
theorem c_M_thing (l : Launch) (s : jS) (a : jB) (r : Int32 × jS × jB) (h : m_M_thing s a = some r) : JMet l vwCl NsG (.code y_M_thing prog_7_method_16_code 1 (some .int) :: TsG) y_M_thing rm_M_thing [.ref 0] (wM s a) (fun v w => v = some (.int r.1) ∧ w = wM r.2.1 r.2.2) := by
  refine J_enter (by decide +kernel) rfl (Nat.le_of_ble_eq_true rfl) ?_
  unfold m_M_thing at h
  refine J_eq (ls' := [some (.ref 0)]) rfl rfl rfl rfl ?_
  refine J_aload_n d_M_thing_0 rfl ?_
  refine J_get (j := 2) (v := .int (s 2)) d_M_thing_1 (wM_at0 _ _) rfl in_5 (by decide) ts_307 rfl ?_
  refine J_bipush (v := (8 : Int32)) d_M_thing_4 (by decide) ?_
  refine J_icmp_ne (tgt := 12) d_M_thing_6 (by decide) (fun c => ?_) (fun c => ?_)
  · have h := j_ifn c h
    refine J_aload_n d_M_thing_12 rfl ?_
    refine J_dup d_M_thing_13 rfl ?_
    refine J_get (j := 2) (v := .int (s 2)) d_M_thing_14 (wM_at0 _ _) rfl in_5 (by decide) ts_307 rfl ?_
    refine J_iconst (v := (1 : Int32)) d_M_thing_17 (by decide) ?_
    refine J_iadd d_M_thing_18 ?_
    refine J_put (j := 2) d_M_thing_19 (wM_at0 _ _) rfl in_5 ty_M tyok_M nok_M (by decide) ts_307 rfl (tyok_M 2 (by decide)) rfl rfl (Nat.le_of_ble_eq_true rfl) ?_
    refine J_eq rfl rfl rfl (wM_put2 _ _ _) ?_
    refine J_aload_n d_M_thing_22 rfl ?_
    refine J_get (j := 2) (v := .int ((s 2) + (1 : Int32))) d_M_thing_23 (wM_at0 _ _) rfl in_5 (by decide) ts_307 rfl ?_
    refine J_iconst (v := (1 : Int32)) d_M_thing_26 (by decide) ?_
    refine J_isub d_M_thing_27 ?_
    exact J_iret d_M_thing_28 rfl rfl (by cases h; exact ⟨rfl, rfl⟩)
  · have h := j_ifp c h
    refine J_bipush (v := (-4 : Int32)) d_M_thing_9 (by decide) ?_
    exact J_iret d_M_thing_11 rfl rfl (by cases h; exact ⟨rfl, rfl⟩)
abbrev rm_M_isClass : Room := { frames := 0, cells := 0, slots := 0, locals := 0 }
abbrev K_M_isClass (l : Launch) := JW l vwCl NsG TsG "ClassifySortModel" prog_7_method_3_code 2 (some .boolean) rm_M_isClass
def m_M_isClass (s : jS) (a : jB) (p0 : Int32) : Option (Int32) := jb (if p0 < (0 : Int32) then some (0 : Int32) else (if (s 1) ≤ p0 then some (0 : Int32) else some (1 : Int32))) (fun b1 => jg (jz b1) (some (b1)))
set_option maxRecDepth 100000 in
set_option maxHeartbeats 4000000 in
theorem c_M_isClass (l : Launch) (s : jS) (a : jB) (p0 : Int32) (r : Int32) (h : m_M_isClass s a p0 = some r) : JMet l vwCl NsG (.code y_M_isClass prog_7_method_3_code 2 (some .boolean) :: TsG) y_M_isClass rm_M_isClass [.ref 0, .int p0] (wM s a) (fun v w => v = some (.int r) ∧ w = wM s a) := by
  refine J_enter (by decide +kernel) rfl (Nat.le_of_ble_eq_true rfl) ?_
  unfold m_M_isClass at h
  refine J_eq (ls' := [some (.ref 0), some (.int p0)]) rfl rfl rfl rfl ?_
  refine J_iload_n d_M_isClass_0 rfl ?_
  obtain ⟨b1, hb1, h⟩ := jb_some h
  have kb1 : K_M_isClass l 17 [some (.ref 0), some (.int p0)] [.int b1] (wM s a) (fun v w => v = some (.int r) ∧ w = wM s a) := by
    obtain ⟨g, h⟩ := jg_some h
    exact J_iret d_M_isClass_17 rfl (jz_nar g) (by cases h; exact ⟨rfl, rfl⟩)
  clear h
  have h := hb1
  refine J_if_lt (tgt := 16) d_M_isClass_1 (by decide) (fun c => ?_) (fun c => ?_)
  · have h := j_ifp c h
    refine J_iconst (v := (0 : Int32)) d_M_isClass_16 (by decide) ?_
    cases h
    exact kb1
  · have h := j_ifn c h
    refine J_iload_n d_M_isClass_4 rfl ?_
    refine J_aload_n d_M_isClass_5 rfl ?_
    refine J_get (j := 1) (v := .int (s 1)) d_M_isClass_6 (wM_at0 _ _) rfl in_5 (by decide) ts_270 rfl ?_
    refine J_icmp_ge (tgt := 16) d_M_isClass_9 (by decide) (fun c => ?_) (fun c => ?_)
    · have h := j_ifp c h
      refine J_iconst (v := (0 : Int32)) d_M_isClass_16 (by decide) ?_
      cases h
      exact kb1
    · have h := j_ifn c h
      refine J_iconst (v := (1 : Int32)) d_M_isClass_12 (by decide) ?_
      refine J_goto (tgt := 17) d_M_isClass_13 (by decide) ?_
      cases h
      exact kb1
abbrev rm_M_isTouched : Room := { frames := 0, cells := 0, slots := 0, locals := 0 }
abbrev K_M_isTouched (l : Launch) := JW l vwCl NsG TsG "ClassifySortModel" prog_7_method_17_code 7 (some .boolean) rm_M_isTouched
def L_M_isTouched_2 (c1 : Int32) (k30 : jS → jB → Option (Int32 × jS × jB)) : Nat → jS → jB → Int32 → Option (Int32 × jS × jB)
  | 0, _, _, _ => none
  | f + 1, s, a, x3 => (if (20 : Int32) < x3 then k30 (s) (a) else jb (if x3 = c1 then some (1 : Int32) else some (0 : Int32)) (fun b1 => jg (jin x3 21) (L_M_isTouched_2 c1 k30 f (s) ((va_up a 14 (upd (a 14) (x3).toNatClampNeg (vp_nar .boolean b1)))) ((x3 + (1 : Int32))))))
set_option maxRecDepth 100000 in
set_option maxHeartbeats 4000000 in
theorem JL_M_isTouched_2 (l : Launch) (c1 : Int32) (c2 : Int32) (k30 : jS → jB → Option (Int32 × jS × jB)) (r : Int32 × jS × jB) (hk30 : ∀ (s : jS) (a : jB) (o3 : Option Value) (o4 : Option Value) (o5 : Option Value) (o6 : Option Value), k30 s a = some r → K_M_isTouched l 30 [some (.ref 0), some (.int c1), some (.int c2), o3, o4, o5, o6] [] (wM s a) (fun v w => v = some (.int r.1) ∧ w = wM r.2.1 r.2.2)) : ∀ (f : Nat), ∀ (s : jS) (a : jB) (x3 : Int32) (o4 : Option Value) (o5 : Option Value) (o6 : Option Value), L_M_isTouched_2 c1 k30 f s a x3 = some r → K_M_isTouched l 2 [some (.ref 0), some (.int c1), some (.int c2), some (.int x3), o4, o5, o6] [] (wM s a) (fun v w => v = some (.int r.1) ∧ w = wM r.2.1 r.2.2) := by
  intro f
  induction f with
  | zero =>
    intro s a x3 o4 o5 o6 h
    cases h
  | succ f ih =>
    intro s a x3 o4 o5 o6 h
    rw [L_M_isTouched_2] at h
    refine J_iload_n d_M_isTouched_2 rfl ?_
    refine J_bipush (v := (20 : Int32)) d_M_isTouched_3 (by decide) ?_
    refine J_icmp_gt (tgt := 30) d_M_isTouched_5 (by decide) (fun c => ?_) (fun c => ?_)
    · have h := j_ifp c h
      exact hk30 _ _ _ _ _ _ h
    · have h := j_ifn c h
      refine J_aload_n d_M_isTouched_8 rfl ?_
      refine J_get (j := 21) (v := .ref 14) d_M_isTouched_9 (wM_at0 _ _) rfl in_5 (by decide) ts_312 rfl ?_
      refine J_iload_n d_M_isTouched_12 rfl ?_
      refine J_iload_n d_M_isTouched_13 rfl ?_
      refine J_iload_n d_M_isTouched_14 rfl ?_
      obtain ⟨b1, hb1, h⟩ := jb_some h
      have kb1 : K_M_isTouched l 23 [some (.ref 0), some (.int c1), some (.int c2), some (.int x3), o4, o5, o6] [.int b1, .int x3, .ref 14] (wM s a) (fun v w => v = some (.int r.1) ∧ w = wM r.2.1 r.2.2) := by
        obtain ⟨g, h⟩ := jg_some h
        refine J_zast (f := (a 14)) d_M_isTouched_23 (wM_at14 _ _) (jin_in g) ?_
        refine J_eq (ws' := wM s (va_up a 14 (upd (a 14) (x3).toNatClampNeg (vp_nar .boolean b1)))) rfl rfl rfl (wM_ast14 _ _ _) ?_
        refine J_iinc (v := (x3 + (1 : Int32))) d_M_isTouched_24 rfl (by first | rfl | decide) (by decide) ?_
        refine J_goto (tgt := 2) d_M_isTouched_27 (by decide) ?_
        exact ih _ _ _ _ _ _ h
      clear h
      have h := hb1
      refine J_icmp_ne (tgt := 22) d_M_isTouched_15 (by decide) (fun c => ?_) (fun c => ?_)
      · have h := j_ifn c h
        refine J_iconst (v := (0 : Int32)) d_M_isTouched_22 (by decide) ?_
        cases h
        exact kb1
      · have h := j_ifp c h
        refine J_iconst (v := (1 : Int32)) d_M_isTouched_18 (by decide) ?_
        refine J_goto (tgt := 23) d_M_isTouched_19 (by decide) ?_
        cases h
        exact kb1
def L_M_isTouched_41 (k236 : jS → jB → Int32 → Option (Int32 × jS × jB)) : Nat → jS → jB → Int32 → Int32 → Option (Int32 × jS × jB)
  | 0, _, _, _, _ => none
  | f + 1, s, a, x3, x4 => (if (s 3) ≤ x4 then k236 (s) (a) (x3) else jg (jin x4 40) (jb (if ((a 4) (x4).toNatClampNeg) = (0 : Int32) then some (0 : Int32) else jg (jin x4 40) (jg (jin ((a 1) (x4).toNatClampNeg) 21) ((if ((a 14) (((a 1) (x4).toNatClampNeg)).toNatClampNeg) = (0 : Int32) then jg (jin x4 40) ((if ((a 2) (x4).toNatClampNeg) < (0 : Int32) then some (0 : Int32) else jg (jin x4 40) (jg (jin ((a 2) (x4).toNatClampNeg) 21) ((if ((a 14) (((a 2) (x4).toNatClampNeg)).toNatClampNeg) = (0 : Int32) then some (0 : Int32) else some (1 : Int32)))))) else some (1 : Int32))))) (fun b8 => jg (jin x4 40) (jg (jin ((a 1) (x4).toNatClampNeg) 21) (jb (if ((a 14) (((a 1) (x4).toNatClampNeg)).toNatClampNeg) = (0 : Int32) then some (0 : Int32) else jg (jin x4 40) ((if ((a 2) (x4).toNatClampNeg) < (0 : Int32) then jg (jin x4 40) (jg (jin ((a 3) (x4).toNatClampNeg) 21) ((if ((a 14) (((a 3) (x4).toNatClampNeg)).toNatClampNeg) = (0 : Int32) then some (0 : Int32) else some (1 : Int32)))) else jg (jin x4 40) (jg (jin ((a 2) (x4).toNatClampNeg) 21) ((if ((a 14) (((a 2) (x4).toNatClampNeg)).toNatClampNeg) = (0 : Int32) then some (0 : Int32) else jg (jin x4 40) (jg (jin ((a 3) (x4).toNatClampNeg) 21) ((if ((a 14) (((a 3) (x4).toNatClampNeg)).toNatClampNeg) = (0 : Int32) then some (0 : Int32) else some (1 : Int32)))))))))) (fun b9 => (if b8 = (0 : Int32) then L_M_isTouched_41 k236 f (s) (a) (x3) ((x4 + (1 : Int32))) else (if b9 = (0 : Int32) then jg (jin x4 40) (jg (jin ((a 1) (x4).toNatClampNeg) 21) (jg (jin x4 40) ((if (((va_up a 14 (upd (a 14) (((a 1) (x4).toNatClampNeg)).toNatClampNeg (1 : Int32))) 2) (x4).toNatClampNeg) < (0 : Int32) then jg (jin x4 40) (jg (jin (((va_up a 14 (upd (a 14) (((a 1) (x4).toNatClampNeg)).toNatClampNeg (1 : Int32))) 3) (x4).toNatClampNeg) 21) (L_M_isTouched_41 k236 f (s) ((va_up (va_up a 14 (upd (a 14) (((a 1) (x4).toNatClampNeg)).toNatClampNeg (1 : Int32))) 14 (upd (upd (a 14) (((a 1) (x4).toNatClampNeg)).toNatClampNeg (1 : Int32)) ((((va_up a 14 (upd (a 14) (((a 1) (x4).toNatClampNeg)).toNatClampNeg (1 : Int32))) 3) (x4).toNatClampNeg)).toNatClampNeg (1 : Int32)))) ((1 : Int32)) ((x4 + (1 : Int32))))) else jg (jin x4 40) (jg (jin (((va_up a 14 (upd (a 14) (((a 1) (x4).toNatClampNeg)).toNatClampNeg (1 : Int32))) 2) (x4).toNatClampNeg) 21) (jg (jin x4 40) (jg (jin (((va_up (va_up a 14 (upd (a 14) (((a 1) (x4).toNatClampNeg)).toNatClampNeg (1 : Int32))) 14 (upd (upd (a 14) (((a 1) (x4).toNatClampNeg)).toNatClampNeg (1 : Int32)) ((((va_up a 14 (upd (a 14) (((a 1) (x4).toNatClampNeg)).toNatClampNeg (1 : Int32))) 2) (x4).toNatClampNeg)).toNatClampNeg (1 : Int32))) 3) (x4).toNatClampNeg) 21) (L_M_isTouched_41 k236 f (s) ((va_up (va_up (va_up a 14 (upd (a 14) (((a 1) (x4).toNatClampNeg)).toNatClampNeg (1 : Int32))) 14 (upd (upd (a 14) (((a 1) (x4).toNatClampNeg)).toNatClampNeg (1 : Int32)) ((((va_up a 14 (upd (a 14) (((a 1) (x4).toNatClampNeg)).toNatClampNeg (1 : Int32))) 2) (x4).toNatClampNeg)).toNatClampNeg (1 : Int32))) 14 (upd (upd (upd (a 14) (((a 1) (x4).toNatClampNeg)).toNatClampNeg (1 : Int32)) ((((va_up a 14 (upd (a 14) (((a 1) (x4).toNatClampNeg)).toNatClampNeg (1 : Int32))) 2) (x4).toNatClampNeg)).toNatClampNeg (1 : Int32)) ((((va_up (va_up a 14 (upd (a 14) (((a 1) (x4).toNatClampNeg)).toNatClampNeg (1 : Int32))) 14 (upd (upd (a 14) (((a 1) (x4).toNatClampNeg)).toNatClampNeg (1 : Int32)) ((((va_up a 14 (upd (a 14) (((a 1) (x4).toNatClampNeg)).toNatClampNeg (1 : Int32))) 2) (x4).toNatClampNeg)).toNatClampNeg (1 : Int32))) 3) (x4).toNatClampNeg)).toNatClampNeg (1 : Int32)))) ((1 : Int32)) ((x4 + (1 : Int32))))))))))) else L_M_isTouched_41 k236 f (s) (a) (x3) ((x4 + (1 : Int32)))))))))))
set_option maxRecDepth 100000 in
set_option maxHeartbeats 4000000 in
theorem JL_M_isTouched_41 (l : Launch) (c2 : Int32) (k236 : jS → jB → Int32 → Option (Int32 × jS × jB)) (r : Int32 × jS × jB) (hk236 : ∀ (s : jS) (a : jB) (x3 : Int32) (o1 : Option Value) (o4 : Option Value) (o5 : Option Value) (o6 : Option Value), k236 s a x3 = some r → K_M_isTouched l 236 [some (.ref 0), o1, some (.int c2), some (.int x3), o4, o5, o6] [] (wM s a) (fun v w => v = some (.int r.1) ∧ w = wM r.2.1 r.2.2)) : ∀ (f : Nat), ∀ (s : jS) (a : jB) (x3 : Int32) (x4 : Int32) (o1 : Option Value) (o5 : Option Value) (o6 : Option Value), L_M_isTouched_41 k236 f s a x3 x4 = some r → K_M_isTouched l 41 [some (.ref 0), o1, some (.int c2), some (.int x3), some (.int x4), o5, o6] [] (wM s a) (fun v w => v = some (.int r.1) ∧ w = wM r.2.1 r.2.2) := by
  intro f
  induction f with
  | zero =>
    intro s a x3 x4 o1 o5 o6 h
    cases h
  | succ f ih =>
    intro s a x3 x4 o1 o5 o6 h
    rw [L_M_isTouched_41] at h
    refine J_iload d_M_isTouched_41 rfl ?_
    refine J_aload_n d_M_isTouched_43 rfl ?_
    refine J_get (j := 3) (v := .int (s 3)) d_M_isTouched_44 (wM_at0 _ _) rfl in_5 (by decide) ts_272 rfl ?_
    refine J_icmp_ge (tgt := 236) d_M_isTouched_47 (by decide) (fun c => ?_) (fun c => ?_)
    · have h := j_ifp c h
      exact hk236 _ _ _ _ _ _ _ h
    · have h := j_ifn c h
      refine J_aload_n d_M_isTouched_50 rfl ?_
      refine J_get (j := 10) (v := .ref 4) d_M_isTouched_51 (wM_at0 _ _) rfl in_5 (by decide) ts_273 rfl ?_
      refine J_iload d_M_isTouched_54 rfl ?_
      obtain ⟨g, h⟩ := jg_some h
      refine J_zald (f := (a 4)) d_M_isTouched_56 (wM_at4 _ _) (jin_in g) ?_
      obtain ⟨b8, hb8, h⟩ := jb_some h
      have kb8 : K_M_isTouched l 105 [some (.ref 0), o1, some (.int c2), some (.int x3), some (.int x4), o5, o6] [.int b8] (wM s a) (fun v w => v = some (.int r.1) ∧ w = wM r.2.1 r.2.2) := by
        refine J_istore d_M_isTouched_105 (by decide) ?_
        refine J_aload_n d_M_isTouched_107 rfl ?_
        refine J_get (j := 21) (v := .ref 14) d_M_isTouched_108 (wM_at0 _ _) rfl in_5 (by decide) ts_312 rfl ?_
        refine J_aload_n d_M_isTouched_111 rfl ?_
        refine J_get (j := 7) (v := .ref 1) d_M_isTouched_112 (wM_at0 _ _) rfl in_5 (by decide) ts_274 rfl ?_
        refine J_iload d_M_isTouched_115 rfl ?_
        obtain ⟨g, h⟩ := jg_some h
        refine J_iald (f := (a 1)) d_M_isTouched_117 (wM_at1 _ _) (jin_in g) ?_
        obtain ⟨g, h⟩ := jg_some h
        refine J_zald (f := (a 14)) d_M_isTouched_118 (wM_at14 _ _) (jin_in g) ?_
        obtain ⟨b9, hb9, h⟩ := jb_some h
        have kb9 : K_M_isTouched l 167 [some (.ref 0), o1, some (.int c2), some (.int x3), some (.int x4), some (.int b8), o6] [.int b9] (wM s a) (fun v w => v = some (.int r.1) ∧ w = wM r.2.1 r.2.2) := by
          refine J_istore d_M_isTouched_167 (by decide) ?_
          refine J_iload d_M_isTouched_169 rfl ?_
          refine J_if_eq (tgt := 230) d_M_isTouched_171 (by decide) (fun c => ?_) (fun c => ?_)
          · have h := j_ifp c h
            refine J_iinc (v := (x4 + (1 : Int32))) d_M_isTouched_230 rfl (by first | rfl | decide) (by decide) ?_
            refine J_goto (tgt := 41) d_M_isTouched_233 (by decide) ?_
            exact ih _ _ _ _ _ _ _ h
          · have h := j_ifn c h
            refine J_iload d_M_isTouched_174 rfl ?_
            refine J_if_ne (tgt := 230) d_M_isTouched_176 (by decide) (fun c => ?_) (fun c => ?_)
            · have h := j_ifn c h
              refine J_iinc (v := (x4 + (1 : Int32))) d_M_isTouched_230 rfl (by first | rfl | decide) (by decide) ?_
              refine J_goto (tgt := 41) d_M_isTouched_233 (by decide) ?_
              exact ih _ _ _ _ _ _ _ h
            · have h := j_ifp c h
              refine J_aload_n d_M_isTouched_179 rfl ?_
              refine J_get (j := 21) (v := .ref 14) d_M_isTouched_180 (wM_at0 _ _) rfl in_5 (by decide) ts_312 rfl ?_
              refine J_aload_n d_M_isTouched_183 rfl ?_
              refine J_get (j := 7) (v := .ref 1) d_M_isTouched_184 (wM_at0 _ _) rfl in_5 (by decide) ts_274 rfl ?_
              refine J_iload d_M_isTouched_187 rfl ?_
              obtain ⟨g, h⟩ := jg_some h
              refine J_iald (f := (a 1)) d_M_isTouched_189 (wM_at1 _ _) (jin_in g) ?_
              refine J_iconst (v := (1 : Int32)) d_M_isTouched_190 (by decide) ?_
              obtain ⟨g, h⟩ := jg_some h
              refine J_zast (f := (a 14)) d_M_isTouched_191 (wM_at14 _ _) (jin_in g) ?_
              refine J_eq (ws' := wM s (va_up a 14 (upd (a 14) (((a 1) (x4).toNatClampNeg)).toNatClampNeg (1 : Int32)))) rfl rfl rfl (wM_ast14 _ _ _) ?_
              refine J_aload_n d_M_isTouched_192 rfl ?_
              refine J_get (j := 8) (v := .ref 2) d_M_isTouched_193 (wM_at0 _ _) rfl in_5 (by decide) ts_275 rfl ?_
              refine J_iload d_M_isTouched_196 rfl ?_
              obtain ⟨g, h⟩ := jg_some h
              refine J_iald (f := ((va_up a 14 (upd (a 14) (((a 1) (x4).toNatClampNeg)).toNatClampNeg (1 : Int32))) 2)) d_M_isTouched_198 (wM_at2 _ _) (jin_in g) ?_
              refine J_if_lt (tgt := 215) d_M_isTouched_199 (by decide) (fun c => ?_) (fun c => ?_)
              · have h := j_ifp c h
                refine J_aload_n d_M_isTouched_215 rfl ?_
                refine J_get (j := 21) (v := .ref 14) d_M_isTouched_216 (wM_at0 _ _) rfl in_5 (by decide) ts_312 rfl ?_
                refine J_aload_n d_M_isTouched_219 rfl ?_
                refine J_get (j := 9) (v := .ref 3) d_M_isTouched_220 (wM_at0 _ _) rfl in_5 (by decide) ts_276 rfl ?_
                refine J_iload d_M_isTouched_223 rfl ?_
                obtain ⟨g, h⟩ := jg_some h
                refine J_iald (f := ((va_up a 14 (upd (a 14) (((a 1) (x4).toNatClampNeg)).toNatClampNeg (1 : Int32))) 3)) d_M_isTouched_225 (wM_at3 _ _) (jin_in g) ?_
                refine J_iconst (v := (1 : Int32)) d_M_isTouched_226 (by decide) ?_
                obtain ⟨g, h⟩ := jg_some h
                refine J_zast (f := (upd (a 14) (((a 1) (x4).toNatClampNeg)).toNatClampNeg (1 : Int32))) d_M_isTouched_227 (wM_at14 _ _) (jin_in g) ?_
                refine J_eq (ws' := wM s (va_up (va_up a 14 (upd (a 14) (((a 1) (x4).toNatClampNeg)).toNatClampNeg (1 : Int32))) 14 (upd (upd (a 14) (((a 1) (x4).toNatClampNeg)).toNatClampNeg (1 : Int32)) ((((va_up a 14 (upd (a 14) (((a 1) (x4).toNatClampNeg)).toNatClampNeg (1 : Int32))) 3) (x4).toNatClampNeg)).toNatClampNeg (1 : Int32)))) rfl rfl rfl (wM_ast14 _ _ _) ?_
                refine J_iconst (v := (1 : Int32)) d_M_isTouched_228 (by decide) ?_
                refine J_istore_n d_M_isTouched_229 (by decide) ?_
                refine J_iinc (v := (x4 + (1 : Int32))) d_M_isTouched_230 rfl (by first | rfl | decide) (by decide) ?_
                refine J_goto (tgt := 41) d_M_isTouched_233 (by decide) ?_
                exact ih _ _ _ _ _ _ _ h
              · have h := j_ifn c h
                refine J_aload_n d_M_isTouched_202 rfl ?_
                refine J_get (j := 21) (v := .ref 14) d_M_isTouched_203 (wM_at0 _ _) rfl in_5 (by decide) ts_312 rfl ?_
                refine J_aload_n d_M_isTouched_206 rfl ?_
                refine J_get (j := 8) (v := .ref 2) d_M_isTouched_207 (wM_at0 _ _) rfl in_5 (by decide) ts_275 rfl ?_
                refine J_iload d_M_isTouched_210 rfl ?_
                obtain ⟨g, h⟩ := jg_some h
                refine J_iald (f := ((va_up a 14 (upd (a 14) (((a 1) (x4).toNatClampNeg)).toNatClampNeg (1 : Int32))) 2)) d_M_isTouched_212 (wM_at2 _ _) (jin_in g) ?_
                refine J_iconst (v := (1 : Int32)) d_M_isTouched_213 (by decide) ?_
                obtain ⟨g, h⟩ := jg_some h
                refine J_zast (f := (upd (a 14) (((a 1) (x4).toNatClampNeg)).toNatClampNeg (1 : Int32))) d_M_isTouched_214 (wM_at14 _ _) (jin_in g) ?_
                refine J_eq (ws' := wM s (va_up (va_up a 14 (upd (a 14) (((a 1) (x4).toNatClampNeg)).toNatClampNeg (1 : Int32))) 14 (upd (upd (a 14) (((a 1) (x4).toNatClampNeg)).toNatClampNeg (1 : Int32)) ((((va_up a 14 (upd (a 14) (((a 1) (x4).toNatClampNeg)).toNatClampNeg (1 : Int32))) 2) (x4).toNatClampNeg)).toNatClampNeg (1 : Int32)))) rfl rfl rfl (wM_ast14 _ _ _) ?_
                refine J_aload_n d_M_isTouched_215 rfl ?_
                refine J_get (j := 21) (v := .ref 14) d_M_isTouched_216 (wM_at0 _ _) rfl in_5 (by decide) ts_312 rfl ?_
                refine J_aload_n d_M_isTouched_219 rfl ?_
                refine J_get (j := 9) (v := .ref 3) d_M_isTouched_220 (wM_at0 _ _) rfl in_5 (by decide) ts_276 rfl ?_
                refine J_iload d_M_isTouched_223 rfl ?_
                obtain ⟨g, h⟩ := jg_some h
                refine J_iald (f := ((va_up (va_up a 14 (upd (a 14) (((a 1) (x4).toNatClampNeg)).toNatClampNeg (1 : Int32))) 14 (upd (upd (a 14) (((a 1) (x4).toNatClampNeg)).toNatClampNeg (1 : Int32)) ((((va_up a 14 (upd (a 14) (((a 1) (x4).toNatClampNeg)).toNatClampNeg (1 : Int32))) 2) (x4).toNatClampNeg)).toNatClampNeg (1 : Int32))) 3)) d_M_isTouched_225 (wM_at3 _ _) (jin_in g) ?_
                refine J_iconst (v := (1 : Int32)) d_M_isTouched_226 (by decide) ?_
                obtain ⟨g, h⟩ := jg_some h
                refine J_zast (f := (upd (upd (a 14) (((a 1) (x4).toNatClampNeg)).toNatClampNeg (1 : Int32)) ((((va_up a 14 (upd (a 14) (((a 1) (x4).toNatClampNeg)).toNatClampNeg (1 : Int32))) 2) (x4).toNatClampNeg)).toNatClampNeg (1 : Int32))) d_M_isTouched_227 (wM_at14 _ _) (jin_in g) ?_
                refine J_eq (ws' := wM s (va_up (va_up (va_up a 14 (upd (a 14) (((a 1) (x4).toNatClampNeg)).toNatClampNeg (1 : Int32))) 14 (upd (upd (a 14) (((a 1) (x4).toNatClampNeg)).toNatClampNeg (1 : Int32)) ((((va_up a 14 (upd (a 14) (((a 1) (x4).toNatClampNeg)).toNatClampNeg (1 : Int32))) 2) (x4).toNatClampNeg)).toNatClampNeg (1 : Int32))) 14 (upd (upd (upd (a 14) (((a 1) (x4).toNatClampNeg)).toNatClampNeg (1 : Int32)) ((((va_up a 14 (upd (a 14) (((a 1) (x4).toNatClampNeg)).toNatClampNeg (1 : Int32))) 2) (x4).toNatClampNeg)).toNatClampNeg (1 : Int32)) ((((va_up (va_up a 14 (upd (a 14) (((a 1) (x4).toNatClampNeg)).toNatClampNeg (1 : Int32))) 14 (upd (upd (a 14) (((a 1) (x4).toNatClampNeg)).toNatClampNeg (1 : Int32)) ((((va_up a 14 (upd (a 14) (((a 1) (x4).toNatClampNeg)).toNatClampNeg (1 : Int32))) 2) (x4).toNatClampNeg)).toNatClampNeg (1 : Int32))) 3) (x4).toNatClampNeg)).toNatClampNeg (1 : Int32)))) rfl rfl rfl (wM_ast14 _ _ _) ?_
                refine J_iconst (v := (1 : Int32)) d_M_isTouched_228 (by decide) ?_
                refine J_istore_n d_M_isTouched_229 (by decide) ?_
                refine J_iinc (v := (x4 + (1 : Int32))) d_M_isTouched_230 rfl (by first | rfl | decide) (by decide) ?_
                refine J_goto (tgt := 41) d_M_isTouched_233 (by decide) ?_
                exact ih _ _ _ _ _ _ _ h
        clear h
        have h := hb9
        refine J_if_eq (tgt := 166) d_M_isTouched_119 (by decide) (fun c => ?_) (fun c => ?_)
        · have h := j_ifp c h
          refine J_iconst (v := (0 : Int32)) d_M_isTouched_166 (by decide) ?_
          cases h
          exact kb9
        · have h := j_ifn c h
          refine J_aload_n d_M_isTouched_122 rfl ?_
          refine J_get (j := 8) (v := .ref 2) d_M_isTouched_123 (wM_at0 _ _) rfl in_5 (by decide) ts_275 rfl ?_
          refine J_iload d_M_isTouched_126 rfl ?_
          obtain ⟨g, h⟩ := jg_some h
          refine J_iald (f := (a 2)) d_M_isTouched_128 (wM_at2 _ _) (jin_in g) ?_
          refine J_if_lt (tgt := 147) d_M_isTouched_129 (by decide) (fun c => ?_) (fun c => ?_)
          · have h := j_ifp c h
            refine J_aload_n d_M_isTouched_147 rfl ?_
            refine J_get (j := 21) (v := .ref 14) d_M_isTouched_148 (wM_at0 _ _) rfl in_5 (by decide) ts_312 rfl ?_
            refine J_aload_n d_M_isTouched_151 rfl ?_
            refine J_get (j := 9) (v := .ref 3) d_M_isTouched_152 (wM_at0 _ _) rfl in_5 (by decide) ts_276 rfl ?_
            refine J_iload d_M_isTouched_155 rfl ?_
            obtain ⟨g, h⟩ := jg_some h
            refine J_iald (f := (a 3)) d_M_isTouched_157 (wM_at3 _ _) (jin_in g) ?_
            obtain ⟨g, h⟩ := jg_some h
            refine J_zald (f := (a 14)) d_M_isTouched_158 (wM_at14 _ _) (jin_in g) ?_
            refine J_if_eq (tgt := 166) d_M_isTouched_159 (by decide) (fun c => ?_) (fun c => ?_)
            · have h := j_ifp c h
              refine J_iconst (v := (0 : Int32)) d_M_isTouched_166 (by decide) ?_
              cases h
              exact kb9
            · have h := j_ifn c h
              refine J_iconst (v := (1 : Int32)) d_M_isTouched_162 (by decide) ?_
              refine J_goto (tgt := 167) d_M_isTouched_163 (by decide) ?_
              cases h
              exact kb9
          · have h := j_ifn c h
            refine J_aload_n d_M_isTouched_132 rfl ?_
            refine J_get (j := 21) (v := .ref 14) d_M_isTouched_133 (wM_at0 _ _) rfl in_5 (by decide) ts_312 rfl ?_
            refine J_aload_n d_M_isTouched_136 rfl ?_
            refine J_get (j := 8) (v := .ref 2) d_M_isTouched_137 (wM_at0 _ _) rfl in_5 (by decide) ts_275 rfl ?_
            refine J_iload d_M_isTouched_140 rfl ?_
            obtain ⟨g, h⟩ := jg_some h
            refine J_iald (f := (a 2)) d_M_isTouched_142 (wM_at2 _ _) (jin_in g) ?_
            obtain ⟨g, h⟩ := jg_some h
            refine J_zald (f := (a 14)) d_M_isTouched_143 (wM_at14 _ _) (jin_in g) ?_
            refine J_if_eq (tgt := 166) d_M_isTouched_144 (by decide) (fun c => ?_) (fun c => ?_)
            · have h := j_ifp c h
              refine J_iconst (v := (0 : Int32)) d_M_isTouched_166 (by decide) ?_
              cases h
              exact kb9
            · have h := j_ifn c h
              refine J_aload_n d_M_isTouched_147 rfl ?_
              refine J_get (j := 21) (v := .ref 14) d_M_isTouched_148 (wM_at0 _ _) rfl in_5 (by decide) ts_312 rfl ?_
              refine J_aload_n d_M_isTouched_151 rfl ?_
              refine J_get (j := 9) (v := .ref 3) d_M_isTouched_152 (wM_at0 _ _) rfl in_5 (by decide) ts_276 rfl ?_
              refine J_iload d_M_isTouched_155 rfl ?_
              obtain ⟨g, h⟩ := jg_some h
              refine J_iald (f := (a 3)) d_M_isTouched_157 (wM_at3 _ _) (jin_in g) ?_
              obtain ⟨g, h⟩ := jg_some h
              refine J_zald (f := (a 14)) d_M_isTouched_158 (wM_at14 _ _) (jin_in g) ?_
              refine J_if_eq (tgt := 166) d_M_isTouched_159 (by decide) (fun c => ?_) (fun c => ?_)
              · have h := j_ifp c h
                refine J_iconst (v := (0 : Int32)) d_M_isTouched_166 (by decide) ?_
                cases h
                exact kb9
              · have h := j_ifn c h
                refine J_iconst (v := (1 : Int32)) d_M_isTouched_162 (by decide) ?_
                refine J_goto (tgt := 167) d_M_isTouched_163 (by decide) ?_
                cases h
                exact kb9
      clear h
      have h := hb8
      refine J_if_eq (tgt := 104) d_M_isTouched_57 (by decide) (fun c => ?_) (fun c => ?_)
      · have h := j_ifp c h
        refine J_iconst (v := (0 : Int32)) d_M_isTouched_104 (by decide) ?_
        cases h
        exact kb8
      · have h := j_ifn c h
        refine J_aload_n d_M_isTouched_60 rfl ?_
        refine J_get (j := 21) (v := .ref 14) d_M_isTouched_61 (wM_at0 _ _) rfl in_5 (by decide) ts_312 rfl ?_
        refine J_aload_n d_M_isTouched_64 rfl ?_
        refine J_get (j := 7) (v := .ref 1) d_M_isTouched_65 (wM_at0 _ _) rfl in_5 (by decide) ts_274 rfl ?_
        refine J_iload d_M_isTouched_68 rfl ?_
        obtain ⟨g, h⟩ := jg_some h
        refine J_iald (f := (a 1)) d_M_isTouched_70 (wM_at1 _ _) (jin_in g) ?_
        obtain ⟨g, h⟩ := jg_some h
        refine J_zald (f := (a 14)) d_M_isTouched_71 (wM_at14 _ _) (jin_in g) ?_
        refine J_if_ne (tgt := 100) d_M_isTouched_72 (by decide) (fun c => ?_) (fun c => ?_)
        · have h := j_ifn c h
          refine J_iconst (v := (1 : Int32)) d_M_isTouched_100 (by decide) ?_
          refine J_goto (tgt := 105) d_M_isTouched_101 (by decide) ?_
          cases h
          exact kb8
        · have h := j_ifp c h
          refine J_aload_n d_M_isTouched_75 rfl ?_
          refine J_get (j := 8) (v := .ref 2) d_M_isTouched_76 (wM_at0 _ _) rfl in_5 (by decide) ts_275 rfl ?_
          refine J_iload d_M_isTouched_79 rfl ?_
          obtain ⟨g, h⟩ := jg_some h
          refine J_iald (f := (a 2)) d_M_isTouched_81 (wM_at2 _ _) (jin_in g) ?_
          refine J_if_lt (tgt := 104) d_M_isTouched_82 (by decide) (fun c => ?_) (fun c => ?_)
          · have h := j_ifp c h
            refine J_iconst (v := (0 : Int32)) d_M_isTouched_104 (by decide) ?_
            cases h
            exact kb8
          · have h := j_ifn c h
            refine J_aload_n d_M_isTouched_85 rfl ?_
            refine J_get (j := 21) (v := .ref 14) d_M_isTouched_86 (wM_at0 _ _) rfl in_5 (by decide) ts_312 rfl ?_
            refine J_aload_n d_M_isTouched_89 rfl ?_
            refine J_get (j := 8) (v := .ref 2) d_M_isTouched_90 (wM_at0 _ _) rfl in_5 (by decide) ts_275 rfl ?_
            refine J_iload d_M_isTouched_93 rfl ?_
            obtain ⟨g, h⟩ := jg_some h
            refine J_iald (f := (a 2)) d_M_isTouched_95 (wM_at2 _ _) (jin_in g) ?_
            obtain ⟨g, h⟩ := jg_some h
            refine J_zald (f := (a 14)) d_M_isTouched_96 (wM_at14 _ _) (jin_in g) ?_
            refine J_if_eq (tgt := 104) d_M_isTouched_97 (by decide) (fun c => ?_) (fun c => ?_)
            · have h := j_ifp c h
              refine J_iconst (v := (0 : Int32)) d_M_isTouched_104 (by decide) ?_
              cases h
              exact kb8
            · have h := j_ifn c h
              refine J_iconst (v := (1 : Int32)) d_M_isTouched_100 (by decide) ?_
              refine J_goto (tgt := 105) d_M_isTouched_101 (by decide) ?_
              cases h
              exact kb8
def L_M_isTouched_32 (k239 : jS → jB → Option (Int32 × jS × jB)) : Nat → jS → jB → Int32 → Option (Int32 × jS × jB)
  | 0, _, _, _ => none
  | f + 1, s, a, x3 => (if x3 = (0 : Int32) then k239 (s) (a) else L_M_isTouched_41 (fun s10 a11 x12 => L_M_isTouched_32 k239 f (s10) (a11) (x12)) jF (s) (a) ((0 : Int32)) ((0 : Int32)))
set_option maxRecDepth 100000 in
set_option maxHeartbeats 4000000 in
theorem JL_M_isTouched_32 (l : Launch) (c2 : Int32) (k239 : jS → jB → Option (Int32 × jS × jB)) (r : Int32 × jS × jB) (hk239 : ∀ (s : jS) (a : jB) (o1 : Option Value) (o3 : Option Value) (o4 : Option Value) (o5 : Option Value) (o6 : Option Value), k239 s a = some r → K_M_isTouched l 239 [some (.ref 0), o1, some (.int c2), o3, o4, o5, o6] [] (wM s a) (fun v w => v = some (.int r.1) ∧ w = wM r.2.1 r.2.2)) : ∀ (f : Nat), ∀ (s : jS) (a : jB) (x3 : Int32) (o1 : Option Value) (o4 : Option Value) (o5 : Option Value) (o6 : Option Value), L_M_isTouched_32 k239 f s a x3 = some r → K_M_isTouched l 32 [some (.ref 0), o1, some (.int c2), some (.int x3), o4, o5, o6] [] (wM s a) (fun v w => v = some (.int r.1) ∧ w = wM r.2.1 r.2.2) := by
  intro f
  induction f with
  | zero =>
    intro s a x3 o1 o4 o5 o6 h
    cases h
  | succ f ih =>
    intro s a x3 o1 o4 o5 o6 h
    rw [L_M_isTouched_32] at h
    refine J_iload_n d_M_isTouched_32 rfl ?_
    refine J_if_eq (tgt := 239) d_M_isTouched_33 (by decide) (fun c => ?_) (fun c => ?_)
    · have h := j_ifp c h
      exact hk239 _ _ _ _ _ _ _ h
    · have h := j_ifn c h
      refine J_iconst (v := (0 : Int32)) d_M_isTouched_36 (by decide) ?_
      refine J_istore_n d_M_isTouched_37 (by decide) ?_
      refine J_iconst (v := (0 : Int32)) d_M_isTouched_38 (by decide) ?_
      refine J_istore d_M_isTouched_39 (by decide) ?_
      refine JL_M_isTouched_41 l _ _ r (fun s10 a11 x12 o13 o14 o15 o16 h => ?_) jF _ _ _ _ _ _ _ h
      refine J_goto (tgt := 32) d_M_isTouched_236 (by decide) ?_
      exact ih _ _ _ _ _ _ _ h
def m_M_isTouched (s : jS) (a : jB) (p0 : Int32) (p1 : Int32) : Option (Int32 × jS × jB) := L_M_isTouched_2 (p0) (fun s2 a3 => L_M_isTouched_32 (fun s17 a18 => jg (jin p1 40) (jg (jin ((a18 1) (p1).toNatClampNeg) 21) (jb (if ((a18 14) (((a18 1) (p1).toNatClampNeg)).toNatClampNeg) = (0 : Int32) then jg (jin p1 40) ((if ((a18 2) (p1).toNatClampNeg) < (0 : Int32) then some (0 : Int32) else jg (jin p1 40) (jg (jin ((a18 2) (p1).toNatClampNeg) 21) ((if ((a18 14) (((a18 2) (p1).toNatClampNeg)).toNatClampNeg) = (0 : Int32) then some (0 : Int32) else some (1 : Int32)))))) else some (1 : Int32)) (fun b24 => jg (jz b24) (some (b24, s17, a18)))))) jF (s2) (a3) ((1 : Int32))) jF (s) (a) ((0 : Int32))
set_option maxRecDepth 100000 in
set_option maxHeartbeats 4000000 in
theorem c_M_isTouched (l : Launch) (s : jS) (a : jB) (p0 : Int32) (p1 : Int32) (r : Int32 × jS × jB) (h : m_M_isTouched s a p0 p1 = some r) : JMet l vwCl NsG (.code y_M_isTouched prog_7_method_17_code 7 (some .boolean) :: TsG) y_M_isTouched rm_M_isTouched [.ref 0, .int p0, .int p1] (wM s a) (fun v w => v = some (.int r.1) ∧ w = wM r.2.1 r.2.2) := by
  refine J_enter (by decide +kernel) rfl (Nat.le_of_ble_eq_true rfl) ?_
  unfold m_M_isTouched at h
  refine J_eq (ls' := [some (.ref 0), some (.int p0), some (.int p1), none, none, none, none]) rfl rfl rfl rfl ?_
  refine J_iconst (v := (0 : Int32)) d_M_isTouched_0 (by decide) ?_
  refine J_istore_n d_M_isTouched_1 (by decide) ?_
  refine JL_M_isTouched_2 l _ _ _ r (fun s2 a3 o4 o5 o6 o7 h => ?_) jF _ _ _ _ _ _ h
  refine J_iconst (v := (1 : Int32)) d_M_isTouched_30 (by decide) ?_
  refine J_istore_n d_M_isTouched_31 (by decide) ?_
  refine JL_M_isTouched_32 l _ _ r (fun s17 a18 o19 o20 o21 o22 o23 h => ?_) jF _ _ _ _ _ _ _ h
  refine J_aload_n d_M_isTouched_239 rfl ?_
  refine J_get (j := 21) (v := .ref 14) d_M_isTouched_240 (wM_at0 _ _) rfl in_5 (by decide) ts_312 rfl ?_
  refine J_aload_n d_M_isTouched_243 rfl ?_
  refine J_get (j := 7) (v := .ref 1) d_M_isTouched_244 (wM_at0 _ _) rfl in_5 (by decide) ts_274 rfl ?_
  refine J_iload_n d_M_isTouched_247 rfl ?_
  obtain ⟨g, h⟩ := jg_some h
  refine J_iald (f := (a18 1)) d_M_isTouched_248 (wM_at1 _ _) (jin_in g) ?_
  obtain ⟨g, h⟩ := jg_some h
  refine J_zald (f := (a18 14)) d_M_isTouched_249 (wM_at14 _ _) (jin_in g) ?_
  obtain ⟨b24, hb24, h⟩ := jb_some h
  have kb24 : K_M_isTouched l 281 [some (.ref 0), o19, some (.int p1), o20, o21, o22, o23] [.int b24] (wM s17 a18) (fun v w => v = some (.int r.1) ∧ w = wM r.2.1 r.2.2) := by
    obtain ⟨g, h⟩ := jg_some h
    exact J_iret d_M_isTouched_281 rfl (jz_nar g) (by cases h; exact ⟨rfl, rfl⟩)
  clear h
  have h := hb24
  refine J_if_ne (tgt := 276) d_M_isTouched_250 (by decide) (fun c => ?_) (fun c => ?_)
  · have h := j_ifn c h
    refine J_iconst (v := (1 : Int32)) d_M_isTouched_276 (by decide) ?_
    refine J_goto (tgt := 281) d_M_isTouched_277 (by decide) ?_
    cases h
    exact kb24
  · have h := j_ifp c h
    refine J_aload_n d_M_isTouched_253 rfl ?_
    refine J_get (j := 8) (v := .ref 2) d_M_isTouched_254 (wM_at0 _ _) rfl in_5 (by decide) ts_275 rfl ?_
    refine J_iload_n d_M_isTouched_257 rfl ?_
    obtain ⟨g, h⟩ := jg_some h
    refine J_iald (f := (a18 2)) d_M_isTouched_258 (wM_at2 _ _) (jin_in g) ?_
    refine J_if_lt (tgt := 280) d_M_isTouched_259 (by decide) (fun c => ?_) (fun c => ?_)
    · have h := j_ifp c h
      refine J_iconst (v := (0 : Int32)) d_M_isTouched_280 (by decide) ?_
      cases h
      exact kb24
    · have h := j_ifn c h
      refine J_aload_n d_M_isTouched_262 rfl ?_
      refine J_get (j := 21) (v := .ref 14) d_M_isTouched_263 (wM_at0 _ _) rfl in_5 (by decide) ts_312 rfl ?_
      refine J_aload_n d_M_isTouched_266 rfl ?_
      refine J_get (j := 8) (v := .ref 2) d_M_isTouched_267 (wM_at0 _ _) rfl in_5 (by decide) ts_275 rfl ?_
      refine J_iload_n d_M_isTouched_270 rfl ?_
      obtain ⟨g, h⟩ := jg_some h
      refine J_iald (f := (a18 2)) d_M_isTouched_271 (wM_at2 _ _) (jin_in g) ?_
      obtain ⟨g, h⟩ := jg_some h
      refine J_zald (f := (a18 14)) d_M_isTouched_272 (wM_at14 _ _) (jin_in g) ?_
      refine J_if_eq (tgt := 280) d_M_isTouched_273 (by decide) (fun c => ?_) (fun c => ?_)
      · have h := j_ifp c h
        refine J_iconst (v := (0 : Int32)) d_M_isTouched_280 (by decide) ?_
        cases h
        exact kb24
      · have h := j_ifn c h
        refine J_iconst (v := (1 : Int32)) d_M_isTouched_276 (by decide) ?_
        refine J_goto (tgt := 281) d_M_isTouched_277 (by decide) ?_
        cases h
        exact kb24
abbrev rm_M_forget : Room := { frames := 1, cells := 0, slots := 0, locals := 26 }
abbrev K_M_forget (l : Launch) := JW l vwCl NsG TsG "ClassifySortModel" prog_7_method_18_code 6 none rm_M_forget
def L_M_forget_22 (c2 : Int32) (c3 : Int32) (k74 : jS → jB → Option (jS × jB)) : Nat → jS → jB → Int32 → Option (jS × jB)
  | 0, _, _, _ => none
  | f + 1, s, a, x4 => (if (20 : Int32) < x4 then k74 (s) (a) else jg (jin (((21 : Int32) * c3) + x4) 420) (jb (some ((a 6) ((((21 : Int32) * c3) + x4)).toNatClampNeg)) (fun y5 => (if y5 = c2 then jg (jin (((21 : Int32) * c3) + x4) 420) (L_M_forget_22 c2 c3 k74 f (s) ((va_up a 6 (upd (a 6) ((((21 : Int32) * c3) + x4)).toNatClampNeg (3 : Int32)))) ((x4 + (1 : Int32)))) else (if y5 = (2 : Int32) then jg (jin (((21 : Int32) * c3) + x4) 420) (L_M_forget_22 c2 c3 k74 f (s) ((va_up a 6 (upd (a 6) ((((21 : Int32) * c3) + x4)).toNatClampNeg (3 : Int32)))) ((x4 + (1 : Int32)))) else L_M_forget_22 c2 c3 k74 f (s) (a) ((x4 + (1 : Int32))))))))
set_option maxRecDepth 100000 in
set_option maxHeartbeats 4000000 in
theorem JL_M_forget_22 (l : Launch) (c2 : Int32) (c3 : Int32) (c1 : Int32) (k74 : jS → jB → Option (jS × jB)) (r : jS × jB) (hk74 : ∀ (s : jS) (a : jB) (o4 : Option Value) (o5 : Option Value), k74 s a = some r → K_M_forget l 74 [some (.ref 0), some (.int c1), some (.int c2), some (.int c3), o4, o5] [] (wM s a) (fun v w => v = none ∧ w = wM r.1 r.2)) : ∀ (f : Nat), ∀ (s : jS) (a : jB) (x4 : Int32) (o5 : Option Value), L_M_forget_22 c2 c3 k74 f s a x4 = some r → K_M_forget l 22 [some (.ref 0), some (.int c1), some (.int c2), some (.int c3), some (.int x4), o5] [] (wM s a) (fun v w => v = none ∧ w = wM r.1 r.2) := by
  intro f
  induction f with
  | zero =>
    intro s a x4 o5 h
    cases h
  | succ f ih =>
    intro s a x4 o5 h
    rw [L_M_forget_22] at h
    refine J_iload d_M_forget_22 rfl ?_
    refine J_bipush (v := (20 : Int32)) d_M_forget_24 (by decide) ?_
    refine J_icmp_gt (tgt := 74) d_M_forget_26 (by decide) (fun c => ?_) (fun c => ?_)
    · have h := j_ifp c h
      exact hk74 _ _ _ _ h
    · have h := j_ifn c h
      refine J_aload_n d_M_forget_29 rfl ?_
      refine J_get (j := 12) (v := .ref 6) d_M_forget_30 (wM_at0 _ _) rfl in_5 (by decide) ts_282 rfl ?_
      refine J_bipush (v := (21 : Int32)) d_M_forget_33 (by decide) ?_
      refine J_iload_n d_M_forget_35 rfl ?_
      refine J_imul d_M_forget_36 ?_
      refine J_iload d_M_forget_37 rfl ?_
      refine J_iadd d_M_forget_39 ?_
      obtain ⟨g, h⟩ := jg_some h
      refine J_iald (f := (a 6)) d_M_forget_40 (wM_at6 _ _) (jin_in g) ?_
      obtain ⟨y5, qy5, h⟩ := jb_some h
      refine J_topi (Option.some.inj qy5) ?_
      refine J_istore d_M_forget_41 (by decide) ?_
      refine J_iload d_M_forget_43 rfl ?_
      refine J_iload_n d_M_forget_45 rfl ?_
      refine J_icmp_eq (tgt := 55) d_M_forget_46 (by decide) (fun c => ?_) (fun c => ?_)
      · have h := j_ifp c h
        refine J_aload_n d_M_forget_55 rfl ?_
        refine J_get (j := 12) (v := .ref 6) d_M_forget_56 (wM_at0 _ _) rfl in_5 (by decide) ts_282 rfl ?_
        refine J_bipush (v := (21 : Int32)) d_M_forget_59 (by decide) ?_
        refine J_iload_n d_M_forget_61 rfl ?_
        refine J_imul d_M_forget_62 ?_
        refine J_iload d_M_forget_63 rfl ?_
        refine J_iadd d_M_forget_65 ?_
        refine J_iconst (v := (3 : Int32)) d_M_forget_66 (by decide) ?_
        obtain ⟨g, h⟩ := jg_some h
        refine J_iast (f := (a 6)) d_M_forget_67 (wM_at6 _ _) (jin_in g) ?_
        refine J_eq (ws' := wM s (va_up a 6 (upd (a 6) ((((21 : Int32) * c3) + x4)).toNatClampNeg (3 : Int32)))) rfl rfl rfl (wM_ast6 _ _ _) ?_
        refine J_iinc (v := (x4 + (1 : Int32))) d_M_forget_68 rfl (by first | rfl | decide) (by decide) ?_
        refine J_goto (tgt := 22) d_M_forget_71 (by decide) ?_
        exact ih _ _ _ _ h
      · have h := j_ifn c h
        refine J_iload d_M_forget_49 rfl ?_
        refine J_iconst (v := (2 : Int32)) d_M_forget_51 (by decide) ?_
        refine J_icmp_ne (tgt := 68) d_M_forget_52 (by decide) (fun c => ?_) (fun c => ?_)
        · have h := j_ifn c h
          refine J_iinc (v := (x4 + (1 : Int32))) d_M_forget_68 rfl (by first | rfl | decide) (by decide) ?_
          refine J_goto (tgt := 22) d_M_forget_71 (by decide) ?_
          exact ih _ _ _ _ h
        · have h := j_ifp c h
          refine J_aload_n d_M_forget_55 rfl ?_
          refine J_get (j := 12) (v := .ref 6) d_M_forget_56 (wM_at0 _ _) rfl in_5 (by decide) ts_282 rfl ?_
          refine J_bipush (v := (21 : Int32)) d_M_forget_59 (by decide) ?_
          refine J_iload_n d_M_forget_61 rfl ?_
          refine J_imul d_M_forget_62 ?_
          refine J_iload d_M_forget_63 rfl ?_
          refine J_iadd d_M_forget_65 ?_
          refine J_iconst (v := (3 : Int32)) d_M_forget_66 (by decide) ?_
          obtain ⟨g, h⟩ := jg_some h
          refine J_iast (f := (a 6)) d_M_forget_67 (wM_at6 _ _) (jin_in g) ?_
          refine J_eq (ws' := wM s (va_up a 6 (upd (a 6) ((((21 : Int32) * c3) + x4)).toNatClampNeg (3 : Int32)))) rfl rfl rfl (wM_ast6 _ _ _) ?_
          refine J_iinc (v := (x4 + (1 : Int32))) d_M_forget_68 rfl (by first | rfl | decide) (by decide) ?_
          refine J_goto (tgt := 22) d_M_forget_71 (by decide) ?_
          exact ih _ _ _ _ h
def L_M_forget_2 (c1 : Int32) (c2 : Int32) (k80 : jS → jB → Option (jS × jB)) : Nat → jS → jB → Int32 → Option (jS × jB)
  | 0, _, _, _ => none
  | f + 1, s, a, x3 => (if (s 1) ≤ x3 then k80 (s) (a) else jb3 (m_M_isTouched s a x3 c1) (fun v4 s2 a3 => (if v4 = (0 : Int32) then L_M_forget_2 c1 c2 k80 f (s2) (a3) ((x3 + (1 : Int32))) else L_M_forget_22 (c2) (x3) (fun s6 a7 => L_M_forget_2 c1 c2 k80 f (s6) (a7) ((x3 + (1 : Int32)))) jF (s2) (a3) ((0 : Int32)))))
set_option maxRecDepth 100000 in
set_option maxHeartbeats 4000000 in
theorem JL_M_forget_2 (l : Launch) (c1 : Int32) (c2 : Int32) (k80 : jS → jB → Option (jS × jB)) (r : jS × jB) (hk80 : ∀ (s : jS) (a : jB) (o3 : Option Value) (o4 : Option Value) (o5 : Option Value), k80 s a = some r → K_M_forget l 80 [some (.ref 0), some (.int c1), some (.int c2), o3, o4, o5] [] (wM s a) (fun v w => v = none ∧ w = wM r.1 r.2)) : ∀ (f : Nat), ∀ (s : jS) (a : jB) (x3 : Int32) (o4 : Option Value) (o5 : Option Value), L_M_forget_2 c1 c2 k80 f s a x3 = some r → K_M_forget l 2 [some (.ref 0), some (.int c1), some (.int c2), some (.int x3), o4, o5] [] (wM s a) (fun v w => v = none ∧ w = wM r.1 r.2) := by
  intro f
  induction f with
  | zero =>
    intro s a x3 o4 o5 h
    cases h
  | succ f ih =>
    intro s a x3 o4 o5 h
    rw [L_M_forget_2] at h
    refine J_iload_n d_M_forget_2 rfl ?_
    refine J_aload_n d_M_forget_3 rfl ?_
    refine J_get (j := 1) (v := .int (s 1)) d_M_forget_4 (wM_at0 _ _) rfl in_5 (by decide) ts_270 rfl ?_
    refine J_icmp_ge (tgt := 80) d_M_forget_7 (by decide) (fun c => ?_) (fun c => ?_)
    · have h := j_ifp c h
      exact hk80 _ _ _ _ _ h
    · have h := j_ifn c h
      refine J_aload_n d_M_forget_10 rfl ?_
      refine J_iload_n d_M_forget_11 rfl ?_
      refine J_iload_n d_M_forget_12 rfl ?_
      obtain ⟨v4, s2, a3, e1, h⟩ := jb3_some h
      refine J_cVi2 d_M_forget_13 (c_M_isTouched l _ _ _ _ _ e1) (wM_at0 _ _) rfl ts_313 ts_good rfl rfl ts_278 ts_314 dy_M_isTouched (by decide) (Nat.le_of_ble_eq_true rfl) ts_315 ts_316 ?_
      refine J_if_eq (tgt := 74) d_M_forget_16 (by decide) (fun c => ?_) (fun c => ?_)
      · have h := j_ifp c h
        refine J_iinc (v := (x3 + (1 : Int32))) d_M_forget_74 rfl (by first | rfl | decide) (by decide) ?_
        refine J_goto (tgt := 2) d_M_forget_77 (by decide) ?_
        exact ih _ _ _ _ _ h
      · have h := j_ifn c h
        refine J_iconst (v := (0 : Int32)) d_M_forget_19 (by decide) ?_
        refine J_istore d_M_forget_20 (by decide) ?_
        refine JL_M_forget_22 l _ _ _ _ r (fun s6 a7 o8 o9 h => ?_) jF _ _ _ _ h
        refine J_iinc (v := (x3 + (1 : Int32))) d_M_forget_74 rfl (by first | rfl | decide) (by decide) ?_
        refine J_goto (tgt := 2) d_M_forget_77 (by decide) ?_
        exact ih _ _ _ _ _ h
def m_M_forget (s : jS) (a : jB) (p0 : Int32) (p1 : Int32) : Option (jS × jB) := L_M_forget_2 (p0) (p1) (fun s10 a11 => some (s10, a11)) jF (s) (a) ((0 : Int32))
set_option maxRecDepth 100000 in
set_option maxHeartbeats 4000000 in
theorem c_M_forget (l : Launch) (s : jS) (a : jB) (p0 : Int32) (p1 : Int32) (r : jS × jB) (h : m_M_forget s a p0 p1 = some r) : JMet l vwCl NsG (.code y_M_forget prog_7_method_18_code 6 none :: TsG) y_M_forget rm_M_forget [.ref 0, .int p0, .int p1] (wM s a) (fun v w => v = none ∧ w = wM r.1 r.2) := by
  refine J_enter (by decide +kernel) rfl (Nat.le_of_ble_eq_true rfl) ?_
  unfold m_M_forget at h
  refine J_eq (ls' := [some (.ref 0), some (.int p0), some (.int p1), none, none, none]) rfl rfl rfl rfl ?_
  refine J_iconst (v := (0 : Int32)) d_M_forget_0 (by decide) ?_
  refine J_istore_n d_M_forget_1 (by decide) ?_
  refine JL_M_forget_2 l _ _ _ r (fun s10 a11 o12 o13 o14 h => ?_) jF _ _ _ _ _ h
  exact J_vret d_M_forget_80 rfl (by cases h; exact ⟨rfl, rfl⟩)
abbrev rm_M_axiom : Room := { frames := 4, cells := 0, slots := 0, locals := 93 }
abbrev K_M_axiom (l : Launch) := JW l vwCl NsG TsG "ClassifySortModel" prog_7_method_19_code 4 (some .int) rm_M_axiom
def m_M_axiom (s : jS) (a : jB) (p0 : Int32) (p1 : Int32) (p2 : Int32) : Option (Int32 × jS × jB) := jb (m_M_isClass s a p0) (fun v2 => (if v2 = (0 : Int32) then some ((-1 : Int32), s, a) else (if p1 = (-1 : Int32) then (if p2 = (-1 : Int32) then (if p1 = p0 then some ((-2 : Int32), s, a) else (if (s 3) = (40 : Int32) then some ((-4 : Int32), s, a) else jg (jin (s 3) 40) (jg (jin (s 3) 40) (jb (if (0 : Int32) ≤ p2 then some p2 else some (20 : Int32)) (fun b3 => jg (jin (s 3) 40) (jg (jin (s 3) 40) (jb2 (m_M_forget (upd (upd s 3 ((s 3) + (1 : Int32))) 6 (0 : Int32)) (va_up (va_up (va_up (va_up a 1 (upd (a 1) ((s 3)).toNatClampNeg p0)) 2 (upd ((va_up a 1 (upd (a 1) ((s 3)).toNatClampNeg p0)) 2) ((s 3)).toNatClampNeg p1)) 3 (upd ((va_up (va_up a 1 (upd (a 1) ((s 3)).toNatClampNeg p0)) 2 (upd ((va_up a 1 (upd (a 1) ((s 3)).toNatClampNeg p0)) 2) ((s 3)).toNatClampNeg p1)) 3) ((s 3)).toNatClampNeg b3)) 4 (upd ((va_up (va_up (va_up a 1 (upd (a 1) ((s 3)).toNatClampNeg p0)) 2 (upd ((va_up a 1 (upd (a 1) ((s 3)).toNatClampNeg p0)) 2) ((s 3)).toNatClampNeg p1)) 3 (upd ((va_up (va_up a 1 (upd (a 1) ((s 3)).toNatClampNeg p0)) 2 (upd ((va_up a 1 (upd (a 1) ((s 3)).toNatClampNeg p0)) 2) ((s 3)).toNatClampNeg p1)) 3) ((s 3)).toNatClampNeg b3)) 4) ((s 3)).toNatClampNeg (1 : Int32))) (((s 3) + (1 : Int32)) - (1 : Int32)) (0 : Int32)) (fun s5 a6 => jb2 (m_M_close s5 a6) (fun s8 a9 => some (((s8 3) - (1 : Int32)), s8, a9)))))))))) else jb (m_M_isClass s a p2) (fun v11 => (if v11 = (0 : Int32) then some ((-1 : Int32), s, a) else (if p1 = p0 then some ((-2 : Int32), s, a) else (if (s 3) = (40 : Int32) then some ((-4 : Int32), s, a) else jg (jin (s 3) 40) (jg (jin (s 3) 40) (jb (if (0 : Int32) ≤ p2 then some p2 else some (20 : Int32)) (fun b12 => jg (jin (s 3) 40) (jg (jin (s 3) 40) (jb2 (m_M_forget (upd (upd s 3 ((s 3) + (1 : Int32))) 6 (0 : Int32)) (va_up (va_up (va_up (va_up a 1 (upd (a 1) ((s 3)).toNatClampNeg p0)) 2 (upd ((va_up a 1 (upd (a 1) ((s 3)).toNatClampNeg p0)) 2) ((s 3)).toNatClampNeg p1)) 3 (upd ((va_up (va_up a 1 (upd (a 1) ((s 3)).toNatClampNeg p0)) 2 (upd ((va_up a 1 (upd (a 1) ((s 3)).toNatClampNeg p0)) 2) ((s 3)).toNatClampNeg p1)) 3) ((s 3)).toNatClampNeg b12)) 4 (upd ((va_up (va_up (va_up a 1 (upd (a 1) ((s 3)).toNatClampNeg p0)) 2 (upd ((va_up a 1 (upd (a 1) ((s 3)).toNatClampNeg p0)) 2) ((s 3)).toNatClampNeg p1)) 3 (upd ((va_up (va_up a 1 (upd (a 1) ((s 3)).toNatClampNeg p0)) 2 (upd ((va_up a 1 (upd (a 1) ((s 3)).toNatClampNeg p0)) 2) ((s 3)).toNatClampNeg p1)) 3) ((s 3)).toNatClampNeg b12)) 4) ((s 3)).toNatClampNeg (1 : Int32))) (((s 3) + (1 : Int32)) - (1 : Int32)) (0 : Int32)) (fun s14 a15 => jb2 (m_M_close s14 a15) (fun s17 a18 => some (((s17 3) - (1 : Int32)), s17, a18))))))))))))) else jb (m_M_isClass s a p1) (fun v20 => (if v20 = (0 : Int32) then some ((-1 : Int32), s, a) else (if p2 = (-1 : Int32) then (if p1 = p0 then some ((-2 : Int32), s, a) else (if (s 3) = (40 : Int32) then some ((-4 : Int32), s, a) else jg (jin (s 3) 40) (jg (jin (s 3) 40) (jb (if (0 : Int32) ≤ p2 then some p2 else some (20 : Int32)) (fun b21 => jg (jin (s 3) 40) (jg (jin (s 3) 40) (jb2 (m_M_forget (upd (upd s 3 ((s 3) + (1 : Int32))) 6 (0 : Int32)) (va_up (va_up (va_up (va_up a 1 (upd (a 1) ((s 3)).toNatClampNeg p0)) 2 (upd ((va_up a 1 (upd (a 1) ((s 3)).toNatClampNeg p0)) 2) ((s 3)).toNatClampNeg p1)) 3 (upd ((va_up (va_up a 1 (upd (a 1) ((s 3)).toNatClampNeg p0)) 2 (upd ((va_up a 1 (upd (a 1) ((s 3)).toNatClampNeg p0)) 2) ((s 3)).toNatClampNeg p1)) 3) ((s 3)).toNatClampNeg b21)) 4 (upd ((va_up (va_up (va_up a 1 (upd (a 1) ((s 3)).toNatClampNeg p0)) 2 (upd ((va_up a 1 (upd (a 1) ((s 3)).toNatClampNeg p0)) 2) ((s 3)).toNatClampNeg p1)) 3 (upd ((va_up (va_up a 1 (upd (a 1) ((s 3)).toNatClampNeg p0)) 2 (upd ((va_up a 1 (upd (a 1) ((s 3)).toNatClampNeg p0)) 2) ((s 3)).toNatClampNeg p1)) 3) ((s 3)).toNatClampNeg b21)) 4) ((s 3)).toNatClampNeg (1 : Int32))) (((s 3) + (1 : Int32)) - (1 : Int32)) (0 : Int32)) (fun s23 a24 => jb2 (m_M_close s23 a24) (fun s26 a27 => some (((s26 3) - (1 : Int32)), s26, a27)))))))))) else jb (m_M_isClass s a p2) (fun v29 => (if v29 = (0 : Int32) then some ((-1 : Int32), s, a) else (if p1 = p0 then some ((-2 : Int32), s, a) else (if (s 3) = (40 : Int32) then some ((-4 : Int32), s, a) else jg (jin (s 3) 40) (jg (jin (s 3) 40) (jb (if (0 : Int32) ≤ p2 then some p2 else some (20 : Int32)) (fun b30 => jg (jin (s 3) 40) (jg (jin (s 3) 40) (jb2 (m_M_forget (upd (upd s 3 ((s 3) + (1 : Int32))) 6 (0 : Int32)) (va_up (va_up (va_up (va_up a 1 (upd (a 1) ((s 3)).toNatClampNeg p0)) 2 (upd ((va_up a 1 (upd (a 1) ((s 3)).toNatClampNeg p0)) 2) ((s 3)).toNatClampNeg p1)) 3 (upd ((va_up (va_up a 1 (upd (a 1) ((s 3)).toNatClampNeg p0)) 2 (upd ((va_up a 1 (upd (a 1) ((s 3)).toNatClampNeg p0)) 2) ((s 3)).toNatClampNeg p1)) 3) ((s 3)).toNatClampNeg b30)) 4 (upd ((va_up (va_up (va_up a 1 (upd (a 1) ((s 3)).toNatClampNeg p0)) 2 (upd ((va_up a 1 (upd (a 1) ((s 3)).toNatClampNeg p0)) 2) ((s 3)).toNatClampNeg p1)) 3 (upd ((va_up (va_up a 1 (upd (a 1) ((s 3)).toNatClampNeg p0)) 2 (upd ((va_up a 1 (upd (a 1) ((s 3)).toNatClampNeg p0)) 2) ((s 3)).toNatClampNeg p1)) 3) ((s 3)).toNatClampNeg b30)) 4) ((s 3)).toNatClampNeg (1 : Int32))) (((s 3) + (1 : Int32)) - (1 : Int32)) (0 : Int32)) (fun s32 a33 => jb2 (m_M_close s32 a33) (fun s35 a36 => some (((s35 3) - (1 : Int32)), s35, a36))))))))))))))))))
set_option maxRecDepth 100000 in
set_option maxHeartbeats 4000000 in
theorem c_M_axiom (l : Launch) (s : jS) (a : jB) (p0 : Int32) (p1 : Int32) (p2 : Int32) (r : Int32 × jS × jB) (h : m_M_axiom s a p0 p1 p2 = some r) : JMet l vwCl NsG (.code y_M_axiom prog_7_method_19_code 4 (some .int) :: TsG) y_M_axiom rm_M_axiom [.ref 0, .int p0, .int p1, .int p2] (wM s a) (fun v w => v = some (.int r.1) ∧ w = wM r.2.1 r.2.2) := by
  refine J_enter (by decide +kernel) rfl (Nat.le_of_ble_eq_true rfl) ?_
  unfold m_M_axiom at h
  refine J_eq (ls' := [some (.ref 0), some (.int p0), some (.int p1), some (.int p2)]) rfl rfl rfl rfl ?_
  refine J_aload_n d_M_axiom_0 rfl ?_
  refine J_iload_n d_M_axiom_1 rfl ?_
  obtain ⟨v2, e1, h⟩ := jb_some h
  refine J_cVi1 d_M_axiom_2 (c_M_isClass l _ _ _ _ e1) (wM_at0 _ _) rfl ts_308 ts_good rfl rfl ts_278 ts_309 dy_M_isClass (by decide) (Nat.le_of_ble_eq_true rfl) ts_310 ts_311 ?_
  refine J_if_eq (tgt := 34) d_M_axiom_5 (by decide) (fun c => ?_) (fun c => ?_)
  · have h := j_ifp c h
    refine J_iconst (v := (-1 : Int32)) d_M_axiom_34 (by decide) ?_
    exact J_iret d_M_axiom_35 rfl rfl (by cases h; exact ⟨rfl, rfl⟩)
  · have h := j_ifn c h
    refine J_iload_n d_M_axiom_8 rfl ?_
    refine J_iconst (v := (-1 : Int32)) d_M_axiom_9 (by decide) ?_
    refine J_icmp_eq (tgt := 21) d_M_axiom_10 (by decide) (fun c => ?_) (fun c => ?_)
    · have h := j_ifp c h
      refine J_iload_n d_M_axiom_21 rfl ?_
      refine J_iconst (v := (-1 : Int32)) d_M_axiom_22 (by decide) ?_
      refine J_icmp_eq (tgt := 36) d_M_axiom_23 (by decide) (fun c => ?_) (fun c => ?_)
      · have h := j_ifp c h
        refine J_iload_n d_M_axiom_36 rfl ?_
        refine J_iload_n d_M_axiom_37 rfl ?_
        refine J_icmp_ne (tgt := 44) d_M_axiom_38 (by decide) (fun c => ?_) (fun c => ?_)
        · have h := j_ifn c h
          refine J_aload_n d_M_axiom_44 rfl ?_
          refine J_get (j := 3) (v := .int (s 3)) d_M_axiom_45 (wM_at0 _ _) rfl in_5 (by decide) ts_272 rfl ?_
          refine J_bipush (v := (40 : Int32)) d_M_axiom_48 (by decide) ?_
          refine J_icmp_ne (tgt := 56) d_M_axiom_50 (by decide) (fun c => ?_) (fun c => ?_)
          · have h := j_ifn c h
            refine J_aload_n d_M_axiom_56 rfl ?_
            refine J_get (j := 7) (v := .ref 1) d_M_axiom_57 (wM_at0 _ _) rfl in_5 (by decide) ts_274 rfl ?_
            refine J_aload_n d_M_axiom_60 rfl ?_
            refine J_get (j := 3) (v := .int (s 3)) d_M_axiom_61 (wM_at0 _ _) rfl in_5 (by decide) ts_272 rfl ?_
            refine J_iload_n d_M_axiom_64 rfl ?_
            obtain ⟨g, h⟩ := jg_some h
            refine J_iast (f := (a 1)) d_M_axiom_65 (wM_at1 _ _) (jin_in g) ?_
            refine J_eq (ws' := wM s (va_up a 1 (upd (a 1) ((s 3)).toNatClampNeg p0))) rfl rfl rfl (wM_ast1 _ _ _) ?_
            refine J_aload_n d_M_axiom_66 rfl ?_
            refine J_get (j := 8) (v := .ref 2) d_M_axiom_67 (wM_at0 _ _) rfl in_5 (by decide) ts_275 rfl ?_
            refine J_aload_n d_M_axiom_70 rfl ?_
            refine J_get (j := 3) (v := .int (s 3)) d_M_axiom_71 (wM_at0 _ _) rfl in_5 (by decide) ts_272 rfl ?_
            refine J_iload_n d_M_axiom_74 rfl ?_
            obtain ⟨g, h⟩ := jg_some h
            refine J_iast (f := ((va_up a 1 (upd (a 1) ((s 3)).toNatClampNeg p0)) 2)) d_M_axiom_75 (wM_at2 _ _) (jin_in g) ?_
            refine J_eq (ws' := wM s (va_up (va_up a 1 (upd (a 1) ((s 3)).toNatClampNeg p0)) 2 (upd ((va_up a 1 (upd (a 1) ((s 3)).toNatClampNeg p0)) 2) ((s 3)).toNatClampNeg p1))) rfl rfl rfl (wM_ast2 _ _ _) ?_
            refine J_aload_n d_M_axiom_76 rfl ?_
            refine J_get (j := 9) (v := .ref 3) d_M_axiom_77 (wM_at0 _ _) rfl in_5 (by decide) ts_276 rfl ?_
            refine J_aload_n d_M_axiom_80 rfl ?_
            refine J_get (j := 3) (v := .int (s 3)) d_M_axiom_81 (wM_at0 _ _) rfl in_5 (by decide) ts_272 rfl ?_
            refine J_iload_n d_M_axiom_84 rfl ?_
            obtain ⟨b3, hb3, h⟩ := jb_some h
            have kb3 : K_M_axiom l 94 [some (.ref 0), some (.int p0), some (.int p1), some (.int p2)] [.int b3, .int (s 3), .ref 3] (wM s (va_up (va_up a 1 (upd (a 1) ((s 3)).toNatClampNeg p0)) 2 (upd ((va_up a 1 (upd (a 1) ((s 3)).toNatClampNeg p0)) 2) ((s 3)).toNatClampNeg p1))) (fun v w => v = some (.int r.1) ∧ w = wM r.2.1 r.2.2) := by
              obtain ⟨g, h⟩ := jg_some h
              refine J_iast (f := ((va_up (va_up a 1 (upd (a 1) ((s 3)).toNatClampNeg p0)) 2 (upd ((va_up a 1 (upd (a 1) ((s 3)).toNatClampNeg p0)) 2) ((s 3)).toNatClampNeg p1)) 3)) d_M_axiom_94 (wM_at3 _ _) (jin_in g) ?_
              refine J_eq (ws' := wM s (va_up (va_up (va_up a 1 (upd (a 1) ((s 3)).toNatClampNeg p0)) 2 (upd ((va_up a 1 (upd (a 1) ((s 3)).toNatClampNeg p0)) 2) ((s 3)).toNatClampNeg p1)) 3 (upd ((va_up (va_up a 1 (upd (a 1) ((s 3)).toNatClampNeg p0)) 2 (upd ((va_up a 1 (upd (a 1) ((s 3)).toNatClampNeg p0)) 2) ((s 3)).toNatClampNeg p1)) 3) ((s 3)).toNatClampNeg b3))) rfl rfl rfl (wM_ast3 _ _ _) ?_
              refine J_aload_n d_M_axiom_95 rfl ?_
              refine J_get (j := 10) (v := .ref 4) d_M_axiom_96 (wM_at0 _ _) rfl in_5 (by decide) ts_273 rfl ?_
              refine J_aload_n d_M_axiom_99 rfl ?_
              refine J_get (j := 3) (v := .int (s 3)) d_M_axiom_100 (wM_at0 _ _) rfl in_5 (by decide) ts_272 rfl ?_
              refine J_iconst (v := (1 : Int32)) d_M_axiom_103 (by decide) ?_
              obtain ⟨g, h⟩ := jg_some h
              refine J_zast (f := ((va_up (va_up (va_up a 1 (upd (a 1) ((s 3)).toNatClampNeg p0)) 2 (upd ((va_up a 1 (upd (a 1) ((s 3)).toNatClampNeg p0)) 2) ((s 3)).toNatClampNeg p1)) 3 (upd ((va_up (va_up a 1 (upd (a 1) ((s 3)).toNatClampNeg p0)) 2 (upd ((va_up a 1 (upd (a 1) ((s 3)).toNatClampNeg p0)) 2) ((s 3)).toNatClampNeg p1)) 3) ((s 3)).toNatClampNeg b3)) 4)) d_M_axiom_104 (wM_at4 _ _) (jin_in g) ?_
              refine J_eq (ws' := wM s (va_up (va_up (va_up (va_up a 1 (upd (a 1) ((s 3)).toNatClampNeg p0)) 2 (upd ((va_up a 1 (upd (a 1) ((s 3)).toNatClampNeg p0)) 2) ((s 3)).toNatClampNeg p1)) 3 (upd ((va_up (va_up a 1 (upd (a 1) ((s 3)).toNatClampNeg p0)) 2 (upd ((va_up a 1 (upd (a 1) ((s 3)).toNatClampNeg p0)) 2) ((s 3)).toNatClampNeg p1)) 3) ((s 3)).toNatClampNeg b3)) 4 (upd ((va_up (va_up (va_up a 1 (upd (a 1) ((s 3)).toNatClampNeg p0)) 2 (upd ((va_up a 1 (upd (a 1) ((s 3)).toNatClampNeg p0)) 2) ((s 3)).toNatClampNeg p1)) 3 (upd ((va_up (va_up a 1 (upd (a 1) ((s 3)).toNatClampNeg p0)) 2 (upd ((va_up a 1 (upd (a 1) ((s 3)).toNatClampNeg p0)) 2) ((s 3)).toNatClampNeg p1)) 3) ((s 3)).toNatClampNeg b3)) 4) ((s 3)).toNatClampNeg (1 : Int32)))) rfl rfl rfl (wM_ast4 _ _ _) ?_
              refine J_aload_n d_M_axiom_105 rfl ?_
              refine J_dup d_M_axiom_106 rfl ?_
              refine J_get (j := 3) (v := .int (s 3)) d_M_axiom_107 (wM_at0 _ _) rfl in_5 (by decide) ts_272 rfl ?_
              refine J_iconst (v := (1 : Int32)) d_M_axiom_110 (by decide) ?_
              refine J_iadd d_M_axiom_111 ?_
              refine J_put (j := 3) d_M_axiom_112 (wM_at0 _ _) rfl in_5 ty_M tyok_M nok_M (by decide) ts_272 rfl (tyok_M 3 (by decide)) rfl rfl (Nat.le_of_ble_eq_true rfl) ?_
              refine J_eq rfl rfl rfl (wM_put3 _ _ _) ?_
              refine J_aload_n d_M_axiom_115 rfl ?_
              refine J_iconst (v := (0 : Int32)) d_M_axiom_116 (by decide) ?_
              refine J_put (j := 6) d_M_axiom_117 (wM_at0 _ _) rfl in_5 ty_M tyok_M nok_M (by decide) ts_271 rfl (tyok_M 6 (by decide)) (by decide) (by decide) (Nat.le_of_ble_eq_true rfl) ?_
              refine J_eq rfl rfl rfl (wM_put6 _ _ _) ?_
              refine J_aload_n d_M_axiom_120 rfl ?_
              refine J_aload_n d_M_axiom_121 rfl ?_
              refine J_get (j := 3) (v := .int ((s 3) + (1 : Int32))) d_M_axiom_122 (wM_at0 _ _) rfl in_5 (by decide) ts_272 rfl ?_
              refine J_iconst (v := (1 : Int32)) d_M_axiom_125 (by decide) ?_
              refine J_isub d_M_axiom_126 ?_
              refine J_iconst (v := (0 : Int32)) d_M_axiom_127 (by decide) ?_
              obtain ⟨s5, a6, e4, h⟩ := jb2_some h
              refine J_cVv2 d_M_axiom_128 (c_M_forget l _ _ _ _ _ e4) (wM_at0 _ _) rfl ts_317 ts_good rfl rfl ts_278 ts_318 dy_M_forget (by decide) (Nat.le_of_ble_eq_true rfl) ts_319 ts_320 ?_
              refine J_aload_n d_M_axiom_131 rfl ?_
              obtain ⟨s8, a9, e7, h⟩ := jb2_some h
              refine J_cVv0 d_M_axiom_132 (c_M_close l _ _ _ e7) (wM_at0 _ _) rfl ts_303 ts_good rfl rfl ts_278 ts_304 dy_M_close (by decide) (Nat.le_of_ble_eq_true rfl) ts_305 ts_306 ?_
              refine J_aload_n d_M_axiom_135 rfl ?_
              refine J_get (j := 3) (v := .int (s8 3)) d_M_axiom_136 (wM_at0 _ _) rfl in_5 (by decide) ts_272 rfl ?_
              refine J_iconst (v := (1 : Int32)) d_M_axiom_139 (by decide) ?_
              refine J_isub d_M_axiom_140 ?_
              exact J_iret d_M_axiom_141 rfl rfl (by cases h; exact ⟨rfl, rfl⟩)
            clear h
            have h := hb3
            refine J_if_ge (tgt := 93) d_M_axiom_85 (by decide) (fun c => ?_) (fun c => ?_)
            · have h := j_ifp c h
              refine J_iload_n d_M_axiom_93 rfl ?_
              cases h
              exact kb3
            · have h := j_ifn c h
              refine J_bipush (v := (20 : Int32)) d_M_axiom_88 (by decide) ?_
              refine J_goto (tgt := 94) d_M_axiom_90 (by decide) ?_
              cases h
              exact kb3
          · have h := j_ifp c h
            refine J_bipush (v := (-4 : Int32)) d_M_axiom_53 (by decide) ?_
            exact J_iret d_M_axiom_55 rfl rfl (by cases h; exact ⟨rfl, rfl⟩)
        · have h := j_ifp c h
          refine J_bipush (v := (-2 : Int32)) d_M_axiom_41 (by decide) ?_
          exact J_iret d_M_axiom_43 rfl rfl (by cases h; exact ⟨rfl, rfl⟩)
      · have h := j_ifn c h
        refine J_aload_n d_M_axiom_26 rfl ?_
        refine J_iload_n d_M_axiom_27 rfl ?_
        obtain ⟨v11, e10, h⟩ := jb_some h
        refine J_cVi1 d_M_axiom_28 (c_M_isClass l _ _ _ _ e10) (wM_at0 _ _) rfl ts_308 ts_good rfl rfl ts_278 ts_309 dy_M_isClass (by decide) (Nat.le_of_ble_eq_true rfl) ts_310 ts_311 ?_
        refine J_if_ne (tgt := 36) d_M_axiom_31 (by decide) (fun c => ?_) (fun c => ?_)
        · have h := j_ifn c h
          refine J_iload_n d_M_axiom_36 rfl ?_
          refine J_iload_n d_M_axiom_37 rfl ?_
          refine J_icmp_ne (tgt := 44) d_M_axiom_38 (by decide) (fun c => ?_) (fun c => ?_)
          · have h := j_ifn c h
            refine J_aload_n d_M_axiom_44 rfl ?_
            refine J_get (j := 3) (v := .int (s 3)) d_M_axiom_45 (wM_at0 _ _) rfl in_5 (by decide) ts_272 rfl ?_
            refine J_bipush (v := (40 : Int32)) d_M_axiom_48 (by decide) ?_
            refine J_icmp_ne (tgt := 56) d_M_axiom_50 (by decide) (fun c => ?_) (fun c => ?_)
            · have h := j_ifn c h
              refine J_aload_n d_M_axiom_56 rfl ?_
              refine J_get (j := 7) (v := .ref 1) d_M_axiom_57 (wM_at0 _ _) rfl in_5 (by decide) ts_274 rfl ?_
              refine J_aload_n d_M_axiom_60 rfl ?_
              refine J_get (j := 3) (v := .int (s 3)) d_M_axiom_61 (wM_at0 _ _) rfl in_5 (by decide) ts_272 rfl ?_
              refine J_iload_n d_M_axiom_64 rfl ?_
              obtain ⟨g, h⟩ := jg_some h
              refine J_iast (f := (a 1)) d_M_axiom_65 (wM_at1 _ _) (jin_in g) ?_
              refine J_eq (ws' := wM s (va_up a 1 (upd (a 1) ((s 3)).toNatClampNeg p0))) rfl rfl rfl (wM_ast1 _ _ _) ?_
              refine J_aload_n d_M_axiom_66 rfl ?_
              refine J_get (j := 8) (v := .ref 2) d_M_axiom_67 (wM_at0 _ _) rfl in_5 (by decide) ts_275 rfl ?_
              refine J_aload_n d_M_axiom_70 rfl ?_
              refine J_get (j := 3) (v := .int (s 3)) d_M_axiom_71 (wM_at0 _ _) rfl in_5 (by decide) ts_272 rfl ?_
              refine J_iload_n d_M_axiom_74 rfl ?_
              obtain ⟨g, h⟩ := jg_some h
              refine J_iast (f := ((va_up a 1 (upd (a 1) ((s 3)).toNatClampNeg p0)) 2)) d_M_axiom_75 (wM_at2 _ _) (jin_in g) ?_
              refine J_eq (ws' := wM s (va_up (va_up a 1 (upd (a 1) ((s 3)).toNatClampNeg p0)) 2 (upd ((va_up a 1 (upd (a 1) ((s 3)).toNatClampNeg p0)) 2) ((s 3)).toNatClampNeg p1))) rfl rfl rfl (wM_ast2 _ _ _) ?_
              refine J_aload_n d_M_axiom_76 rfl ?_
              refine J_get (j := 9) (v := .ref 3) d_M_axiom_77 (wM_at0 _ _) rfl in_5 (by decide) ts_276 rfl ?_
              refine J_aload_n d_M_axiom_80 rfl ?_
              refine J_get (j := 3) (v := .int (s 3)) d_M_axiom_81 (wM_at0 _ _) rfl in_5 (by decide) ts_272 rfl ?_
              refine J_iload_n d_M_axiom_84 rfl ?_
              obtain ⟨b12, hb12, h⟩ := jb_some h
              have kb12 : K_M_axiom l 94 [some (.ref 0), some (.int p0), some (.int p1), some (.int p2)] [.int b12, .int (s 3), .ref 3] (wM s (va_up (va_up a 1 (upd (a 1) ((s 3)).toNatClampNeg p0)) 2 (upd ((va_up a 1 (upd (a 1) ((s 3)).toNatClampNeg p0)) 2) ((s 3)).toNatClampNeg p1))) (fun v w => v = some (.int r.1) ∧ w = wM r.2.1 r.2.2) := by
                obtain ⟨g, h⟩ := jg_some h
                refine J_iast (f := ((va_up (va_up a 1 (upd (a 1) ((s 3)).toNatClampNeg p0)) 2 (upd ((va_up a 1 (upd (a 1) ((s 3)).toNatClampNeg p0)) 2) ((s 3)).toNatClampNeg p1)) 3)) d_M_axiom_94 (wM_at3 _ _) (jin_in g) ?_
                refine J_eq (ws' := wM s (va_up (va_up (va_up a 1 (upd (a 1) ((s 3)).toNatClampNeg p0)) 2 (upd ((va_up a 1 (upd (a 1) ((s 3)).toNatClampNeg p0)) 2) ((s 3)).toNatClampNeg p1)) 3 (upd ((va_up (va_up a 1 (upd (a 1) ((s 3)).toNatClampNeg p0)) 2 (upd ((va_up a 1 (upd (a 1) ((s 3)).toNatClampNeg p0)) 2) ((s 3)).toNatClampNeg p1)) 3) ((s 3)).toNatClampNeg b12))) rfl rfl rfl (wM_ast3 _ _ _) ?_
                refine J_aload_n d_M_axiom_95 rfl ?_
                refine J_get (j := 10) (v := .ref 4) d_M_axiom_96 (wM_at0 _ _) rfl in_5 (by decide) ts_273 rfl ?_
                refine J_aload_n d_M_axiom_99 rfl ?_
                refine J_get (j := 3) (v := .int (s 3)) d_M_axiom_100 (wM_at0 _ _) rfl in_5 (by decide) ts_272 rfl ?_
                refine J_iconst (v := (1 : Int32)) d_M_axiom_103 (by decide) ?_
                obtain ⟨g, h⟩ := jg_some h
                refine J_zast (f := ((va_up (va_up (va_up a 1 (upd (a 1) ((s 3)).toNatClampNeg p0)) 2 (upd ((va_up a 1 (upd (a 1) ((s 3)).toNatClampNeg p0)) 2) ((s 3)).toNatClampNeg p1)) 3 (upd ((va_up (va_up a 1 (upd (a 1) ((s 3)).toNatClampNeg p0)) 2 (upd ((va_up a 1 (upd (a 1) ((s 3)).toNatClampNeg p0)) 2) ((s 3)).toNatClampNeg p1)) 3) ((s 3)).toNatClampNeg b12)) 4)) d_M_axiom_104 (wM_at4 _ _) (jin_in g) ?_
                refine J_eq (ws' := wM s (va_up (va_up (va_up (va_up a 1 (upd (a 1) ((s 3)).toNatClampNeg p0)) 2 (upd ((va_up a 1 (upd (a 1) ((s 3)).toNatClampNeg p0)) 2) ((s 3)).toNatClampNeg p1)) 3 (upd ((va_up (va_up a 1 (upd (a 1) ((s 3)).toNatClampNeg p0)) 2 (upd ((va_up a 1 (upd (a 1) ((s 3)).toNatClampNeg p0)) 2) ((s 3)).toNatClampNeg p1)) 3) ((s 3)).toNatClampNeg b12)) 4 (upd ((va_up (va_up (va_up a 1 (upd (a 1) ((s 3)).toNatClampNeg p0)) 2 (upd ((va_up a 1 (upd (a 1) ((s 3)).toNatClampNeg p0)) 2) ((s 3)).toNatClampNeg p1)) 3 (upd ((va_up (va_up a 1 (upd (a 1) ((s 3)).toNatClampNeg p0)) 2 (upd ((va_up a 1 (upd (a 1) ((s 3)).toNatClampNeg p0)) 2) ((s 3)).toNatClampNeg p1)) 3) ((s 3)).toNatClampNeg b12)) 4) ((s 3)).toNatClampNeg (1 : Int32)))) rfl rfl rfl (wM_ast4 _ _ _) ?_
                refine J_aload_n d_M_axiom_105 rfl ?_
                refine J_dup d_M_axiom_106 rfl ?_
                refine J_get (j := 3) (v := .int (s 3)) d_M_axiom_107 (wM_at0 _ _) rfl in_5 (by decide) ts_272 rfl ?_
                refine J_iconst (v := (1 : Int32)) d_M_axiom_110 (by decide) ?_
                refine J_iadd d_M_axiom_111 ?_
                refine J_put (j := 3) d_M_axiom_112 (wM_at0 _ _) rfl in_5 ty_M tyok_M nok_M (by decide) ts_272 rfl (tyok_M 3 (by decide)) rfl rfl (Nat.le_of_ble_eq_true rfl) ?_
                refine J_eq rfl rfl rfl (wM_put3 _ _ _) ?_
                refine J_aload_n d_M_axiom_115 rfl ?_
                refine J_iconst (v := (0 : Int32)) d_M_axiom_116 (by decide) ?_
                refine J_put (j := 6) d_M_axiom_117 (wM_at0 _ _) rfl in_5 ty_M tyok_M nok_M (by decide) ts_271 rfl (tyok_M 6 (by decide)) (by decide) (by decide) (Nat.le_of_ble_eq_true rfl) ?_
                refine J_eq rfl rfl rfl (wM_put6 _ _ _) ?_
                refine J_aload_n d_M_axiom_120 rfl ?_
                refine J_aload_n d_M_axiom_121 rfl ?_
                refine J_get (j := 3) (v := .int ((s 3) + (1 : Int32))) d_M_axiom_122 (wM_at0 _ _) rfl in_5 (by decide) ts_272 rfl ?_
                refine J_iconst (v := (1 : Int32)) d_M_axiom_125 (by decide) ?_
                refine J_isub d_M_axiom_126 ?_
                refine J_iconst (v := (0 : Int32)) d_M_axiom_127 (by decide) ?_
                obtain ⟨s14, a15, e13, h⟩ := jb2_some h
                refine J_cVv2 d_M_axiom_128 (c_M_forget l _ _ _ _ _ e13) (wM_at0 _ _) rfl ts_317 ts_good rfl rfl ts_278 ts_318 dy_M_forget (by decide) (Nat.le_of_ble_eq_true rfl) ts_319 ts_320 ?_
                refine J_aload_n d_M_axiom_131 rfl ?_
                obtain ⟨s17, a18, e16, h⟩ := jb2_some h
                refine J_cVv0 d_M_axiom_132 (c_M_close l _ _ _ e16) (wM_at0 _ _) rfl ts_303 ts_good rfl rfl ts_278 ts_304 dy_M_close (by decide) (Nat.le_of_ble_eq_true rfl) ts_305 ts_306 ?_
                refine J_aload_n d_M_axiom_135 rfl ?_
                refine J_get (j := 3) (v := .int (s17 3)) d_M_axiom_136 (wM_at0 _ _) rfl in_5 (by decide) ts_272 rfl ?_
                refine J_iconst (v := (1 : Int32)) d_M_axiom_139 (by decide) ?_
                refine J_isub d_M_axiom_140 ?_
                exact J_iret d_M_axiom_141 rfl rfl (by cases h; exact ⟨rfl, rfl⟩)
              clear h
              have h := hb12
              refine J_if_ge (tgt := 93) d_M_axiom_85 (by decide) (fun c => ?_) (fun c => ?_)
              · have h := j_ifp c h
                refine J_iload_n d_M_axiom_93 rfl ?_
                cases h
                exact kb12
              · have h := j_ifn c h
                refine J_bipush (v := (20 : Int32)) d_M_axiom_88 (by decide) ?_
                refine J_goto (tgt := 94) d_M_axiom_90 (by decide) ?_
                cases h
                exact kb12
            · have h := j_ifp c h
              refine J_bipush (v := (-4 : Int32)) d_M_axiom_53 (by decide) ?_
              exact J_iret d_M_axiom_55 rfl rfl (by cases h; exact ⟨rfl, rfl⟩)
          · have h := j_ifp c h
            refine J_bipush (v := (-2 : Int32)) d_M_axiom_41 (by decide) ?_
            exact J_iret d_M_axiom_43 rfl rfl (by cases h; exact ⟨rfl, rfl⟩)
        · have h := j_ifp c h
          refine J_iconst (v := (-1 : Int32)) d_M_axiom_34 (by decide) ?_
          exact J_iret d_M_axiom_35 rfl rfl (by cases h; exact ⟨rfl, rfl⟩)
    · have h := j_ifn c h
      refine J_aload_n d_M_axiom_13 rfl ?_
      refine J_iload_n d_M_axiom_14 rfl ?_
      obtain ⟨v20, e19, h⟩ := jb_some h
      refine J_cVi1 d_M_axiom_15 (c_M_isClass l _ _ _ _ e19) (wM_at0 _ _) rfl ts_308 ts_good rfl rfl ts_278 ts_309 dy_M_isClass (by decide) (Nat.le_of_ble_eq_true rfl) ts_310 ts_311 ?_
      refine J_if_eq (tgt := 34) d_M_axiom_18 (by decide) (fun c => ?_) (fun c => ?_)
      · have h := j_ifp c h
        refine J_iconst (v := (-1 : Int32)) d_M_axiom_34 (by decide) ?_
        exact J_iret d_M_axiom_35 rfl rfl (by cases h; exact ⟨rfl, rfl⟩)
      · have h := j_ifn c h
        refine J_iload_n d_M_axiom_21 rfl ?_
        refine J_iconst (v := (-1 : Int32)) d_M_axiom_22 (by decide) ?_
        refine J_icmp_eq (tgt := 36) d_M_axiom_23 (by decide) (fun c => ?_) (fun c => ?_)
        · have h := j_ifp c h
          refine J_iload_n d_M_axiom_36 rfl ?_
          refine J_iload_n d_M_axiom_37 rfl ?_
          refine J_icmp_ne (tgt := 44) d_M_axiom_38 (by decide) (fun c => ?_) (fun c => ?_)
          · have h := j_ifn c h
            refine J_aload_n d_M_axiom_44 rfl ?_
            refine J_get (j := 3) (v := .int (s 3)) d_M_axiom_45 (wM_at0 _ _) rfl in_5 (by decide) ts_272 rfl ?_
            refine J_bipush (v := (40 : Int32)) d_M_axiom_48 (by decide) ?_
            refine J_icmp_ne (tgt := 56) d_M_axiom_50 (by decide) (fun c => ?_) (fun c => ?_)
            · have h := j_ifn c h
              refine J_aload_n d_M_axiom_56 rfl ?_
              refine J_get (j := 7) (v := .ref 1) d_M_axiom_57 (wM_at0 _ _) rfl in_5 (by decide) ts_274 rfl ?_
              refine J_aload_n d_M_axiom_60 rfl ?_
              refine J_get (j := 3) (v := .int (s 3)) d_M_axiom_61 (wM_at0 _ _) rfl in_5 (by decide) ts_272 rfl ?_
              refine J_iload_n d_M_axiom_64 rfl ?_
              obtain ⟨g, h⟩ := jg_some h
              refine J_iast (f := (a 1)) d_M_axiom_65 (wM_at1 _ _) (jin_in g) ?_
              refine J_eq (ws' := wM s (va_up a 1 (upd (a 1) ((s 3)).toNatClampNeg p0))) rfl rfl rfl (wM_ast1 _ _ _) ?_
              refine J_aload_n d_M_axiom_66 rfl ?_
              refine J_get (j := 8) (v := .ref 2) d_M_axiom_67 (wM_at0 _ _) rfl in_5 (by decide) ts_275 rfl ?_
              refine J_aload_n d_M_axiom_70 rfl ?_
              refine J_get (j := 3) (v := .int (s 3)) d_M_axiom_71 (wM_at0 _ _) rfl in_5 (by decide) ts_272 rfl ?_
              refine J_iload_n d_M_axiom_74 rfl ?_
              obtain ⟨g, h⟩ := jg_some h
              refine J_iast (f := ((va_up a 1 (upd (a 1) ((s 3)).toNatClampNeg p0)) 2)) d_M_axiom_75 (wM_at2 _ _) (jin_in g) ?_
              refine J_eq (ws' := wM s (va_up (va_up a 1 (upd (a 1) ((s 3)).toNatClampNeg p0)) 2 (upd ((va_up a 1 (upd (a 1) ((s 3)).toNatClampNeg p0)) 2) ((s 3)).toNatClampNeg p1))) rfl rfl rfl (wM_ast2 _ _ _) ?_
              refine J_aload_n d_M_axiom_76 rfl ?_
              refine J_get (j := 9) (v := .ref 3) d_M_axiom_77 (wM_at0 _ _) rfl in_5 (by decide) ts_276 rfl ?_
              refine J_aload_n d_M_axiom_80 rfl ?_
              refine J_get (j := 3) (v := .int (s 3)) d_M_axiom_81 (wM_at0 _ _) rfl in_5 (by decide) ts_272 rfl ?_
              refine J_iload_n d_M_axiom_84 rfl ?_
              obtain ⟨b21, hb21, h⟩ := jb_some h
              have kb21 : K_M_axiom l 94 [some (.ref 0), some (.int p0), some (.int p1), some (.int p2)] [.int b21, .int (s 3), .ref 3] (wM s (va_up (va_up a 1 (upd (a 1) ((s 3)).toNatClampNeg p0)) 2 (upd ((va_up a 1 (upd (a 1) ((s 3)).toNatClampNeg p0)) 2) ((s 3)).toNatClampNeg p1))) (fun v w => v = some (.int r.1) ∧ w = wM r.2.1 r.2.2) := by
                obtain ⟨g, h⟩ := jg_some h
                refine J_iast (f := ((va_up (va_up a 1 (upd (a 1) ((s 3)).toNatClampNeg p0)) 2 (upd ((va_up a 1 (upd (a 1) ((s 3)).toNatClampNeg p0)) 2) ((s 3)).toNatClampNeg p1)) 3)) d_M_axiom_94 (wM_at3 _ _) (jin_in g) ?_
                refine J_eq (ws' := wM s (va_up (va_up (va_up a 1 (upd (a 1) ((s 3)).toNatClampNeg p0)) 2 (upd ((va_up a 1 (upd (a 1) ((s 3)).toNatClampNeg p0)) 2) ((s 3)).toNatClampNeg p1)) 3 (upd ((va_up (va_up a 1 (upd (a 1) ((s 3)).toNatClampNeg p0)) 2 (upd ((va_up a 1 (upd (a 1) ((s 3)).toNatClampNeg p0)) 2) ((s 3)).toNatClampNeg p1)) 3) ((s 3)).toNatClampNeg b21))) rfl rfl rfl (wM_ast3 _ _ _) ?_
                refine J_aload_n d_M_axiom_95 rfl ?_
                refine J_get (j := 10) (v := .ref 4) d_M_axiom_96 (wM_at0 _ _) rfl in_5 (by decide) ts_273 rfl ?_
                refine J_aload_n d_M_axiom_99 rfl ?_
                refine J_get (j := 3) (v := .int (s 3)) d_M_axiom_100 (wM_at0 _ _) rfl in_5 (by decide) ts_272 rfl ?_
                refine J_iconst (v := (1 : Int32)) d_M_axiom_103 (by decide) ?_
                obtain ⟨g, h⟩ := jg_some h
                refine J_zast (f := ((va_up (va_up (va_up a 1 (upd (a 1) ((s 3)).toNatClampNeg p0)) 2 (upd ((va_up a 1 (upd (a 1) ((s 3)).toNatClampNeg p0)) 2) ((s 3)).toNatClampNeg p1)) 3 (upd ((va_up (va_up a 1 (upd (a 1) ((s 3)).toNatClampNeg p0)) 2 (upd ((va_up a 1 (upd (a 1) ((s 3)).toNatClampNeg p0)) 2) ((s 3)).toNatClampNeg p1)) 3) ((s 3)).toNatClampNeg b21)) 4)) d_M_axiom_104 (wM_at4 _ _) (jin_in g) ?_
                refine J_eq (ws' := wM s (va_up (va_up (va_up (va_up a 1 (upd (a 1) ((s 3)).toNatClampNeg p0)) 2 (upd ((va_up a 1 (upd (a 1) ((s 3)).toNatClampNeg p0)) 2) ((s 3)).toNatClampNeg p1)) 3 (upd ((va_up (va_up a 1 (upd (a 1) ((s 3)).toNatClampNeg p0)) 2 (upd ((va_up a 1 (upd (a 1) ((s 3)).toNatClampNeg p0)) 2) ((s 3)).toNatClampNeg p1)) 3) ((s 3)).toNatClampNeg b21)) 4 (upd ((va_up (va_up (va_up a 1 (upd (a 1) ((s 3)).toNatClampNeg p0)) 2 (upd ((va_up a 1 (upd (a 1) ((s 3)).toNatClampNeg p0)) 2) ((s 3)).toNatClampNeg p1)) 3 (upd ((va_up (va_up a 1 (upd (a 1) ((s 3)).toNatClampNeg p0)) 2 (upd ((va_up a 1 (upd (a 1) ((s 3)).toNatClampNeg p0)) 2) ((s 3)).toNatClampNeg p1)) 3) ((s 3)).toNatClampNeg b21)) 4) ((s 3)).toNatClampNeg (1 : Int32)))) rfl rfl rfl (wM_ast4 _ _ _) ?_
                refine J_aload_n d_M_axiom_105 rfl ?_
                refine J_dup d_M_axiom_106 rfl ?_
                refine J_get (j := 3) (v := .int (s 3)) d_M_axiom_107 (wM_at0 _ _) rfl in_5 (by decide) ts_272 rfl ?_
                refine J_iconst (v := (1 : Int32)) d_M_axiom_110 (by decide) ?_
                refine J_iadd d_M_axiom_111 ?_
                refine J_put (j := 3) d_M_axiom_112 (wM_at0 _ _) rfl in_5 ty_M tyok_M nok_M (by decide) ts_272 rfl (tyok_M 3 (by decide)) rfl rfl (Nat.le_of_ble_eq_true rfl) ?_
                refine J_eq rfl rfl rfl (wM_put3 _ _ _) ?_
                refine J_aload_n d_M_axiom_115 rfl ?_
                refine J_iconst (v := (0 : Int32)) d_M_axiom_116 (by decide) ?_
                refine J_put (j := 6) d_M_axiom_117 (wM_at0 _ _) rfl in_5 ty_M tyok_M nok_M (by decide) ts_271 rfl (tyok_M 6 (by decide)) (by decide) (by decide) (Nat.le_of_ble_eq_true rfl) ?_
                refine J_eq rfl rfl rfl (wM_put6 _ _ _) ?_
                refine J_aload_n d_M_axiom_120 rfl ?_
                refine J_aload_n d_M_axiom_121 rfl ?_
                refine J_get (j := 3) (v := .int ((s 3) + (1 : Int32))) d_M_axiom_122 (wM_at0 _ _) rfl in_5 (by decide) ts_272 rfl ?_
                refine J_iconst (v := (1 : Int32)) d_M_axiom_125 (by decide) ?_
                refine J_isub d_M_axiom_126 ?_
                refine J_iconst (v := (0 : Int32)) d_M_axiom_127 (by decide) ?_
                obtain ⟨s23, a24, e22, h⟩ := jb2_some h
                refine J_cVv2 d_M_axiom_128 (c_M_forget l _ _ _ _ _ e22) (wM_at0 _ _) rfl ts_317 ts_good rfl rfl ts_278 ts_318 dy_M_forget (by decide) (Nat.le_of_ble_eq_true rfl) ts_319 ts_320 ?_
                refine J_aload_n d_M_axiom_131 rfl ?_
                obtain ⟨s26, a27, e25, h⟩ := jb2_some h
                refine J_cVv0 d_M_axiom_132 (c_M_close l _ _ _ e25) (wM_at0 _ _) rfl ts_303 ts_good rfl rfl ts_278 ts_304 dy_M_close (by decide) (Nat.le_of_ble_eq_true rfl) ts_305 ts_306 ?_
                refine J_aload_n d_M_axiom_135 rfl ?_
                refine J_get (j := 3) (v := .int (s26 3)) d_M_axiom_136 (wM_at0 _ _) rfl in_5 (by decide) ts_272 rfl ?_
                refine J_iconst (v := (1 : Int32)) d_M_axiom_139 (by decide) ?_
                refine J_isub d_M_axiom_140 ?_
                exact J_iret d_M_axiom_141 rfl rfl (by cases h; exact ⟨rfl, rfl⟩)
              clear h
              have h := hb21
              refine J_if_ge (tgt := 93) d_M_axiom_85 (by decide) (fun c => ?_) (fun c => ?_)
              · have h := j_ifp c h
                refine J_iload_n d_M_axiom_93 rfl ?_
                cases h
                exact kb21
              · have h := j_ifn c h
                refine J_bipush (v := (20 : Int32)) d_M_axiom_88 (by decide) ?_
                refine J_goto (tgt := 94) d_M_axiom_90 (by decide) ?_
                cases h
                exact kb21
            · have h := j_ifp c h
              refine J_bipush (v := (-4 : Int32)) d_M_axiom_53 (by decide) ?_
              exact J_iret d_M_axiom_55 rfl rfl (by cases h; exact ⟨rfl, rfl⟩)
          · have h := j_ifp c h
            refine J_bipush (v := (-2 : Int32)) d_M_axiom_41 (by decide) ?_
            exact J_iret d_M_axiom_43 rfl rfl (by cases h; exact ⟨rfl, rfl⟩)
        · have h := j_ifn c h
          refine J_aload_n d_M_axiom_26 rfl ?_
          refine J_iload_n d_M_axiom_27 rfl ?_
          obtain ⟨v29, e28, h⟩ := jb_some h
          refine J_cVi1 d_M_axiom_28 (c_M_isClass l _ _ _ _ e28) (wM_at0 _ _) rfl ts_308 ts_good rfl rfl ts_278 ts_309 dy_M_isClass (by decide) (Nat.le_of_ble_eq_true rfl) ts_310 ts_311 ?_
          refine J_if_ne (tgt := 36) d_M_axiom_31 (by decide) (fun c => ?_) (fun c => ?_)
          · have h := j_ifn c h
            refine J_iload_n d_M_axiom_36 rfl ?_
            refine J_iload_n d_M_axiom_37 rfl ?_
            refine J_icmp_ne (tgt := 44) d_M_axiom_38 (by decide) (fun c => ?_) (fun c => ?_)
            · have h := j_ifn c h
              refine J_aload_n d_M_axiom_44 rfl ?_
              refine J_get (j := 3) (v := .int (s 3)) d_M_axiom_45 (wM_at0 _ _) rfl in_5 (by decide) ts_272 rfl ?_
              refine J_bipush (v := (40 : Int32)) d_M_axiom_48 (by decide) ?_
              refine J_icmp_ne (tgt := 56) d_M_axiom_50 (by decide) (fun c => ?_) (fun c => ?_)
              · have h := j_ifn c h
                refine J_aload_n d_M_axiom_56 rfl ?_
                refine J_get (j := 7) (v := .ref 1) d_M_axiom_57 (wM_at0 _ _) rfl in_5 (by decide) ts_274 rfl ?_
                refine J_aload_n d_M_axiom_60 rfl ?_
                refine J_get (j := 3) (v := .int (s 3)) d_M_axiom_61 (wM_at0 _ _) rfl in_5 (by decide) ts_272 rfl ?_
                refine J_iload_n d_M_axiom_64 rfl ?_
                obtain ⟨g, h⟩ := jg_some h
                refine J_iast (f := (a 1)) d_M_axiom_65 (wM_at1 _ _) (jin_in g) ?_
                refine J_eq (ws' := wM s (va_up a 1 (upd (a 1) ((s 3)).toNatClampNeg p0))) rfl rfl rfl (wM_ast1 _ _ _) ?_
                refine J_aload_n d_M_axiom_66 rfl ?_
                refine J_get (j := 8) (v := .ref 2) d_M_axiom_67 (wM_at0 _ _) rfl in_5 (by decide) ts_275 rfl ?_
                refine J_aload_n d_M_axiom_70 rfl ?_
                refine J_get (j := 3) (v := .int (s 3)) d_M_axiom_71 (wM_at0 _ _) rfl in_5 (by decide) ts_272 rfl ?_
                refine J_iload_n d_M_axiom_74 rfl ?_
                obtain ⟨g, h⟩ := jg_some h
                refine J_iast (f := ((va_up a 1 (upd (a 1) ((s 3)).toNatClampNeg p0)) 2)) d_M_axiom_75 (wM_at2 _ _) (jin_in g) ?_
                refine J_eq (ws' := wM s (va_up (va_up a 1 (upd (a 1) ((s 3)).toNatClampNeg p0)) 2 (upd ((va_up a 1 (upd (a 1) ((s 3)).toNatClampNeg p0)) 2) ((s 3)).toNatClampNeg p1))) rfl rfl rfl (wM_ast2 _ _ _) ?_
                refine J_aload_n d_M_axiom_76 rfl ?_
                refine J_get (j := 9) (v := .ref 3) d_M_axiom_77 (wM_at0 _ _) rfl in_5 (by decide) ts_276 rfl ?_
                refine J_aload_n d_M_axiom_80 rfl ?_
                refine J_get (j := 3) (v := .int (s 3)) d_M_axiom_81 (wM_at0 _ _) rfl in_5 (by decide) ts_272 rfl ?_
                refine J_iload_n d_M_axiom_84 rfl ?_
                obtain ⟨b30, hb30, h⟩ := jb_some h
                have kb30 : K_M_axiom l 94 [some (.ref 0), some (.int p0), some (.int p1), some (.int p2)] [.int b30, .int (s 3), .ref 3] (wM s (va_up (va_up a 1 (upd (a 1) ((s 3)).toNatClampNeg p0)) 2 (upd ((va_up a 1 (upd (a 1) ((s 3)).toNatClampNeg p0)) 2) ((s 3)).toNatClampNeg p1))) (fun v w => v = some (.int r.1) ∧ w = wM r.2.1 r.2.2) := by
                  obtain ⟨g, h⟩ := jg_some h
                  refine J_iast (f := ((va_up (va_up a 1 (upd (a 1) ((s 3)).toNatClampNeg p0)) 2 (upd ((va_up a 1 (upd (a 1) ((s 3)).toNatClampNeg p0)) 2) ((s 3)).toNatClampNeg p1)) 3)) d_M_axiom_94 (wM_at3 _ _) (jin_in g) ?_
                  refine J_eq (ws' := wM s (va_up (va_up (va_up a 1 (upd (a 1) ((s 3)).toNatClampNeg p0)) 2 (upd ((va_up a 1 (upd (a 1) ((s 3)).toNatClampNeg p0)) 2) ((s 3)).toNatClampNeg p1)) 3 (upd ((va_up (va_up a 1 (upd (a 1) ((s 3)).toNatClampNeg p0)) 2 (upd ((va_up a 1 (upd (a 1) ((s 3)).toNatClampNeg p0)) 2) ((s 3)).toNatClampNeg p1)) 3) ((s 3)).toNatClampNeg b30))) rfl rfl rfl (wM_ast3 _ _ _) ?_
                  refine J_aload_n d_M_axiom_95 rfl ?_
                  refine J_get (j := 10) (v := .ref 4) d_M_axiom_96 (wM_at0 _ _) rfl in_5 (by decide) ts_273 rfl ?_
                  refine J_aload_n d_M_axiom_99 rfl ?_
                  refine J_get (j := 3) (v := .int (s 3)) d_M_axiom_100 (wM_at0 _ _) rfl in_5 (by decide) ts_272 rfl ?_
                  refine J_iconst (v := (1 : Int32)) d_M_axiom_103 (by decide) ?_
                  obtain ⟨g, h⟩ := jg_some h
                  refine J_zast (f := ((va_up (va_up (va_up a 1 (upd (a 1) ((s 3)).toNatClampNeg p0)) 2 (upd ((va_up a 1 (upd (a 1) ((s 3)).toNatClampNeg p0)) 2) ((s 3)).toNatClampNeg p1)) 3 (upd ((va_up (va_up a 1 (upd (a 1) ((s 3)).toNatClampNeg p0)) 2 (upd ((va_up a 1 (upd (a 1) ((s 3)).toNatClampNeg p0)) 2) ((s 3)).toNatClampNeg p1)) 3) ((s 3)).toNatClampNeg b30)) 4)) d_M_axiom_104 (wM_at4 _ _) (jin_in g) ?_
                  refine J_eq (ws' := wM s (va_up (va_up (va_up (va_up a 1 (upd (a 1) ((s 3)).toNatClampNeg p0)) 2 (upd ((va_up a 1 (upd (a 1) ((s 3)).toNatClampNeg p0)) 2) ((s 3)).toNatClampNeg p1)) 3 (upd ((va_up (va_up a 1 (upd (a 1) ((s 3)).toNatClampNeg p0)) 2 (upd ((va_up a 1 (upd (a 1) ((s 3)).toNatClampNeg p0)) 2) ((s 3)).toNatClampNeg p1)) 3) ((s 3)).toNatClampNeg b30)) 4 (upd ((va_up (va_up (va_up a 1 (upd (a 1) ((s 3)).toNatClampNeg p0)) 2 (upd ((va_up a 1 (upd (a 1) ((s 3)).toNatClampNeg p0)) 2) ((s 3)).toNatClampNeg p1)) 3 (upd ((va_up (va_up a 1 (upd (a 1) ((s 3)).toNatClampNeg p0)) 2 (upd ((va_up a 1 (upd (a 1) ((s 3)).toNatClampNeg p0)) 2) ((s 3)).toNatClampNeg p1)) 3) ((s 3)).toNatClampNeg b30)) 4) ((s 3)).toNatClampNeg (1 : Int32)))) rfl rfl rfl (wM_ast4 _ _ _) ?_
                  refine J_aload_n d_M_axiom_105 rfl ?_
                  refine J_dup d_M_axiom_106 rfl ?_
                  refine J_get (j := 3) (v := .int (s 3)) d_M_axiom_107 (wM_at0 _ _) rfl in_5 (by decide) ts_272 rfl ?_
                  refine J_iconst (v := (1 : Int32)) d_M_axiom_110 (by decide) ?_
                  refine J_iadd d_M_axiom_111 ?_
                  refine J_put (j := 3) d_M_axiom_112 (wM_at0 _ _) rfl in_5 ty_M tyok_M nok_M (by decide) ts_272 rfl (tyok_M 3 (by decide)) rfl rfl (Nat.le_of_ble_eq_true rfl) ?_
                  refine J_eq rfl rfl rfl (wM_put3 _ _ _) ?_
                  refine J_aload_n d_M_axiom_115 rfl ?_
                  refine J_iconst (v := (0 : Int32)) d_M_axiom_116 (by decide) ?_
                  refine J_put (j := 6) d_M_axiom_117 (wM_at0 _ _) rfl in_5 ty_M tyok_M nok_M (by decide) ts_271 rfl (tyok_M 6 (by decide)) (by decide) (by decide) (Nat.le_of_ble_eq_true rfl) ?_
                  refine J_eq rfl rfl rfl (wM_put6 _ _ _) ?_
                  refine J_aload_n d_M_axiom_120 rfl ?_
                  refine J_aload_n d_M_axiom_121 rfl ?_
                  refine J_get (j := 3) (v := .int ((s 3) + (1 : Int32))) d_M_axiom_122 (wM_at0 _ _) rfl in_5 (by decide) ts_272 rfl ?_
                  refine J_iconst (v := (1 : Int32)) d_M_axiom_125 (by decide) ?_
                  refine J_isub d_M_axiom_126 ?_
                  refine J_iconst (v := (0 : Int32)) d_M_axiom_127 (by decide) ?_
                  obtain ⟨s32, a33, e31, h⟩ := jb2_some h
                  refine J_cVv2 d_M_axiom_128 (c_M_forget l _ _ _ _ _ e31) (wM_at0 _ _) rfl ts_317 ts_good rfl rfl ts_278 ts_318 dy_M_forget (by decide) (Nat.le_of_ble_eq_true rfl) ts_319 ts_320 ?_
                  refine J_aload_n d_M_axiom_131 rfl ?_
                  obtain ⟨s35, a36, e34, h⟩ := jb2_some h
                  refine J_cVv0 d_M_axiom_132 (c_M_close l _ _ _ e34) (wM_at0 _ _) rfl ts_303 ts_good rfl rfl ts_278 ts_304 dy_M_close (by decide) (Nat.le_of_ble_eq_true rfl) ts_305 ts_306 ?_
                  refine J_aload_n d_M_axiom_135 rfl ?_
                  refine J_get (j := 3) (v := .int (s35 3)) d_M_axiom_136 (wM_at0 _ _) rfl in_5 (by decide) ts_272 rfl ?_
                  refine J_iconst (v := (1 : Int32)) d_M_axiom_139 (by decide) ?_
                  refine J_isub d_M_axiom_140 ?_
                  exact J_iret d_M_axiom_141 rfl rfl (by cases h; exact ⟨rfl, rfl⟩)
                clear h
                have h := hb30
                refine J_if_ge (tgt := 93) d_M_axiom_85 (by decide) (fun c => ?_) (fun c => ?_)
                · have h := j_ifp c h
                  refine J_iload_n d_M_axiom_93 rfl ?_
                  cases h
                  exact kb30
                · have h := j_ifn c h
                  refine J_bipush (v := (20 : Int32)) d_M_axiom_88 (by decide) ?_
                  refine J_goto (tgt := 94) d_M_axiom_90 (by decide) ?_
                  cases h
                  exact kb30
              · have h := j_ifp c h
                refine J_bipush (v := (-4 : Int32)) d_M_axiom_53 (by decide) ?_
                exact J_iret d_M_axiom_55 rfl rfl (by cases h; exact ⟨rfl, rfl⟩)
            · have h := j_ifp c h
              refine J_bipush (v := (-2 : Int32)) d_M_axiom_41 (by decide) ?_
              exact J_iret d_M_axiom_43 rfl rfl (by cases h; exact ⟨rfl, rfl⟩)
          · have h := j_ifp c h
            refine J_iconst (v := (-1 : Int32)) d_M_axiom_34 (by decide) ?_
            exact J_iret d_M_axiom_35 rfl rfl (by cases h; exact ⟨rfl, rfl⟩)
abbrev rm_M_remove : Room := { frames := 4, cells := 0, slots := 0, locals := 93 }
abbrev K_M_remove (l : Launch) := JW l vwCl NsG TsG "ClassifySortModel" prog_7_method_20_code 4 (some .int) rm_M_remove
def L_M_remove_25 (k50 : jS → jB → Option (Int32 × jS × jB)) : Nat → jS → jB → Int32 → Option (Int32 × jS × jB)
  | 0, _, _, _ => none
  | f + 1, s, a, x2 => (if (420 : Int32) ≤ x2 then k50 (s) (a) else jg (jin x2 420) (jg (jin x2 420) (L_M_remove_25 k50 f (s) ((va_up a 7 (upd (a 7) (x2).toNatClampNeg ((a 6) (x2).toNatClampNeg)))) ((x2 + (1 : Int32))))))
set_option maxRecDepth 100000 in
set_option maxHeartbeats 4000000 in
theorem JL_M_remove_25 (l : Launch) (c1 : Int32) (k50 : jS → jB → Option (Int32 × jS × jB)) (r : Int32 × jS × jB) (hk50 : ∀ (s : jS) (a : jB) (o2 : Option Value) (o3 : Option Value), k50 s a = some r → K_M_remove l 50 [some (.ref 0), some (.int c1), o2, o3] [] (wM s a) (fun v w => v = some (.int r.1) ∧ w = wM r.2.1 r.2.2)) : ∀ (f : Nat), ∀ (s : jS) (a : jB) (x2 : Int32) (o3 : Option Value), L_M_remove_25 k50 f s a x2 = some r → K_M_remove l 25 [some (.ref 0), some (.int c1), some (.int x2), o3] [] (wM s a) (fun v w => v = some (.int r.1) ∧ w = wM r.2.1 r.2.2) := by
  intro f
  induction f with
  | zero =>
    intro s a x2 o3 h
    cases h
  | succ f ih =>
    intro s a x2 o3 h
    rw [L_M_remove_25] at h
    refine J_iload_n d_M_remove_25 rfl ?_
    refine J_sipush (v := (420 : Int32)) d_M_remove_26 (by decide) ?_
    refine J_icmp_ge (tgt := 50) d_M_remove_29 (by decide) (fun c => ?_) (fun c => ?_)
    · have h := j_ifp c h
      exact hk50 _ _ _ _ h
    · have h := j_ifn c h
      refine J_aload_n d_M_remove_32 rfl ?_
      refine J_get (j := 13) (v := .ref 7) d_M_remove_33 (wM_at0 _ _) rfl in_5 (by decide) ts_321 rfl ?_
      refine J_iload_n d_M_remove_36 rfl ?_
      refine J_aload_n d_M_remove_37 rfl ?_
      refine J_get (j := 12) (v := .ref 6) d_M_remove_38 (wM_at0 _ _) rfl in_5 (by decide) ts_282 rfl ?_
      refine J_iload_n d_M_remove_41 rfl ?_
      obtain ⟨g, h⟩ := jg_some h
      refine J_iald (f := (a 6)) d_M_remove_42 (wM_at6 _ _) (jin_in g) ?_
      obtain ⟨g, h⟩ := jg_some h
      refine J_iast (f := (a 7)) d_M_remove_43 (wM_at7 _ _) (jin_in g) ?_
      refine J_eq (ws' := wM s (va_up a 7 (upd (a 7) (x2).toNatClampNeg ((a 6) (x2).toNatClampNeg)))) rfl rfl rfl (wM_ast7 _ _ _) ?_
      refine J_iinc (v := (x2 + (1 : Int32))) d_M_remove_44 rfl (by first | rfl | decide) (by decide) ?_
      refine J_goto (tgt := 25) d_M_remove_47 (by decide) ?_
      exact ih _ _ _ _ h
def L_M_remove_76 (s : jS) (a : jB) (k117 : Int32 → Option (Int32 × jS × jB)) : Nat → Int32 → Int32 → Option (Int32 × jS × jB)
  | 0, _, _ => none
  | f + 1, x2, x3 => (if (420 : Int32) ≤ x3 then k117 (x2) else jg (jin x3 420) (jb (if ((a 7) (x3).toNatClampNeg) = (3 : Int32) then some (0 : Int32) else jg (jin x3 420) ((if ((a 6) (x3).toNatClampNeg) = (3 : Int32) then some (1 : Int32) else some (0 : Int32)))) (fun b11 => L_M_remove_76 s a k117 f ((x2 + b11)) ((x3 + (1 : Int32))))))
set_option maxRecDepth 100000 in
set_option maxHeartbeats 4000000 in
theorem JL_M_remove_76 (l : Launch) (s : jS) (a : jB) (k117 : Int32 → Option (Int32 × jS × jB)) (r : Int32 × jS × jB) (hk117 : ∀ (x2 : Int32) (o1 : Option Value) (o3 : Option Value), k117 x2 = some r → K_M_remove l 117 [some (.ref 0), o1, some (.int x2), o3] [] (wM s a) (fun v w => v = some (.int r.1) ∧ w = wM r.2.1 r.2.2)) : ∀ (f : Nat), ∀ (x2 : Int32) (x3 : Int32) (o1 : Option Value), L_M_remove_76 s a k117 f x2 x3 = some r → K_M_remove l 76 [some (.ref 0), o1, some (.int x2), some (.int x3)] [] (wM s a) (fun v w => v = some (.int r.1) ∧ w = wM r.2.1 r.2.2) := by
  intro f
  induction f with
  | zero =>
    intro x2 x3 o1 h
    cases h
  | succ f ih =>
    intro x2 x3 o1 h
    rw [L_M_remove_76] at h
    refine J_iload_n d_M_remove_76 rfl ?_
    refine J_sipush (v := (420 : Int32)) d_M_remove_77 (by decide) ?_
    refine J_icmp_ge (tgt := 117) d_M_remove_80 (by decide) (fun c => ?_) (fun c => ?_)
    · have h := j_ifp c h
      exact hk117 _ _ _ h
    · have h := j_ifn c h
      refine J_iload_n d_M_remove_83 rfl ?_
      refine J_aload_n d_M_remove_84 rfl ?_
      refine J_get (j := 13) (v := .ref 7) d_M_remove_85 (wM_at0 _ _) rfl in_5 (by decide) ts_321 rfl ?_
      refine J_iload_n d_M_remove_88 rfl ?_
      obtain ⟨g, h⟩ := jg_some h
      refine J_iald (f := (a 7)) d_M_remove_89 (wM_at7 _ _) (jin_in g) ?_
      refine J_iconst (v := (3 : Int32)) d_M_remove_90 (by decide) ?_
      obtain ⟨b11, hb11, h⟩ := jb_some h
      have kb11 : K_M_remove l 109 [some (.ref 0), o1, some (.int x2), some (.int x3)] [.int b11, .int x2] (wM s a) (fun v w => v = some (.int r.1) ∧ w = wM r.2.1 r.2.2) := by
        refine J_iadd d_M_remove_109 ?_
        refine J_istore_n d_M_remove_110 (by decide) ?_
        refine J_iinc (v := (x3 + (1 : Int32))) d_M_remove_111 rfl (by first | rfl | decide) (by decide) ?_
        refine J_goto (tgt := 76) d_M_remove_114 (by decide) ?_
        exact ih _ _ _ h
      clear h
      have h := hb11
      refine J_icmp_eq (tgt := 108) d_M_remove_91 (by decide) (fun c => ?_) (fun c => ?_)
      · have h := j_ifp c h
        refine J_iconst (v := (0 : Int32)) d_M_remove_108 (by decide) ?_
        cases h
        exact kb11
      · have h := j_ifn c h
        refine J_aload_n d_M_remove_94 rfl ?_
        refine J_get (j := 12) (v := .ref 6) d_M_remove_95 (wM_at0 _ _) rfl in_5 (by decide) ts_282 rfl ?_
        refine J_iload_n d_M_remove_98 rfl ?_
        obtain ⟨g, h⟩ := jg_some h
        refine J_iald (f := (a 6)) d_M_remove_99 (wM_at6 _ _) (jin_in g) ?_
        refine J_iconst (v := (3 : Int32)) d_M_remove_100 (by decide) ?_
        refine J_icmp_ne (tgt := 108) d_M_remove_101 (by decide) (fun c => ?_) (fun c => ?_)
        · have h := j_ifn c h
          refine J_iconst (v := (0 : Int32)) d_M_remove_108 (by decide) ?_
          cases h
          exact kb11
        · have h := j_ifp c h
          refine J_iconst (v := (1 : Int32)) d_M_remove_104 (by decide) ?_
          refine J_goto (tgt := 109) d_M_remove_105 (by decide) ?_
          cases h
          exact kb11
def m_M_remove (s : jS) (a : jB) (p0 : Int32) : Option (Int32 × jS × jB) := (if p0 < (0 : Int32) then some ((-1 : Int32), s, a) else (if (s 3) ≤ p0 then some ((-1 : Int32), s, a) else jg (jin p0 40) ((if ((a 4) (p0).toNatClampNeg) = (0 : Int32) then some ((-1 : Int32), s, a) else L_M_remove_25 (fun s1 a2 => jb2 (m_M_forget s1 a2 p0 (1 : Int32)) (fun s6 a7 => jg (jin p0 40) (jb2 (m_M_close (upd s6 6 (0 : Int32)) (va_up a7 4 (upd (a7 4) (p0).toNatClampNeg (0 : Int32)))) (fun s9 a10 => L_M_remove_76 (s9) (a10) (fun x12 => some (x12, s9, a10)) jF ((0 : Int32)) ((0 : Int32)))))) jF (s) (a) ((0 : Int32))))))
set_option maxRecDepth 100000 in
set_option maxHeartbeats 4000000 in
theorem c_M_remove (l : Launch) (s : jS) (a : jB) (p0 : Int32) (r : Int32 × jS × jB) (h : m_M_remove s a p0 = some r) : JMet l vwCl NsG (.code y_M_remove prog_7_method_20_code 4 (some .int) :: TsG) y_M_remove rm_M_remove [.ref 0, .int p0] (wM s a) (fun v w => v = some (.int r.1) ∧ w = wM r.2.1 r.2.2) := by
  refine J_enter (by decide +kernel) rfl (Nat.le_of_ble_eq_true rfl) ?_
  unfold m_M_remove at h
  refine J_eq (ls' := [some (.ref 0), some (.int p0), none, none]) rfl rfl rfl rfl ?_
  refine J_iload_n d_M_remove_0 rfl ?_
  refine J_if_lt (tgt := 21) d_M_remove_1 (by decide) (fun c => ?_) (fun c => ?_)
  · have h := j_ifp c h
    refine J_iconst (v := (-1 : Int32)) d_M_remove_21 (by decide) ?_
    exact J_iret d_M_remove_22 rfl rfl (by cases h; exact ⟨rfl, rfl⟩)
  · have h := j_ifn c h
    refine J_iload_n d_M_remove_4 rfl ?_
    refine J_aload_n d_M_remove_5 rfl ?_
    refine J_get (j := 3) (v := .int (s 3)) d_M_remove_6 (wM_at0 _ _) rfl in_5 (by decide) ts_272 rfl ?_
    refine J_icmp_ge (tgt := 21) d_M_remove_9 (by decide) (fun c => ?_) (fun c => ?_)
    · have h := j_ifp c h
      refine J_iconst (v := (-1 : Int32)) d_M_remove_21 (by decide) ?_
      exact J_iret d_M_remove_22 rfl rfl (by cases h; exact ⟨rfl, rfl⟩)
    · have h := j_ifn c h
      refine J_aload_n d_M_remove_12 rfl ?_
      refine J_get (j := 10) (v := .ref 4) d_M_remove_13 (wM_at0 _ _) rfl in_5 (by decide) ts_273 rfl ?_
      refine J_iload_n d_M_remove_16 rfl ?_
      obtain ⟨g, h⟩ := jg_some h
      refine J_zald (f := (a 4)) d_M_remove_17 (wM_at4 _ _) (jin_in g) ?_
      refine J_if_ne (tgt := 23) d_M_remove_18 (by decide) (fun c => ?_) (fun c => ?_)
      · have h := j_ifn c h
        refine J_iconst (v := (0 : Int32)) d_M_remove_23 (by decide) ?_
        refine J_istore_n d_M_remove_24 (by decide) ?_
        refine JL_M_remove_25 l _ _ r (fun s1 a2 o3 o4 h => ?_) jF _ _ _ _ h
        refine J_aload_n d_M_remove_50 rfl ?_
        refine J_iload_n d_M_remove_51 rfl ?_
        refine J_iconst (v := (1 : Int32)) d_M_remove_52 (by decide) ?_
        obtain ⟨s6, a7, e5, h⟩ := jb2_some h
        refine J_cVv2 d_M_remove_53 (c_M_forget l _ _ _ _ _ e5) (wM_at0 _ _) rfl ts_317 ts_good rfl rfl ts_278 ts_318 dy_M_forget (by decide) (Nat.le_of_ble_eq_true rfl) ts_319 ts_320 ?_
        refine J_aload_n d_M_remove_56 rfl ?_
        refine J_get (j := 10) (v := .ref 4) d_M_remove_57 (wM_at0 _ _) rfl in_5 (by decide) ts_273 rfl ?_
        refine J_iload_n d_M_remove_60 rfl ?_
        refine J_iconst (v := (0 : Int32)) d_M_remove_61 (by decide) ?_
        obtain ⟨g, h⟩ := jg_some h
        refine J_zast (f := (a7 4)) d_M_remove_62 (wM_at4 _ _) (jin_in g) ?_
        refine J_eq (ws' := wM s6 (va_up a7 4 (upd (a7 4) (p0).toNatClampNeg (0 : Int32)))) rfl rfl rfl (wM_ast4 _ _ _) ?_
        refine J_aload_n d_M_remove_63 rfl ?_
        refine J_iconst (v := (0 : Int32)) d_M_remove_64 (by decide) ?_
        refine J_put (j := 6) d_M_remove_65 (wM_at0 _ _) rfl in_5 ty_M tyok_M nok_M (by decide) ts_271 rfl (tyok_M 6 (by decide)) (by decide) (by decide) (Nat.le_of_ble_eq_true rfl) ?_
        refine J_eq rfl rfl rfl (wM_put6 _ _ _) ?_
        refine J_aload_n d_M_remove_68 rfl ?_
        obtain ⟨s9, a10, e8, h⟩ := jb2_some h
        refine J_cVv0 d_M_remove_69 (c_M_close l _ _ _ e8) (wM_at0 _ _) rfl ts_303 ts_good rfl rfl ts_278 ts_304 dy_M_close (by decide) (Nat.le_of_ble_eq_true rfl) ts_305 ts_306 ?_
        refine J_iconst (v := (0 : Int32)) d_M_remove_72 (by decide) ?_
        refine J_istore_n d_M_remove_73 (by decide) ?_
        refine J_iconst (v := (0 : Int32)) d_M_remove_74 (by decide) ?_
        refine J_istore_n d_M_remove_75 (by decide) ?_
        refine JL_M_remove_76 l _ _ _ r (fun x12 o13 o14 h => ?_) jF _ _ _ h
        refine J_iload_n d_M_remove_117 rfl ?_
        exact J_iret d_M_remove_118 rfl rfl (by cases h; exact ⟨rfl, rfl⟩)
      · have h := j_ifp c h
        refine J_iconst (v := (-1 : Int32)) d_M_remove_21 (by decide) ?_
        exact J_iret d_M_remove_22 rfl rfl (by cases h; exact ⟨rfl, rfl⟩)
abbrev rm_M_openPairs : Room := { frames := 0, cells := 0, slots := 0, locals := 0 }
abbrev K_M_openPairs (l : Launch) := JW l vwCl NsG TsG "ClassifySortModel" prog_7_method_21_code 3 (some .int) rm_M_openPairs
def L_M_openPairs_4 (s : jS) (a : jB) (k35 : Int32 → Option (Int32)) : Nat → Int32 → Int32 → Option (Int32)
  | 0, _, _ => none
  | f + 1, x1, x2 => (if (420 : Int32) ≤ x2 then k35 (x1) else jg (jin x2 420) (jb (if ((a 6) (x2).toNatClampNeg) = (2 : Int32) then some (1 : Int32) else some (0 : Int32)) (fun b1 => L_M_openPairs_4 s a k35 f ((x1 + b1)) ((x2 + (1 : Int32))))))
set_option maxRecDepth 100000 in
set_option maxHeartbeats 4000000 in
theorem JL_M_openPairs_4 (l : Launch) (s : jS) (a : jB) (k35 : Int32 → Option (Int32)) (r : Int32) (hk35 : ∀ (x1 : Int32) (o2 : Option Value), k35 x1 = some r → K_M_openPairs l 35 [some (.ref 0), some (.int x1), o2] [] (wM s a) (fun v w => v = some (.int r) ∧ w = wM s a)) : ∀ (f : Nat), ∀ (x1 : Int32) (x2 : Int32), L_M_openPairs_4 s a k35 f x1 x2 = some r → K_M_openPairs l 4 [some (.ref 0), some (.int x1), some (.int x2)] [] (wM s a) (fun v w => v = some (.int r) ∧ w = wM s a) := by
  intro f
  induction f with
  | zero =>
    intro x1 x2 h
    cases h
  | succ f ih =>
    intro x1 x2 h
    rw [L_M_openPairs_4] at h
    refine J_iload_n d_M_openPairs_4 rfl ?_
    refine J_sipush (v := (420 : Int32)) d_M_openPairs_5 (by decide) ?_
    refine J_icmp_ge (tgt := 35) d_M_openPairs_8 (by decide) (fun c => ?_) (fun c => ?_)
    · have h := j_ifp c h
      exact hk35 _ _ h
    · have h := j_ifn c h
      refine J_iload_n d_M_openPairs_11 rfl ?_
      refine J_aload_n d_M_openPairs_12 rfl ?_
      refine J_get (j := 12) (v := .ref 6) d_M_openPairs_13 (wM_at0 _ _) rfl in_5 (by decide) ts_282 rfl ?_
      refine J_iload_n d_M_openPairs_16 rfl ?_
      obtain ⟨g, h⟩ := jg_some h
      refine J_iald (f := (a 6)) d_M_openPairs_17 (wM_at6 _ _) (jin_in g) ?_
      refine J_iconst (v := (2 : Int32)) d_M_openPairs_18 (by decide) ?_
      obtain ⟨b1, hb1, h⟩ := jb_some h
      have kb1 : K_M_openPairs l 27 [some (.ref 0), some (.int x1), some (.int x2)] [.int b1, .int x1] (wM s a) (fun v w => v = some (.int r) ∧ w = wM s a) := by
        refine J_iadd d_M_openPairs_27 ?_
        refine J_istore_n d_M_openPairs_28 (by decide) ?_
        refine J_iinc (v := (x2 + (1 : Int32))) d_M_openPairs_29 rfl (by first | rfl | decide) (by decide) ?_
        refine J_goto (tgt := 4) d_M_openPairs_32 (by decide) ?_
        exact ih _ _ h
      clear h
      have h := hb1
      refine J_icmp_ne (tgt := 26) d_M_openPairs_19 (by decide) (fun c => ?_) (fun c => ?_)
      · have h := j_ifn c h
        refine J_iconst (v := (0 : Int32)) d_M_openPairs_26 (by decide) ?_
        cases h
        exact kb1
      · have h := j_ifp c h
        refine J_iconst (v := (1 : Int32)) d_M_openPairs_22 (by decide) ?_
        refine J_goto (tgt := 27) d_M_openPairs_23 (by decide) ?_
        cases h
        exact kb1
def m_M_openPairs (s : jS) (a : jB) : Option (Int32) := L_M_openPairs_4 (s) (a) (fun x2 => some (x2)) jF ((0 : Int32)) ((0 : Int32))
set_option maxRecDepth 100000 in
set_option maxHeartbeats 4000000 in
theorem c_M_openPairs (l : Launch) (s : jS) (a : jB) (r : Int32) (h : m_M_openPairs s a = some r) : JMet l vwCl NsG (.code y_M_openPairs prog_7_method_21_code 3 (some .int) :: TsG) y_M_openPairs rm_M_openPairs [.ref 0] (wM s a) (fun v w => v = some (.int r) ∧ w = wM s a) := by
  refine J_enter (by decide +kernel) rfl (Nat.le_of_ble_eq_true rfl) ?_
  unfold m_M_openPairs at h
  refine J_eq (ls' := [some (.ref 0), none, none]) rfl rfl rfl rfl ?_
  refine J_iconst (v := (0 : Int32)) d_M_openPairs_0 (by decide) ?_
  refine J_istore_n d_M_openPairs_1 (by decide) ?_
  refine J_iconst (v := (0 : Int32)) d_M_openPairs_2 (by decide) ?_
  refine J_istore_n d_M_openPairs_3 (by decide) ?_
  refine JL_M_openPairs_4 l _ _ _ r (fun x2 o3 h => ?_) jF _ _ h
  refine J_iload_n d_M_openPairs_35 rfl ?_
  exact J_iret d_M_openPairs_36 rfl rfl (by cases h; exact ⟨rfl, rfl⟩)
abbrev rm_M_fuel : Room := { frames := 1, cells := 0, slots := 0, locals := 22 }
abbrev K_M_fuel (l : Launch) := JW l vwCl NsG TsG "ClassifySortModel" prog_7_method_22_code 4 (some .int) rm_M_fuel
def L_M_fuel_20 (k59 : jS → jB → Option (Int32 × jS × jB)) : Nat → jS → jB → Int32 → Option (Int32 × jS × jB)
  | 0, _, _, _ => none
  | f + 1, s, a, x3 => (if (420 : Int32) ≤ x3 then k59 (s) (a) else jg (jin x3 420) (jb (if ((a 6) (x3).toNatClampNeg) = (2 : Int32) then some (3 : Int32) else jg (jin x3 420) (some ((a 6) (x3).toNatClampNeg))) (fun b3 => jg (jin x3 420) (L_M_fuel_20 k59 f (s) ((va_up a 6 (upd (a 6) (x3).toNatClampNeg b3))) ((x3 + (1 : Int32)))))))
set_option maxRecDepth 100000 in
set_option maxHeartbeats 4000000 in
theorem JL_M_fuel_20 (l : Launch) (c1 : Int32) (c2 : Int32) (k59 : jS → jB → Option (Int32 × jS × jB)) (r : Int32 × jS × jB) (hk59 : ∀ (s : jS) (a : jB) (o3 : Option Value), k59 s a = some r → K_M_fuel l 59 [some (.ref 0), some (.int c1), some (.int c2), o3] [] (wM s a) (fun v w => v = some (.int r.1) ∧ w = wM r.2.1 r.2.2)) : ∀ (f : Nat), ∀ (s : jS) (a : jB) (x3 : Int32), L_M_fuel_20 k59 f s a x3 = some r → K_M_fuel l 20 [some (.ref 0), some (.int c1), some (.int c2), some (.int x3)] [] (wM s a) (fun v w => v = some (.int r.1) ∧ w = wM r.2.1 r.2.2) := by
  intro f
  induction f with
  | zero =>
    intro s a x3 h
    cases h
  | succ f ih =>
    intro s a x3 h
    rw [L_M_fuel_20] at h
    refine J_iload_n d_M_fuel_20 rfl ?_
    refine J_sipush (v := (420 : Int32)) d_M_fuel_21 (by decide) ?_
    refine J_icmp_ge (tgt := 59) d_M_fuel_24 (by decide) (fun c => ?_) (fun c => ?_)
    · have h := j_ifp c h
      exact hk59 _ _ _ h
    · have h := j_ifn c h
      refine J_aload_n d_M_fuel_27 rfl ?_
      refine J_get (j := 12) (v := .ref 6) d_M_fuel_28 (wM_at0 _ _) rfl in_5 (by decide) ts_282 rfl ?_
      refine J_iload_n d_M_fuel_31 rfl ?_
      refine J_aload_n d_M_fuel_32 rfl ?_
      refine J_get (j := 12) (v := .ref 6) d_M_fuel_33 (wM_at0 _ _) rfl in_5 (by decide) ts_282 rfl ?_
      refine J_iload_n d_M_fuel_36 rfl ?_
      obtain ⟨g, h⟩ := jg_some h
      refine J_iald (f := (a 6)) d_M_fuel_37 (wM_at6 _ _) (jin_in g) ?_
      refine J_iconst (v := (2 : Int32)) d_M_fuel_38 (by decide) ?_
      obtain ⟨b3, hb3, h⟩ := jb_some h
      have kb3 : K_M_fuel l 52 [some (.ref 0), some (.int c1), some (.int c2), some (.int x3)] [.int b3, .int x3, .ref 6] (wM s a) (fun v w => v = some (.int r.1) ∧ w = wM r.2.1 r.2.2) := by
        obtain ⟨g, h⟩ := jg_some h
        refine J_iast (f := (a 6)) d_M_fuel_52 (wM_at6 _ _) (jin_in g) ?_
        refine J_eq (ws' := wM s (va_up a 6 (upd (a 6) (x3).toNatClampNeg b3))) rfl rfl rfl (wM_ast6 _ _ _) ?_
        refine J_iinc (v := (x3 + (1 : Int32))) d_M_fuel_53 rfl (by first | rfl | decide) (by decide) ?_
        refine J_goto (tgt := 20) d_M_fuel_56 (by decide) ?_
        exact ih _ _ _ h
      clear h
      have h := hb3
      refine J_icmp_ne (tgt := 46) d_M_fuel_39 (by decide) (fun c => ?_) (fun c => ?_)
      · have h := j_ifn c h
        refine J_aload_n d_M_fuel_46 rfl ?_
        refine J_get (j := 12) (v := .ref 6) d_M_fuel_47 (wM_at0 _ _) rfl in_5 (by decide) ts_282 rfl ?_
        refine J_iload_n d_M_fuel_50 rfl ?_
        obtain ⟨g, h⟩ := jg_some h
        refine J_iald (f := (a 6)) d_M_fuel_51 (wM_at6 _ _) (jin_in g) ?_
        cases h
        exact kb3
      · have h := j_ifp c h
        refine J_iconst (v := (3 : Int32)) d_M_fuel_42 (by decide) ?_
        refine J_goto (tgt := 52) d_M_fuel_43 (by decide) ?_
        cases h
        exact kb3
def m_M_fuel (s : jS) (a : jB) (p0 : Int32) : Option (Int32 × jS × jB) := (if p0 < (0 : Int32) then some ((-2 : Int32), s, a) else (if p0 ≤ (20 : Int32) then jb (m_M_openPairs s a) (fun v2 => L_M_fuel_20 (fun s4 a5 => some (v2, (upd (upd s4 4 p0) 6 (0 : Int32)), a5)) jF (s) (a) ((0 : Int32))) else some ((-2 : Int32), s, a)))
set_option maxRecDepth 100000 in
set_option maxHeartbeats 4000000 in
theorem c_M_fuel (l : Launch) (s : jS) (a : jB) (p0 : Int32) (r : Int32 × jS × jB) (h : m_M_fuel s a p0 = some r) : JMet l vwCl NsG (.code y_M_fuel prog_7_method_22_code 4 (some .int) :: TsG) y_M_fuel rm_M_fuel [.ref 0, .int p0] (wM s a) (fun v w => v = some (.int r.1) ∧ w = wM r.2.1 r.2.2) := by
  refine J_enter (by decide +kernel) rfl (Nat.le_of_ble_eq_true rfl) ?_
  unfold m_M_fuel at h
  refine J_eq (ls' := [some (.ref 0), some (.int p0), none, none]) rfl rfl rfl rfl ?_
  refine J_iload_n d_M_fuel_0 rfl ?_
  refine J_if_lt (tgt := 10) d_M_fuel_1 (by decide) (fun c => ?_) (fun c => ?_)
  · have h := j_ifp c h
    refine J_bipush (v := (-2 : Int32)) d_M_fuel_10 (by decide) ?_
    exact J_iret d_M_fuel_12 rfl rfl (by cases h; exact ⟨rfl, rfl⟩)
  · have h := j_ifn c h
    refine J_iload_n d_M_fuel_4 rfl ?_
    refine J_bipush (v := (20 : Int32)) d_M_fuel_5 (by decide) ?_
    refine J_icmp_le (tgt := 13) d_M_fuel_7 (by decide) (fun c => ?_) (fun c => ?_)
    · have h := j_ifp c h
      refine J_aload_n d_M_fuel_13 rfl ?_
      obtain ⟨v2, e1, h⟩ := jb_some h
      refine J_cVi0 d_M_fuel_14 (c_M_openPairs l _ _ _ e1) (wM_at0 _ _) rfl ts_322 ts_good rfl rfl ts_278 ts_323 dy_M_openPairs (by decide) (Nat.le_of_ble_eq_true rfl) ts_324 ts_325 ?_
      refine J_istore_n d_M_fuel_17 (by decide) ?_
      refine J_iconst (v := (0 : Int32)) d_M_fuel_18 (by decide) ?_
      refine J_istore_n d_M_fuel_19 (by decide) ?_
      refine JL_M_fuel_20 l _ _ _ r (fun s4 a5 o6 h => ?_) jF _ _ _ h
      refine J_aload_n d_M_fuel_59 rfl ?_
      refine J_iload_n d_M_fuel_60 rfl ?_
      refine J_put (j := 4) d_M_fuel_61 (wM_at0 _ _) rfl in_5 ty_M tyok_M nok_M (by decide) ts_326 rfl (tyok_M 4 (by decide)) rfl rfl (Nat.le_of_ble_eq_true rfl) ?_
      refine J_eq rfl rfl rfl (wM_put4 _ _ _) ?_
      refine J_aload_n d_M_fuel_64 rfl ?_
      refine J_iconst (v := (0 : Int32)) d_M_fuel_65 (by decide) ?_
      refine J_put (j := 6) d_M_fuel_66 (wM_at0 _ _) rfl in_5 ty_M tyok_M nok_M (by decide) ts_271 rfl (tyok_M 6 (by decide)) (by decide) (by decide) (Nat.le_of_ble_eq_true rfl) ?_
      refine J_eq rfl rfl rfl (wM_put6 _ _ _) ?_
      refine J_iload_n d_M_fuel_69 rfl ?_
      exact J_iret d_M_fuel_70 rfl rfl (by cases h; exact ⟨rfl, rfl⟩)
    · have h := j_ifn c h
      refine J_bipush (v := (-2 : Int32)) d_M_fuel_10 (by decide) ?_
      exact J_iret d_M_fuel_12 rfl rfl (by cases h; exact ⟨rfl, rfl⟩)
abbrev rm_M_goalOf : Room := { frames := 1, cells := 0, slots := 0, locals := 21 }
abbrev K_M_goalOf (l : Launch) := JW l vwCl NsG TsG "ClassifySortModel" prog_7_method_4_code 2 (some .int) rm_M_goalOf
def m_M_goalOf (s : jS) (a : jB) (p0 : Int32) : Option (Int32) := jb (if p0 = (-1 : Int32) then some (20 : Int32) else jb (m_M_isClass s a p0) (fun v3 => (if v3 = (0 : Int32) then some (-1 : Int32) else some p0))) (fun b1 => some (b1))
set_option maxRecDepth 100000 in
set_option maxHeartbeats 4000000 in
theorem c_M_goalOf (l : Launch) (s : jS) (a : jB) (p0 : Int32) (r : Int32) (h : m_M_goalOf s a p0 = some r) : JMet l vwCl NsG (.code y_M_goalOf prog_7_method_4_code 2 (some .int) :: TsG) y_M_goalOf rm_M_goalOf [.ref 0, .int p0] (wM s a) (fun v w => v = some (.int r) ∧ w = wM s a) := by
  refine J_enter (by decide +kernel) rfl (Nat.le_of_ble_eq_true rfl) ?_
  unfold m_M_goalOf at h
  refine J_eq (ls' := [some (.ref 0), some (.int p0)]) rfl rfl rfl rfl ?_
  refine J_iload_n d_M_goalOf_0 rfl ?_
  refine J_iconst (v := (-1 : Int32)) d_M_goalOf_1 (by decide) ?_
  obtain ⟨b1, hb1, h⟩ := jb_some h
  have kb1 : K_M_goalOf l 23 [some (.ref 0), some (.int p0)] [.int b1] (wM s a) (fun v w => v = some (.int r) ∧ w = wM s a) := by
    exact J_iret d_M_goalOf_23 rfl rfl (by cases h; exact ⟨rfl, rfl⟩)
  clear h
  have h := hb1
  refine J_icmp_ne (tgt := 10) d_M_goalOf_2 (by decide) (fun c => ?_) (fun c => ?_)
  · have h := j_ifn c h
    refine J_aload_n d_M_goalOf_10 rfl ?_
    refine J_iload_n d_M_goalOf_11 rfl ?_
    obtain ⟨v3, e2, h⟩ := jb_some h
    refine J_cVi1 d_M_goalOf_12 (c_M_isClass l _ _ _ _ e2) (wM_at0 _ _) rfl ts_308 ts_good rfl rfl ts_278 ts_309 dy_M_isClass (by decide) (Nat.le_of_ble_eq_true rfl) ts_310 ts_311 ?_
    refine J_if_eq (tgt := 22) d_M_goalOf_15 (by decide) (fun c => ?_) (fun c => ?_)
    · have h := j_ifp c h
      refine J_iconst (v := (-1 : Int32)) d_M_goalOf_22 (by decide) ?_
      cases h
      exact kb1
    · have h := j_ifn c h
      refine J_iload_n d_M_goalOf_18 rfl ?_
      refine J_goto (tgt := 23) d_M_goalOf_19 (by decide) ?_
      cases h
      exact kb1
  · have h := j_ifp c h
    refine J_bipush (v := (20 : Int32)) d_M_goalOf_5 (by decide) ?_
    refine J_goto (tgt := 23) d_M_goalOf_7 (by decide) ?_
    cases h
    exact kb1
abbrev rm_M_known : Room := { frames := 2, cells := 0, slots := 0, locals := 42 }
abbrev K_M_known (l : Launch) := JW l vwCl NsG TsG "ClassifySortModel" prog_7_method_23_code 4 (some .int) rm_M_known
def m_M_known (s : jS) (a : jB) (p0 : Int32) (p1 : Int32) : Option (Int32) := jb (m_M_goalOf s a p1) (fun v2 => jb (m_M_isClass s a p0) (fun v4 => jb (if v4 = (0 : Int32) then some (-1 : Int32) else (if (0 : Int32) ≤ v2 then jg (jin (((21 : Int32) * p0) + v2) 420) (some ((a 6) ((((21 : Int32) * p0) + v2)).toNatClampNeg)) else some (-1 : Int32))) (fun b5 => some (b5))))
set_option maxRecDepth 100000 in
set_option maxHeartbeats 4000000 in
theorem c_M_known (l : Launch) (s : jS) (a : jB) (p0 : Int32) (p1 : Int32) (r : Int32) (h : m_M_known s a p0 p1 = some r) : JMet l vwCl NsG (.code y_M_known prog_7_method_23_code 4 (some .int) :: TsG) y_M_known rm_M_known [.ref 0, .int p0, .int p1] (wM s a) (fun v w => v = some (.int r) ∧ w = wM s a) := by
  refine J_enter (by decide +kernel) rfl (Nat.le_of_ble_eq_true rfl) ?_
  unfold m_M_known at h
  refine J_eq (ls' := [some (.ref 0), some (.int p0), some (.int p1), none]) rfl rfl rfl rfl ?_
  refine J_aload_n d_M_known_0 rfl ?_
  refine J_iload_n d_M_known_1 rfl ?_
  obtain ⟨v2, e1, h⟩ := jb_some h
  refine J_cVi1 d_M_known_2 (c_M_goalOf l _ _ _ _ e1) (wM_at0 _ _) rfl ts_327 ts_good rfl rfl ts_278 ts_328 dy_M_goalOf (by decide) (Nat.le_of_ble_eq_true rfl) ts_329 ts_330 ?_
  refine J_istore_n d_M_known_5 (by decide) ?_
  refine J_aload_n d_M_known_6 rfl ?_
  refine J_iload_n d_M_known_7 rfl ?_
  obtain ⟨v4, e3, h⟩ := jb_some h
  refine J_cVi1 d_M_known_8 (c_M_isClass l _ _ _ _ e3) (wM_at0 _ _) rfl ts_308 ts_good rfl rfl ts_278 ts_309 dy_M_isClass (by decide) (Nat.le_of_ble_eq_true rfl) ts_310 ts_311 ?_
  obtain ⟨b5, hb5, h⟩ := jb_some h
  have kb5 : K_M_known l 33 [some (.ref 0), some (.int p0), some (.int p1), some (.int v2)] [.int b5] (wM s a) (fun v w => v = some (.int r) ∧ w = wM s a) := by
    exact J_iret d_M_known_33 rfl rfl (by cases h; exact ⟨rfl, rfl⟩)
  clear h
  have h := hb5
  refine J_if_eq (tgt := 18) d_M_known_11 (by decide) (fun c => ?_) (fun c => ?_)
  · have h := j_ifp c h
    refine J_iconst (v := (-1 : Int32)) d_M_known_18 (by decide) ?_
    refine J_goto (tgt := 33) d_M_known_19 (by decide) ?_
    cases h
    exact kb5
  · have h := j_ifn c h
    refine J_iload_n d_M_known_14 rfl ?_
    refine J_if_ge (tgt := 22) d_M_known_15 (by decide) (fun c => ?_) (fun c => ?_)
    · have h := j_ifp c h
      refine J_aload_n d_M_known_22 rfl ?_
      refine J_get (j := 12) (v := .ref 6) d_M_known_23 (wM_at0 _ _) rfl in_5 (by decide) ts_282 rfl ?_
      refine J_bipush (v := (21 : Int32)) d_M_known_26 (by decide) ?_
      refine J_iload_n d_M_known_28 rfl ?_
      refine J_imul d_M_known_29 ?_
      refine J_iload_n d_M_known_30 rfl ?_
      refine J_iadd d_M_known_31 ?_
      obtain ⟨g, h⟩ := jg_some h
      refine J_iald (f := (a 6)) d_M_known_32 (wM_at6 _ _) (jin_in g) ?_
      cases h
      exact kb5
    · have h := j_ifn c h
      refine J_iconst (v := (-1 : Int32)) d_M_known_18 (by decide) ?_
      refine J_goto (tgt := 33) d_M_known_19 (by decide) ?_
      cases h
      exact kb5
abbrev rm_M_reason : Room := { frames := 0, cells := 0, slots := 0, locals := 0 }
abbrev K_M_reason (l : Launch) := JW l vwCl NsG TsG "ClassifySortModel" prog_7_method_12_code 5 (some .int) rm_M_reason
def L_M_reason_7 (k26 : jS → jB → Option (Int32 × jS × jB)) : Nat → jS → jB → Int32 → Option (Int32 × jS × jB)
  | 0, _, _, _ => none
  | f + 1, s, a, x2 => (if (20 : Int32) < x2 then k26 (s) (a) else jg (jin x2 21) (L_M_reason_7 k26 f (s) ((va_up a 11 (upd (a 11) (x2).toNatClampNeg (-1 : Int32)))) ((x2 + (1 : Int32)))))
set_option maxRecDepth 100000 in
set_option maxHeartbeats 4000000 in
theorem JL_M_reason_7 (l : Launch) (c1 : Int32) (k26 : jS → jB → Option (Int32 × jS × jB)) (r : Int32 × jS × jB) (hk26 : ∀ (s : jS) (a : jB) (o2 : Option Value) (o3 : Option Value) (o4 : Option Value), k26 s a = some r → K_M_reason l 26 [some (.ref 0), some (.int c1), o2, o3, o4] [] (wM s a) (fun v w => v = some (.int r.1) ∧ w = wM r.2.1 r.2.2)) : ∀ (f : Nat), ∀ (s : jS) (a : jB) (x2 : Int32) (o3 : Option Value) (o4 : Option Value), L_M_reason_7 k26 f s a x2 = some r → K_M_reason l 7 [some (.ref 0), some (.int c1), some (.int x2), o3, o4] [] (wM s a) (fun v w => v = some (.int r.1) ∧ w = wM r.2.1 r.2.2) := by
  intro f
  induction f with
  | zero =>
    intro s a x2 o3 o4 h
    cases h
  | succ f ih =>
    intro s a x2 o3 o4 h
    rw [L_M_reason_7] at h
    refine J_iload_n d_M_reason_7 rfl ?_
    refine J_bipush (v := (20 : Int32)) d_M_reason_8 (by decide) ?_
    refine J_icmp_gt (tgt := 26) d_M_reason_10 (by decide) (fun c => ?_) (fun c => ?_)
    · have h := j_ifp c h
      exact hk26 _ _ _ _ _ h
    · have h := j_ifn c h
      refine J_aload_n d_M_reason_13 rfl ?_
      refine J_get (j := 17) (v := .ref 11) d_M_reason_14 (wM_at0 _ _) rfl in_5 (by decide) ts_333 rfl ?_
      refine J_iload_n d_M_reason_17 rfl ?_
      refine J_iconst (v := (-1 : Int32)) d_M_reason_18 (by decide) ?_
      obtain ⟨g, h⟩ := jg_some h
      refine J_iast (f := (a 11)) d_M_reason_19 (wM_at11 _ _) (jin_in g) ?_
      refine J_eq (ws' := wM s (va_up a 11 (upd (a 11) (x2).toNatClampNeg (-1 : Int32)))) rfl rfl rfl (wM_ast11 _ _ _) ?_
      refine J_iinc (v := (x2 + (1 : Int32))) d_M_reason_20 rfl (by first | rfl | decide) (by decide) ?_
      refine J_goto (tgt := 7) d_M_reason_23 (by decide) ?_
      exact ih _ _ _ _ _ h
def L_M_reason_54 (s : jS) (a : jB) (k142 : Int32 → Option (Int32 × jS × jB)) : Nat → Int32 → Int32 → Option (Int32 × jS × jB)
  | 0, _, _ => none
  | f + 1, x2, x3 => (if x3 < (0 : Int32) then k142 (x2) else jg (jin x3 40) (jb (if ((a 4) (x3).toNatClampNeg) = (0 : Int32) then some (0 : Int32) else jg (jin x3 40) (jg (jin ((a 1) (x3).toNatClampNeg) 21) ((if ((a 10) (((a 1) (x3).toNatClampNeg)).toNatClampNeg) = (0 : Int32) then some (0 : Int32) else jg (jin x3 40) ((if ((a 2) (x3).toNatClampNeg) < (0 : Int32) then jg (jin x3 40) (jg (jin ((a 3) (x3).toNatClampNeg) 21) ((if ((a 10) (((a 3) (x3).toNatClampNeg)).toNatClampNeg) = (0 : Int32) then some (1 : Int32) else some (0 : Int32)))) else jg (jin x3 40) (jg (jin ((a 2) (x3).toNatClampNeg) 21) ((if ((a 10) (((a 2) (x3).toNatClampNeg)).toNatClampNeg) = (0 : Int32) then some (0 : Int32) else jg (jin x3 40) (jg (jin ((a 3) (x3).toNatClampNeg) 21) ((if ((a 10) (((a 3) (x3).toNatClampNeg)).toNatClampNeg) = (0 : Int32) then some (1 : Int32) else some (0 : Int32))))))))))))) (fun b6 => jb (if b6 = (0 : Int32) then some x2 else some x3) (fun b7 => L_M_reason_54 s a k142 f (b7) ((x3 + (-1 : Int32)))))))
set_option maxRecDepth 100000 in
set_option maxHeartbeats 4000000 in
theorem JL_M_reason_54 (l : Launch) (s : jS) (a : jB) (c1 : Int32) (k142 : Int32 → Option (Int32 × jS × jB)) (r : Int32 × jS × jB) (hk142 : ∀ (x2 : Int32) (o3 : Option Value) (o4 : Option Value), k142 x2 = some r → K_M_reason l 142 [some (.ref 0), some (.int c1), some (.int x2), o3, o4] [] (wM s a) (fun v w => v = some (.int r.1) ∧ w = wM r.2.1 r.2.2)) : ∀ (f : Nat), ∀ (x2 : Int32) (x3 : Int32) (o4 : Option Value), L_M_reason_54 s a k142 f x2 x3 = some r → K_M_reason l 54 [some (.ref 0), some (.int c1), some (.int x2), some (.int x3), o4] [] (wM s a) (fun v w => v = some (.int r.1) ∧ w = wM r.2.1 r.2.2) := by
  intro f
  induction f with
  | zero =>
    intro x2 x3 o4 h
    cases h
  | succ f ih =>
    intro x2 x3 o4 h
    rw [L_M_reason_54] at h
    refine J_iload_n d_M_reason_54 rfl ?_
    refine J_if_lt (tgt := 142) d_M_reason_55 (by decide) (fun c => ?_) (fun c => ?_)
    · have h := j_ifp c h
      exact hk142 _ _ _ h
    · have h := j_ifn c h
      refine J_aload_n d_M_reason_58 rfl ?_
      refine J_get (j := 10) (v := .ref 4) d_M_reason_59 (wM_at0 _ _) rfl in_5 (by decide) ts_273 rfl ?_
      refine J_iload_n d_M_reason_62 rfl ?_
      obtain ⟨g, h⟩ := jg_some h
      refine J_zald (f := (a 4)) d_M_reason_63 (wM_at4 _ _) (jin_in g) ?_
      obtain ⟨b6, hb6, h⟩ := jb_some h
      have kb6 : K_M_reason l 123 [some (.ref 0), some (.int c1), some (.int x2), some (.int x3), o4] [.int b6] (wM s a) (fun v w => v = some (.int r.1) ∧ w = wM r.2.1 r.2.2) := by
        refine J_istore d_M_reason_123 (by decide) ?_
        refine J_iload d_M_reason_125 rfl ?_
        obtain ⟨b7, hb7, h⟩ := jb_some h
        have kb7 : K_M_reason l 135 [some (.ref 0), some (.int c1), some (.int x2), some (.int x3), some (.int b6)] [.int b7] (wM s a) (fun v w => v = some (.int r.1) ∧ w = wM r.2.1 r.2.2) := by
          refine J_istore_n d_M_reason_135 (by decide) ?_
          refine J_iinc (v := (x3 + (-1 : Int32))) d_M_reason_136 rfl (by first | rfl | decide) (by decide) ?_
          refine J_goto (tgt := 54) d_M_reason_139 (by decide) ?_
          exact ih _ _ _ h
        clear h
        have h := hb7
        refine J_if_eq (tgt := 134) d_M_reason_127 (by decide) (fun c => ?_) (fun c => ?_)
        · have h := j_ifp c h
          refine J_iload_n d_M_reason_134 rfl ?_
          cases h
          exact kb7
        · have h := j_ifn c h
          refine J_iload_n d_M_reason_130 rfl ?_
          refine J_goto (tgt := 135) d_M_reason_131 (by decide) ?_
          cases h
          exact kb7
      clear h
      have h := hb6
      refine J_if_eq (tgt := 122) d_M_reason_64 (by decide) (fun c => ?_) (fun c => ?_)
      · have h := j_ifp c h
        refine J_iconst (v := (0 : Int32)) d_M_reason_122 (by decide) ?_
        cases h
        exact kb6
      · have h := j_ifn c h
        refine J_aload_n d_M_reason_67 rfl ?_
        refine J_get (j := 16) (v := .ref 10) d_M_reason_68 (wM_at0 _ _) rfl in_5 (by decide) ts_331 rfl ?_
        refine J_aload_n d_M_reason_71 rfl ?_
        refine J_get (j := 7) (v := .ref 1) d_M_reason_72 (wM_at0 _ _) rfl in_5 (by decide) ts_274 rfl ?_
        refine J_iload_n d_M_reason_75 rfl ?_
        obtain ⟨g, h⟩ := jg_some h
        refine J_iald (f := (a 1)) d_M_reason_76 (wM_at1 _ _) (jin_in g) ?_
        obtain ⟨g, h⟩ := jg_some h
        refine J_zald (f := (a 10)) d_M_reason_77 (wM_at10 _ _) (jin_in g) ?_
        refine J_if_eq (tgt := 122) d_M_reason_78 (by decide) (fun c => ?_) (fun c => ?_)
        · have h := j_ifp c h
          refine J_iconst (v := (0 : Int32)) d_M_reason_122 (by decide) ?_
          cases h
          exact kb6
        · have h := j_ifn c h
          refine J_aload_n d_M_reason_81 rfl ?_
          refine J_get (j := 8) (v := .ref 2) d_M_reason_82 (wM_at0 _ _) rfl in_5 (by decide) ts_275 rfl ?_
          refine J_iload_n d_M_reason_85 rfl ?_
          obtain ⟨g, h⟩ := jg_some h
          refine J_iald (f := (a 2)) d_M_reason_86 (wM_at2 _ _) (jin_in g) ?_
          refine J_if_lt (tgt := 104) d_M_reason_87 (by decide) (fun c => ?_) (fun c => ?_)
          · have h := j_ifp c h
            refine J_aload_n d_M_reason_104 rfl ?_
            refine J_get (j := 16) (v := .ref 10) d_M_reason_105 (wM_at0 _ _) rfl in_5 (by decide) ts_331 rfl ?_
            refine J_aload_n d_M_reason_108 rfl ?_
            refine J_get (j := 9) (v := .ref 3) d_M_reason_109 (wM_at0 _ _) rfl in_5 (by decide) ts_276 rfl ?_
            refine J_iload_n d_M_reason_112 rfl ?_
            obtain ⟨g, h⟩ := jg_some h
            refine J_iald (f := (a 3)) d_M_reason_113 (wM_at3 _ _) (jin_in g) ?_
            obtain ⟨g, h⟩ := jg_some h
            refine J_zald (f := (a 10)) d_M_reason_114 (wM_at10 _ _) (jin_in g) ?_
            refine J_if_ne (tgt := 122) d_M_reason_115 (by decide) (fun c => ?_) (fun c => ?_)
            · have h := j_ifn c h
              refine J_iconst (v := (0 : Int32)) d_M_reason_122 (by decide) ?_
              cases h
              exact kb6
            · have h := j_ifp c h
              refine J_iconst (v := (1 : Int32)) d_M_reason_118 (by decide) ?_
              refine J_goto (tgt := 123) d_M_reason_119 (by decide) ?_
              cases h
              exact kb6
          · have h := j_ifn c h
            refine J_aload_n d_M_reason_90 rfl ?_
            refine J_get (j := 16) (v := .ref 10) d_M_reason_91 (wM_at0 _ _) rfl in_5 (by decide) ts_331 rfl ?_
            refine J_aload_n d_M_reason_94 rfl ?_
            refine J_get (j := 8) (v := .ref 2) d_M_reason_95 (wM_at0 _ _) rfl in_5 (by decide) ts_275 rfl ?_
            refine J_iload_n d_M_reason_98 rfl ?_
            obtain ⟨g, h⟩ := jg_some h
            refine J_iald (f := (a 2)) d_M_reason_99 (wM_at2 _ _) (jin_in g) ?_
            obtain ⟨g, h⟩ := jg_some h
            refine J_zald (f := (a 10)) d_M_reason_100 (wM_at10 _ _) (jin_in g) ?_
            refine J_if_eq (tgt := 122) d_M_reason_101 (by decide) (fun c => ?_) (fun c => ?_)
            · have h := j_ifp c h
              refine J_iconst (v := (0 : Int32)) d_M_reason_122 (by decide) ?_
              cases h
              exact kb6
            · have h := j_ifn c h
              refine J_aload_n d_M_reason_104 rfl ?_
              refine J_get (j := 16) (v := .ref 10) d_M_reason_105 (wM_at0 _ _) rfl in_5 (by decide) ts_331 rfl ?_
              refine J_aload_n d_M_reason_108 rfl ?_
              refine J_get (j := 9) (v := .ref 3) d_M_reason_109 (wM_at0 _ _) rfl in_5 (by decide) ts_276 rfl ?_
              refine J_iload_n d_M_reason_112 rfl ?_
              obtain ⟨g, h⟩ := jg_some h
              refine J_iald (f := (a 3)) d_M_reason_113 (wM_at3 _ _) (jin_in g) ?_
              obtain ⟨g, h⟩ := jg_some h
              refine J_zald (f := (a 10)) d_M_reason_114 (wM_at10 _ _) (jin_in g) ?_
              refine J_if_ne (tgt := 122) d_M_reason_115 (by decide) (fun c => ?_) (fun c => ?_)
              · have h := j_ifn c h
                refine J_iconst (v := (0 : Int32)) d_M_reason_122 (by decide) ?_
                cases h
                exact kb6
              · have h := j_ifp c h
                refine J_iconst (v := (1 : Int32)) d_M_reason_118 (by decide) ?_
                refine J_goto (tgt := 123) d_M_reason_119 (by decide) ?_
                cases h
                exact kb6
def L_M_reason_26 (c1 : Int32) (k208 : jS → jB → Option (Int32 × jS × jB)) : Nat → jS → jB → Option (Int32 × jS × jB)
  | 0, _, _ => none
  | f + 1, s, a => jg (jin c1 21) ((if ((a 10) (c1).toNatClampNeg) = (0 : Int32) then jg (jin (20 : Int32) 21) ((if ((a 10) ((20 : Int32)).toNatClampNeg) = (0 : Int32) then L_M_reason_54 (s) (a) (fun x8 => (if (0 : Int32) ≤ x8 then (if (s 7) = (s 4) then some ((2 : Int32), s, a) else jg (jin (s 7) 40) (jg (jin x8 40) (jg (jin (((va_up a 12 (upd (a 12) ((s 7)).toNatClampNeg x8)) 3) (x8).toNatClampNeg) 21) (jg (jin x8 40) (jg (jin (((va_up (va_up a 12 (upd (a 12) ((s 7)).toNatClampNeg x8)) 10 (upd ((va_up a 12 (upd (a 12) ((s 7)).toNatClampNeg x8)) 10) ((((va_up a 12 (upd (a 12) ((s 7)).toNatClampNeg x8)) 3) (x8).toNatClampNeg)).toNatClampNeg (1 : Int32))) 3) (x8).toNatClampNeg) 21) (L_M_reason_26 c1 k208 f ((upd s 7 ((s 7) + (1 : Int32)))) ((va_up (va_up (va_up a 12 (upd (a 12) ((s 7)).toNatClampNeg x8)) 10 (upd ((va_up a 12 (upd (a 12) ((s 7)).toNatClampNeg x8)) 10) ((((va_up a 12 (upd (a 12) ((s 7)).toNatClampNeg x8)) 3) (x8).toNatClampNeg)).toNatClampNeg (1 : Int32))) 11 (upd ((va_up (va_up a 12 (upd (a 12) ((s 7)).toNatClampNeg x8)) 10 (upd ((va_up a 12 (upd (a 12) ((s 7)).toNatClampNeg x8)) 10) ((((va_up a 12 (upd (a 12) ((s 7)).toNatClampNeg x8)) 3) (x8).toNatClampNeg)).toNatClampNeg (1 : Int32))) 11) ((((va_up (va_up a 12 (upd (a 12) ((s 7)).toNatClampNeg x8)) 10 (upd ((va_up a 12 (upd (a 12) ((s 7)).toNatClampNeg x8)) 10) ((((va_up a 12 (upd (a 12) ((s 7)).toNatClampNeg x8)) 3) (x8).toNatClampNeg)).toNatClampNeg (1 : Int32))) 3) (x8).toNatClampNeg)).toNatClampNeg x8))))))))) else some ((0 : Int32), s, a))) jF ((-1 : Int32)) (((s 3) - (1 : Int32))) else k208 (s) (a))) else k208 (s) (a)))
set_option maxRecDepth 100000 in
set_option maxHeartbeats 4000000 in
theorem JL_M_reason_26 (l : Launch) (c1 : Int32) (k208 : jS → jB → Option (Int32 × jS × jB)) (r : Int32 × jS × jB) (hk208 : ∀ (s : jS) (a : jB) (o2 : Option Value) (o3 : Option Value) (o4 : Option Value), k208 s a = some r → K_M_reason l 208 [some (.ref 0), some (.int c1), o2, o3, o4] [] (wM s a) (fun v w => v = some (.int r.1) ∧ w = wM r.2.1 r.2.2)) : ∀ (f : Nat), ∀ (s : jS) (a : jB) (o2 : Option Value) (o3 : Option Value) (o4 : Option Value), L_M_reason_26 c1 k208 f s a = some r → K_M_reason l 26 [some (.ref 0), some (.int c1), o2, o3, o4] [] (wM s a) (fun v w => v = some (.int r.1) ∧ w = wM r.2.1 r.2.2) := by
  intro f
  induction f with
  | zero =>
    intro s a o2 o3 o4 h
    cases h
  | succ f ih =>
    intro s a o2 o3 o4 h
    rw [L_M_reason_26] at h
    refine J_aload_n d_M_reason_26 rfl ?_
    refine J_get (j := 16) (v := .ref 10) d_M_reason_27 (wM_at0 _ _) rfl in_5 (by decide) ts_331 rfl ?_
    refine J_iload_n d_M_reason_30 rfl ?_
    obtain ⟨g, h⟩ := jg_some h
    refine J_zald (f := (a 10)) d_M_reason_31 (wM_at10 _ _) (jin_in g) ?_
    refine J_if_ne (tgt := 208) d_M_reason_32 (by decide) (fun c => ?_) (fun c => ?_)
    · have h := j_ifn c h
      exact hk208 _ _ _ _ _ h
    · have h := j_ifp c h
      refine J_aload_n d_M_reason_35 rfl ?_
      refine J_get (j := 16) (v := .ref 10) d_M_reason_36 (wM_at0 _ _) rfl in_5 (by decide) ts_331 rfl ?_
      refine J_bipush (v := (20 : Int32)) d_M_reason_39 (by decide) ?_
      obtain ⟨g, h⟩ := jg_some h
      refine J_zald (f := (a 10)) d_M_reason_41 (wM_at10 _ _) (jin_in g) ?_
      refine J_if_ne (tgt := 208) d_M_reason_42 (by decide) (fun c => ?_) (fun c => ?_)
      · have h := j_ifn c h
        exact hk208 _ _ _ _ _ h
      · have h := j_ifp c h
        refine J_iconst (v := (-1 : Int32)) d_M_reason_45 (by decide) ?_
        refine J_istore_n d_M_reason_46 (by decide) ?_
        refine J_aload_n d_M_reason_47 rfl ?_
        refine J_get (j := 3) (v := .int (s 3)) d_M_reason_48 (wM_at0 _ _) rfl in_5 (by decide) ts_272 rfl ?_
        refine J_iconst (v := (1 : Int32)) d_M_reason_51 (by decide) ?_
        refine J_isub d_M_reason_52 ?_
        refine J_istore_n d_M_reason_53 (by decide) ?_
        refine JL_M_reason_54 l _ _ _ _ r (fun x8 o9 o10 h => ?_) jF _ _ _ h
        refine J_iload_n d_M_reason_142 rfl ?_
        refine J_if_ge (tgt := 148) d_M_reason_143 (by decide) (fun c => ?_) (fun c => ?_)
        · have h := j_ifp c h
          refine J_aload_n d_M_reason_148 rfl ?_
          refine J_get (j := 19) (v := .int (s 7)) d_M_reason_149 (wM_at0 _ _) rfl in_5 (by decide) ts_332 rfl ?_
          refine J_aload_n d_M_reason_152 rfl ?_
          refine J_get (j := 4) (v := .int (s 4)) d_M_reason_153 (wM_at0 _ _) rfl in_5 (by decide) ts_326 rfl ?_
          refine J_icmp_ne (tgt := 161) d_M_reason_156 (by decide) (fun c => ?_) (fun c => ?_)
          · have h := j_ifn c h
            refine J_aload_n d_M_reason_161 rfl ?_
            refine J_get (j := 18) (v := .ref 12) d_M_reason_162 (wM_at0 _ _) rfl in_5 (by decide) ts_334 rfl ?_
            refine J_aload_n d_M_reason_165 rfl ?_
            refine J_get (j := 19) (v := .int (s 7)) d_M_reason_166 (wM_at0 _ _) rfl in_5 (by decide) ts_332 rfl ?_
            refine J_iload_n d_M_reason_169 rfl ?_
            obtain ⟨g, h⟩ := jg_some h
            refine J_iast (f := (a 12)) d_M_reason_170 (wM_at12 _ _) (jin_in g) ?_
            refine J_eq (ws' := wM s (va_up a 12 (upd (a 12) ((s 7)).toNatClampNeg x8))) rfl rfl rfl (wM_ast12 _ _ _) ?_
            refine J_aload_n d_M_reason_171 rfl ?_
            refine J_dup d_M_reason_172 rfl ?_
            refine J_get (j := 19) (v := .int (s 7)) d_M_reason_173 (wM_at0 _ _) rfl in_5 (by decide) ts_332 rfl ?_
            refine J_iconst (v := (1 : Int32)) d_M_reason_176 (by decide) ?_
            refine J_iadd d_M_reason_177 ?_
            refine J_put (j := 19) d_M_reason_178 (wM_at0 _ _) rfl in_5 ty_M tyok_M nok_M (by decide) ts_332 rfl (tyok_M 19 (by decide)) rfl rfl (Nat.le_of_ble_eq_true rfl) ?_
            refine J_eq rfl rfl rfl (wM_put7 _ _ _) ?_
            refine J_aload_n d_M_reason_181 rfl ?_
            refine J_get (j := 16) (v := .ref 10) d_M_reason_182 (wM_at0 _ _) rfl in_5 (by decide) ts_331 rfl ?_
            refine J_aload_n d_M_reason_185 rfl ?_
            refine J_get (j := 9) (v := .ref 3) d_M_reason_186 (wM_at0 _ _) rfl in_5 (by decide) ts_276 rfl ?_
            refine J_iload_n d_M_reason_189 rfl ?_
            obtain ⟨g, h⟩ := jg_some h
            refine J_iald (f := ((va_up a 12 (upd (a 12) ((s 7)).toNatClampNeg x8)) 3)) d_M_reason_190 (wM_at3 _ _) (jin_in g) ?_
            refine J_iconst (v := (1 : Int32)) d_M_reason_191 (by decide) ?_
            obtain ⟨g, h⟩ := jg_some h
            refine J_zast (f := ((va_up a 12 (upd (a 12) ((s 7)).toNatClampNeg x8)) 10)) d_M_reason_192 (wM_at10 _ _) (jin_in g) ?_
            refine J_eq (ws' := wM (upd s 7 ((s 7) + (1 : Int32))) (va_up (va_up a 12 (upd (a 12) ((s 7)).toNatClampNeg x8)) 10 (upd ((va_up a 12 (upd (a 12) ((s 7)).toNatClampNeg x8)) 10) ((((va_up a 12 (upd (a 12) ((s 7)).toNatClampNeg x8)) 3) (x8).toNatClampNeg)).toNatClampNeg (1 : Int32)))) rfl rfl rfl (wM_ast10 _ _ _) ?_
            refine J_aload_n d_M_reason_193 rfl ?_
            refine J_get (j := 17) (v := .ref 11) d_M_reason_194 (wM_at0 _ _) rfl in_5 (by decide) ts_333 rfl ?_
            refine J_aload_n d_M_reason_197 rfl ?_
            refine J_get (j := 9) (v := .ref 3) d_M_reason_198 (wM_at0 _ _) rfl in_5 (by decide) ts_276 rfl ?_
            refine J_iload_n d_M_reason_201 rfl ?_
            obtain ⟨g, h⟩ := jg_some h
            refine J_iald (f := ((va_up (va_up a 12 (upd (a 12) ((s 7)).toNatClampNeg x8)) 10 (upd ((va_up a 12 (upd (a 12) ((s 7)).toNatClampNeg x8)) 10) ((((va_up a 12 (upd (a 12) ((s 7)).toNatClampNeg x8)) 3) (x8).toNatClampNeg)).toNatClampNeg (1 : Int32))) 3)) d_M_reason_202 (wM_at3 _ _) (jin_in g) ?_
            refine J_iload_n d_M_reason_203 rfl ?_
            obtain ⟨g, h⟩ := jg_some h
            refine J_iast (f := ((va_up (va_up a 12 (upd (a 12) ((s 7)).toNatClampNeg x8)) 10 (upd ((va_up a 12 (upd (a 12) ((s 7)).toNatClampNeg x8)) 10) ((((va_up a 12 (upd (a 12) ((s 7)).toNatClampNeg x8)) 3) (x8).toNatClampNeg)).toNatClampNeg (1 : Int32))) 11)) d_M_reason_204 (wM_at11 _ _) (jin_in g) ?_
            refine J_eq (ws' := wM (upd s 7 ((s 7) + (1 : Int32))) (va_up (va_up (va_up a 12 (upd (a 12) ((s 7)).toNatClampNeg x8)) 10 (upd ((va_up a 12 (upd (a 12) ((s 7)).toNatClampNeg x8)) 10) ((((va_up a 12 (upd (a 12) ((s 7)).toNatClampNeg x8)) 3) (x8).toNatClampNeg)).toNatClampNeg (1 : Int32))) 11 (upd ((va_up (va_up a 12 (upd (a 12) ((s 7)).toNatClampNeg x8)) 10 (upd ((va_up a 12 (upd (a 12) ((s 7)).toNatClampNeg x8)) 10) ((((va_up a 12 (upd (a 12) ((s 7)).toNatClampNeg x8)) 3) (x8).toNatClampNeg)).toNatClampNeg (1 : Int32))) 11) ((((va_up (va_up a 12 (upd (a 12) ((s 7)).toNatClampNeg x8)) 10 (upd ((va_up a 12 (upd (a 12) ((s 7)).toNatClampNeg x8)) 10) ((((va_up a 12 (upd (a 12) ((s 7)).toNatClampNeg x8)) 3) (x8).toNatClampNeg)).toNatClampNeg (1 : Int32))) 3) (x8).toNatClampNeg)).toNatClampNeg x8))) rfl rfl rfl (wM_ast11 _ _ _) ?_
            refine J_goto (tgt := 26) d_M_reason_205 (by decide) ?_
            exact ih _ _ _ _ _ h
          · have h := j_ifp c h
            refine J_iconst (v := (2 : Int32)) d_M_reason_159 (by decide) ?_
            exact J_iret d_M_reason_160 rfl rfl (by cases h; exact ⟨rfl, rfl⟩)
        · have h := j_ifn c h
          refine J_iconst (v := (0 : Int32)) d_M_reason_146 (by decide) ?_
          exact J_iret d_M_reason_147 rfl rfl (by cases h; exact ⟨rfl, rfl⟩)
def m_M_reason (s : jS) (a : jB) (p0 : Int32) : Option (Int32 × jS × jB) := L_M_reason_7 (fun s1 a2 => L_M_reason_26 (p0) (fun s11 a12 => some ((1 : Int32), s11, a12)) jF (s1) (a2)) jF ((upd s 7 (0 : Int32))) (a) ((0 : Int32))
set_option maxRecDepth 100000 in
set_option maxHeartbeats 4000000 in
theorem c_M_reason (l : Launch) (s : jS) (a : jB) (p0 : Int32) (r : Int32 × jS × jB) (h : m_M_reason s a p0 = some r) : JMet l vwCl NsG (.code y_M_reason prog_7_method_12_code 5 (some .int) :: TsG) y_M_reason rm_M_reason [.ref 0, .int p0] (wM s a) (fun v w => v = some (.int r.1) ∧ w = wM r.2.1 r.2.2) := by
  refine J_enter (by decide +kernel) rfl (Nat.le_of_ble_eq_true rfl) ?_
  unfold m_M_reason at h
  refine J_eq (ls' := [some (.ref 0), some (.int p0), none, none, none]) rfl rfl rfl rfl ?_
  refine J_aload_n d_M_reason_0 rfl ?_
  refine J_iconst (v := (0 : Int32)) d_M_reason_1 (by decide) ?_
  refine J_put (j := 19) d_M_reason_2 (wM_at0 _ _) rfl in_5 ty_M tyok_M nok_M (by decide) ts_332 rfl (tyok_M 19 (by decide)) rfl rfl (Nat.le_of_ble_eq_true rfl) ?_
  refine J_eq rfl rfl rfl (wM_put7 _ _ _) ?_
  refine J_iconst (v := (0 : Int32)) d_M_reason_5 (by decide) ?_
  refine J_istore_n d_M_reason_6 (by decide) ?_
  refine JL_M_reason_7 l _ _ r (fun s1 a2 o3 o4 o5 h => ?_) jF _ _ _ _ _ h
  refine JL_M_reason_26 l _ _ r (fun s11 a12 o13 o14 o15 h => ?_) jF _ _ _ _ _ h
  refine J_iconst (v := (1 : Int32)) d_M_reason_208 (by decide) ?_
  exact J_iret d_M_reason_209 rfl rfl (by cases h; exact ⟨rfl, rfl⟩)
abbrev rm_M_reasonAlone : Room := { frames := 1, cells := 0, slots := 0, locals := 24 }
abbrev K_M_reasonAlone (l : Launch) := JW l vwCl NsG TsG "ClassifySortModel" prog_7_method_13_code 4 (some .int) rm_M_reasonAlone
def L_M_reasonAlone_2 (c1 : Int32) (k30 : jS → jB → Option (Int32 × jS × jB)) : Nat → jS → jB → Int32 → Option (Int32 × jS × jB)
  | 0, _, _, _ => none
  | f + 1, s, a, x3 => (if (20 : Int32) < x3 then k30 (s) (a) else jb (if x3 = c1 then some (1 : Int32) else some (0 : Int32)) (fun b1 => jg (jin x3 21) (L_M_reasonAlone_2 c1 k30 f (s) ((va_up a 10 (upd (a 10) (x3).toNatClampNeg (vp_nar .boolean b1)))) ((x3 + (1 : Int32))))))
set_option maxRecDepth 100000 in
set_option maxHeartbeats 4000000 in
theorem JL_M_reasonAlone_2 (l : Launch) (c1 : Int32) (c2 : Int32) (k30 : jS → jB → Option (Int32 × jS × jB)) (r : Int32 × jS × jB) (hk30 : ∀ (s : jS) (a : jB) (o3 : Option Value), k30 s a = some r → K_M_reasonAlone l 30 [some (.ref 0), some (.int c1), some (.int c2), o3] [] (wM s a) (fun v w => v = some (.int r.1) ∧ w = wM r.2.1 r.2.2)) : ∀ (f : Nat), ∀ (s : jS) (a : jB) (x3 : Int32), L_M_reasonAlone_2 c1 k30 f s a x3 = some r → K_M_reasonAlone l 2 [some (.ref 0), some (.int c1), some (.int c2), some (.int x3)] [] (wM s a) (fun v w => v = some (.int r.1) ∧ w = wM r.2.1 r.2.2) := by
  intro f
  induction f with
  | zero =>
    intro s a x3 h
    cases h
  | succ f ih =>
    intro s a x3 h
    rw [L_M_reasonAlone_2] at h
    refine J_iload_n d_M_reasonAlone_2 rfl ?_
    refine J_bipush (v := (20 : Int32)) d_M_reasonAlone_3 (by decide) ?_
    refine J_icmp_gt (tgt := 30) d_M_reasonAlone_5 (by decide) (fun c => ?_) (fun c => ?_)
    · have h := j_ifp c h
      exact hk30 _ _ _ h
    · have h := j_ifn c h
      refine J_aload_n d_M_reasonAlone_8 rfl ?_
      refine J_get (j := 16) (v := .ref 10) d_M_reasonAlone_9 (wM_at0 _ _) rfl in_5 (by decide) ts_331 rfl ?_
      refine J_iload_n d_M_reasonAlone_12 rfl ?_
      refine J_iload_n d_M_reasonAlone_13 rfl ?_
      refine J_iload_n d_M_reasonAlone_14 rfl ?_
      obtain ⟨b1, hb1, h⟩ := jb_some h
      have kb1 : K_M_reasonAlone l 23 [some (.ref 0), some (.int c1), some (.int c2), some (.int x3)] [.int b1, .int x3, .ref 10] (wM s a) (fun v w => v = some (.int r.1) ∧ w = wM r.2.1 r.2.2) := by
        obtain ⟨g, h⟩ := jg_some h
        refine J_zast (f := (a 10)) d_M_reasonAlone_23 (wM_at10 _ _) (jin_in g) ?_
        refine J_eq (ws' := wM s (va_up a 10 (upd (a 10) (x3).toNatClampNeg (vp_nar .boolean b1)))) rfl rfl rfl (wM_ast10 _ _ _) ?_
        refine J_iinc (v := (x3 + (1 : Int32))) d_M_reasonAlone_24 rfl (by first | rfl | decide) (by decide) ?_
        refine J_goto (tgt := 2) d_M_reasonAlone_27 (by decide) ?_
        exact ih _ _ _ h
      clear h
      have h := hb1
      refine J_icmp_ne (tgt := 22) d_M_reasonAlone_15 (by decide) (fun c => ?_) (fun c => ?_)
      · have h := j_ifn c h
        refine J_iconst (v := (0 : Int32)) d_M_reasonAlone_22 (by decide) ?_
        cases h
        exact kb1
      · have h := j_ifp c h
        refine J_iconst (v := (1 : Int32)) d_M_reasonAlone_18 (by decide) ?_
        refine J_goto (tgt := 23) d_M_reasonAlone_19 (by decide) ?_
        cases h
        exact kb1
def m_M_reasonAlone (s : jS) (a : jB) (p0 : Int32) (p1 : Int32) : Option (Int32 × jS × jB) := L_M_reasonAlone_2 (p0) (fun s2 a3 => jb3 (m_M_reason s2 a3 p1) (fun v8 s6 a7 => some (v8, s6, a7))) jF (s) (a) ((0 : Int32))
set_option maxRecDepth 100000 in
set_option maxHeartbeats 4000000 in
theorem c_M_reasonAlone (l : Launch) (s : jS) (a : jB) (p0 : Int32) (p1 : Int32) (r : Int32 × jS × jB) (h : m_M_reasonAlone s a p0 p1 = some r) : JMet l vwCl NsG (.code y_M_reasonAlone prog_7_method_13_code 4 (some .int) :: TsG) y_M_reasonAlone rm_M_reasonAlone [.ref 0, .int p0, .int p1] (wM s a) (fun v w => v = some (.int r.1) ∧ w = wM r.2.1 r.2.2) := by
  refine J_enter (by decide +kernel) rfl (Nat.le_of_ble_eq_true rfl) ?_
  unfold m_M_reasonAlone at h
  refine J_eq (ls' := [some (.ref 0), some (.int p0), some (.int p1), none]) rfl rfl rfl rfl ?_
  refine J_iconst (v := (0 : Int32)) d_M_reasonAlone_0 (by decide) ?_
  refine J_istore_n d_M_reasonAlone_1 (by decide) ?_
  refine JL_M_reasonAlone_2 l _ _ _ r (fun s2 a3 o4 h => ?_) jF _ _ _ h
  refine J_aload_n d_M_reasonAlone_30 rfl ?_
  refine J_iload_n d_M_reasonAlone_31 rfl ?_
  obtain ⟨v8, s6, a7, e5, h⟩ := jb3_some h
  refine J_cVi1 d_M_reasonAlone_32 (c_M_reason l _ _ _ _ e5) (wM_at0 _ _) rfl ts_335 ts_good rfl rfl ts_278 ts_336 dy_M_reason (by decide) (Nat.le_of_ble_eq_true rfl) ts_337 ts_338 ?_
  exact J_iret d_M_reasonAlone_35 rfl rfl (by cases h; exact ⟨rfl, rfl⟩)
abbrev rm_M_ask : Room := { frames := 2, cells := 0, slots := 0, locals := 47 }
abbrev K_M_ask (l : Launch) := JW l vwCl NsG TsG "ClassifySortModel" prog_7_method_24_code 4 (some .int) rm_M_ask
def m_M_ask (s : jS) (a : jB) (p0 : Int32) (p1 : Int32) : Option (Int32 × jS × jB) := jb (m_M_goalOf s a p1) (fun v2 => jb (m_M_isClass s a p0) (fun v4 => (if v4 = (0 : Int32) then some ((-1 : Int32), s, a) else (if (0 : Int32) ≤ v2 then jb3 (m_M_reasonAlone s a p0 v2) (fun v8 s6 a7 => some (v8, s6, a7)) else some ((-1 : Int32), s, a)))))
set_option maxRecDepth 100000 in
set_option maxHeartbeats 4000000 in
theorem c_M_ask (l : Launch) (s : jS) (a : jB) (p0 : Int32) (p1 : Int32) (r : Int32 × jS × jB) (h : m_M_ask s a p0 p1 = some r) : JMet l vwCl NsG (.code y_M_ask prog_7_method_24_code 4 (some .int) :: TsG) y_M_ask rm_M_ask [.ref 0, .int p0, .int p1] (wM s a) (fun v w => v = some (.int r.1) ∧ w = wM r.2.1 r.2.2) := by
  refine J_enter (by decide +kernel) rfl (Nat.le_of_ble_eq_true rfl) ?_
  unfold m_M_ask at h
  refine J_eq (ls' := [some (.ref 0), some (.int p0), some (.int p1), none]) rfl rfl rfl rfl ?_
  refine J_aload_n d_M_ask_0 rfl ?_
  refine J_iload_n d_M_ask_1 rfl ?_
  obtain ⟨v2, e1, h⟩ := jb_some h
  refine J_cVi1 d_M_ask_2 (c_M_goalOf l _ _ _ _ e1) (wM_at0 _ _) rfl ts_327 ts_good rfl rfl ts_278 ts_328 dy_M_goalOf (by decide) (Nat.le_of_ble_eq_true rfl) ts_329 ts_330 ?_
  refine J_istore_n d_M_ask_5 (by decide) ?_
  refine J_aload_n d_M_ask_6 rfl ?_
  refine J_iload_n d_M_ask_7 rfl ?_
  obtain ⟨v4, e3, h⟩ := jb_some h
  refine J_cVi1 d_M_ask_8 (c_M_isClass l _ _ _ _ e3) (wM_at0 _ _) rfl ts_308 ts_good rfl rfl ts_278 ts_309 dy_M_isClass (by decide) (Nat.le_of_ble_eq_true rfl) ts_310 ts_311 ?_
  refine J_if_eq (tgt := 18) d_M_ask_11 (by decide) (fun c => ?_) (fun c => ?_)
  · have h := j_ifp c h
    refine J_iconst (v := (-1 : Int32)) d_M_ask_18 (by decide) ?_
    refine J_goto (tgt := 28) d_M_ask_19 (by decide) ?_
    exact J_iret d_M_ask_28 rfl rfl (by cases h; exact ⟨rfl, rfl⟩)
  · have h := j_ifn c h
    refine J_iload_n d_M_ask_14 rfl ?_
    refine J_if_ge (tgt := 22) d_M_ask_15 (by decide) (fun c => ?_) (fun c => ?_)
    · have h := j_ifp c h
      refine J_aload_n d_M_ask_22 rfl ?_
      refine J_iload_n d_M_ask_23 rfl ?_
      refine J_iload_n d_M_ask_24 rfl ?_
      obtain ⟨v8, s6, a7, e5, h⟩ := jb3_some h
      refine J_cVi2 d_M_ask_25 (c_M_reasonAlone l _ _ _ _ _ e5) (wM_at0 _ _) rfl ts_339 ts_good rfl rfl ts_278 ts_340 dy_M_reasonAlone (by decide) (Nat.le_of_ble_eq_true rfl) ts_341 ts_342 ?_
      exact J_iret d_M_ask_28 rfl rfl (by cases h; exact ⟨rfl, rfl⟩)
    · have h := j_ifn c h
      refine J_iconst (v := (-1 : Int32)) d_M_ask_18 (by decide) ?_
      refine J_goto (tgt := 28) d_M_ask_19 (by decide) ?_
      exact J_iret d_M_ask_28 rfl rfl (by cases h; exact ⟨rfl, rfl⟩)
abbrev rm_M_look : Room := { frames := 4, cells := 0, slots := 0, locals := 93 }
abbrev K_M_look (l : Launch) := JW l vwCl NsG TsG "ClassifySortModel" prog_7_method_25_code 3 (some .boolean) rm_M_look
def m_M_look (s : jS) (a : jB) (p0 : Int32) (p1 : Int32) : Option (Int32 × jS × jB) := jg (jin (((21 : Int32) * p0) + p1) 420) ((if ((a 6) ((((21 : Int32) * p0) + p1)).toNatClampNeg) = (3 : Int32) then jb3 (m_M_reasonAlone (upd s 8 ((s 8) + (1 : Int32))) a p0 p1) (fun v5 s3 a4 => jg (jin (((21 : Int32) * p0) + p1) 420) (jb2 (m_M_close s3 (va_up a4 6 (upd (a4 6) ((((21 : Int32) * p0) + p1)).toNatClampNeg v5))) (fun s7 a8 => jg (jin (((21 : Int32) * p0) + p1) 420) (jb (if ((a8 6) ((((21 : Int32) * p0) + p1)).toNatClampNeg) = (1 : Int32) then some (1 : Int32) else some (0 : Int32)) (fun b9 => jg (jz b9) (some (b9, s7, a8))))))) else jg (jin (((21 : Int32) * p0) + p1) 420) (jb (if ((a 6) ((((21 : Int32) * p0) + p1)).toNatClampNeg) = (1 : Int32) then some (1 : Int32) else some (0 : Int32)) (fun b1 => jg (jz b1) (some (b1, s, a))))))
set_option maxRecDepth 100000 in
set_option maxHeartbeats 4000000 in
theorem c_M_look (l : Launch) (s : jS) (a : jB) (p0 : Int32) (p1 : Int32) (r : Int32 × jS × jB) (h : m_M_look s a p0 p1 = some r) : JMet l vwCl NsG (.code y_M_look prog_7_method_25_code 3 (some .boolean) :: TsG) y_M_look rm_M_look [.ref 0, .int p0, .int p1] (wM s a) (fun v w => v = some (.int r.1) ∧ w = wM r.2.1 r.2.2) := by
  refine J_enter (by decide +kernel) rfl (Nat.le_of_ble_eq_true rfl) ?_
  unfold m_M_look at h
  refine J_eq (ls' := [some (.ref 0), some (.int p0), some (.int p1)]) rfl rfl rfl rfl ?_
  refine J_aload_n d_M_look_0 rfl ?_
  refine J_get (j := 12) (v := .ref 6) d_M_look_1 (wM_at0 _ _) rfl in_5 (by decide) ts_282 rfl ?_
  refine J_bipush (v := (21 : Int32)) d_M_look_4 (by decide) ?_
  refine J_iload_n d_M_look_6 rfl ?_
  refine J_imul d_M_look_7 ?_
  refine J_iload_n d_M_look_8 rfl ?_
  refine J_iadd d_M_look_9 ?_
  obtain ⟨g, h⟩ := jg_some h
  refine J_iald (f := (a 6)) d_M_look_10 (wM_at6 _ _) (jin_in g) ?_
  refine J_iconst (v := (3 : Int32)) d_M_look_11 (by decide) ?_
  refine J_icmp_ne (tgt := 46) d_M_look_12 (by decide) (fun c => ?_) (fun c => ?_)
  · have h := j_ifn c h
    refine J_aload_n d_M_look_46 rfl ?_
    refine J_get (j := 12) (v := .ref 6) d_M_look_47 (wM_at0 _ _) rfl in_5 (by decide) ts_282 rfl ?_
    refine J_bipush (v := (21 : Int32)) d_M_look_50 (by decide) ?_
    refine J_iload_n d_M_look_52 rfl ?_
    refine J_imul d_M_look_53 ?_
    refine J_iload_n d_M_look_54 rfl ?_
    refine J_iadd d_M_look_55 ?_
    obtain ⟨g, h⟩ := jg_some h
    refine J_iald (f := (a 6)) d_M_look_56 (wM_at6 _ _) (jin_in g) ?_
    refine J_iconst (v := (1 : Int32)) d_M_look_57 (by decide) ?_
    obtain ⟨b1, hb1, h⟩ := jb_some h
    have kb1 : K_M_look l 66 [some (.ref 0), some (.int p0), some (.int p1)] [.int b1] (wM s a) (fun v w => v = some (.int r.1) ∧ w = wM r.2.1 r.2.2) := by
      obtain ⟨g, h⟩ := jg_some h
      exact J_iret d_M_look_66 rfl (jz_nar g) (by cases h; exact ⟨rfl, rfl⟩)
    clear h
    have h := hb1
    refine J_icmp_ne (tgt := 65) d_M_look_58 (by decide) (fun c => ?_) (fun c => ?_)
    · have h := j_ifn c h
      refine J_iconst (v := (0 : Int32)) d_M_look_65 (by decide) ?_
      cases h
      exact kb1
    · have h := j_ifp c h
      refine J_iconst (v := (1 : Int32)) d_M_look_61 (by decide) ?_
      refine J_goto (tgt := 66) d_M_look_62 (by decide) ?_
      cases h
      exact kb1
  · have h := j_ifp c h
    refine J_aload_n d_M_look_15 rfl ?_
    refine J_dup d_M_look_16 rfl ?_
    refine J_get (j := 22) (v := .int (s 8)) d_M_look_17 (wM_at0 _ _) rfl in_5 (by decide) ts_343 rfl ?_
    refine J_iconst (v := (1 : Int32)) d_M_look_20 (by decide) ?_
    refine J_iadd d_M_look_21 ?_
    refine J_put (j := 22) d_M_look_22 (wM_at0 _ _) rfl in_5 ty_M tyok_M nok_M (by decide) ts_343 rfl (tyok_M 22 (by decide)) rfl rfl (Nat.le_of_ble_eq_true rfl) ?_
    refine J_eq rfl rfl rfl (wM_put8 _ _ _) ?_
    refine J_aload_n d_M_look_25 rfl ?_
    refine J_get (j := 12) (v := .ref 6) d_M_look_26 (wM_at0 _ _) rfl in_5 (by decide) ts_282 rfl ?_
    refine J_bipush (v := (21 : Int32)) d_M_look_29 (by decide) ?_
    refine J_iload_n d_M_look_31 rfl ?_
    refine J_imul d_M_look_32 ?_
    refine J_iload_n d_M_look_33 rfl ?_
    refine J_iadd d_M_look_34 ?_
    refine J_aload_n d_M_look_35 rfl ?_
    refine J_iload_n d_M_look_36 rfl ?_
    refine J_iload_n d_M_look_37 rfl ?_
    obtain ⟨v5, s3, a4, e2, h⟩ := jb3_some h
    refine J_cVi2 d_M_look_38 (c_M_reasonAlone l _ _ _ _ _ e2) (wM_at0 _ _) rfl ts_339 ts_good rfl rfl ts_278 ts_340 dy_M_reasonAlone (by decide) (Nat.le_of_ble_eq_true rfl) ts_341 ts_342 ?_
    obtain ⟨g, h⟩ := jg_some h
    refine J_iast (f := (a4 6)) d_M_look_41 (wM_at6 _ _) (jin_in g) ?_
    refine J_eq (ws' := wM s3 (va_up a4 6 (upd (a4 6) ((((21 : Int32) * p0) + p1)).toNatClampNeg v5))) rfl rfl rfl (wM_ast6 _ _ _) ?_
    refine J_aload_n d_M_look_42 rfl ?_
    obtain ⟨s7, a8, e6, h⟩ := jb2_some h
    refine J_cVv0 d_M_look_43 (c_M_close l _ _ _ e6) (wM_at0 _ _) rfl ts_303 ts_good rfl rfl ts_278 ts_304 dy_M_close (by decide) (Nat.le_of_ble_eq_true rfl) ts_305 ts_306 ?_
    refine J_aload_n d_M_look_46 rfl ?_
    refine J_get (j := 12) (v := .ref 6) d_M_look_47 (wM_at0 _ _) rfl in_5 (by decide) ts_282 rfl ?_
    refine J_bipush (v := (21 : Int32)) d_M_look_50 (by decide) ?_
    refine J_iload_n d_M_look_52 rfl ?_
    refine J_imul d_M_look_53 ?_
    refine J_iload_n d_M_look_54 rfl ?_
    refine J_iadd d_M_look_55 ?_
    obtain ⟨g, h⟩ := jg_some h
    refine J_iald (f := (a8 6)) d_M_look_56 (wM_at6 _ _) (jin_in g) ?_
    refine J_iconst (v := (1 : Int32)) d_M_look_57 (by decide) ?_
    obtain ⟨b9, hb9, h⟩ := jb_some h
    have kb9 : K_M_look l 66 [some (.ref 0), some (.int p0), some (.int p1)] [.int b9] (wM s7 a8) (fun v w => v = some (.int r.1) ∧ w = wM r.2.1 r.2.2) := by
      obtain ⟨g, h⟩ := jg_some h
      exact J_iret d_M_look_66 rfl (jz_nar g) (by cases h; exact ⟨rfl, rfl⟩)
    clear h
    have h := hb9
    refine J_icmp_ne (tgt := 65) d_M_look_58 (by decide) (fun c => ?_) (fun c => ?_)
    · have h := j_ifn c h
      refine J_iconst (v := (0 : Int32)) d_M_look_65 (by decide) ?_
      cases h
      exact kb9
    · have h := j_ifp c h
      refine J_iconst (v := (1 : Int32)) d_M_look_61 (by decide) ?_
      refine J_goto (tgt := 66) d_M_look_62 (by decide) ?_
      cases h
      exact kb9
abbrev rm_M_isUnder : Room := { frames := 1, cells := 0, slots := 0, locals := 22 }
abbrev K_M_isUnder (l : Launch) := JW l vwCl NsG TsG "ClassifySortModel" prog_7_method_26_code 3 (some .boolean) rm_M_isUnder
def m_M_isUnder (s : jS) (a : jB) (p0 : Int32) (p1 : Int32) : Option (Int32) := jb (m_M_below s a p0 p1) (fun v2 => jb (if v2 = (0 : Int32) then some (0 : Int32) else jb (m_M_below s a p1 p0) (fun v5 => (if v5 = (0 : Int32) then some (1 : Int32) else some (0 : Int32)))) (fun b3 => jg (jz b3) (some (b3))))
set_option maxRecDepth 100000 in
set_option maxHeartbeats 4000000 in
theorem c_M_isUnder (l : Launch) (s : jS) (a : jB) (p0 : Int32) (p1 : Int32) (r : Int32) (h : m_M_isUnder s a p0 p1 = some r) : JMet l vwCl NsG (.code y_M_isUnder prog_7_method_26_code 3 (some .boolean) :: TsG) y_M_isUnder rm_M_isUnder [.ref 0, .int p0, .int p1] (wM s a) (fun v w => v = some (.int r) ∧ w = wM s a) := by
  refine J_enter (by decide +kernel) rfl (Nat.le_of_ble_eq_true rfl) ?_
  unfold m_M_isUnder at h
  refine J_eq (ls' := [some (.ref 0), some (.int p0), some (.int p1)]) rfl rfl rfl rfl ?_
  refine J_aload_n d_M_isUnder_0 rfl ?_
  refine J_iload_n d_M_isUnder_1 rfl ?_
  refine J_iload_n d_M_isUnder_2 rfl ?_
  obtain ⟨v2, e1, h⟩ := jb_some h
  refine J_cVi2 d_M_isUnder_3 (c_M_below l _ _ _ _ _ e1) (wM_at0 _ _) rfl ts_291 ts_good rfl rfl ts_278 ts_292 dy_M_below (by decide) (Nat.le_of_ble_eq_true rfl) ts_293 ts_294 ?_
  obtain ⟨b3, hb3, h⟩ := jb_some h
  have kb3 : K_M_isUnder l 23 [some (.ref 0), some (.int p0), some (.int p1)] [.int b3] (wM s a) (fun v w => v = some (.int r) ∧ w = wM s a) := by
    obtain ⟨g, h⟩ := jg_some h
    exact J_iret d_M_isUnder_23 rfl (jz_nar g) (by cases h; exact ⟨rfl, rfl⟩)
  clear h
  have h := hb3
  refine J_if_eq (tgt := 22) d_M_isUnder_6 (by decide) (fun c => ?_) (fun c => ?_)
  · have h := j_ifp c h
    refine J_iconst (v := (0 : Int32)) d_M_isUnder_22 (by decide) ?_
    cases h
    exact kb3
  · have h := j_ifn c h
    refine J_aload_n d_M_isUnder_9 rfl ?_
    refine J_iload_n d_M_isUnder_10 rfl ?_
    refine J_iload_n d_M_isUnder_11 rfl ?_
    obtain ⟨v5, e4, h⟩ := jb_some h
    refine J_cVi2 d_M_isUnder_12 (c_M_below l _ _ _ _ _ e4) (wM_at0 _ _) rfl ts_291 ts_good rfl rfl ts_278 ts_292 dy_M_below (by decide) (Nat.le_of_ble_eq_true rfl) ts_293 ts_294 ?_
    refine J_if_ne (tgt := 22) d_M_isUnder_15 (by decide) (fun c => ?_) (fun c => ?_)
    · have h := j_ifn c h
      refine J_iconst (v := (0 : Int32)) d_M_isUnder_22 (by decide) ?_
      cases h
      exact kb3
    · have h := j_ifp c h
      refine J_iconst (v := (1 : Int32)) d_M_isUnder_18 (by decide) ?_
      refine J_goto (tgt := 23) d_M_isUnder_19 (by decide) ?_
      cases h
      exact kb3
abbrev rm_M_isDirect : Room := { frames := 2, cells := 0, slots := 0, locals := 44 }
abbrev K_M_isDirect (l : Launch) := JW l vwCl NsG TsG "ClassifySortModel" prog_7_method_27_code 5 (some .boolean) rm_M_isDirect
def L_M_isDirect_27 (s : jS) (a : jB) (c1 : Int32) (c2 : Int32) (k82 : Int32 → Option (Int32)) : Nat → Int32 → Int32 → Option (Int32)
  | 0, _, _ => none
  | f + 1, x3, x4 => (if (s 1) ≤ x4 then k82 (x3) else jb (if x3 = (0 : Int32) then some (0 : Int32) else jg (jin x4 20) ((if ((a 8) (x4).toNatClampNeg) = (0 : Int32) then some (1 : Int32) else jb (m_M_isUnder s a c1 x4) (fun v4 => (if v4 = (0 : Int32) then some (1 : Int32) else jb (m_M_isUnder s a x4 c2) (fun v6 => (if v6 = (0 : Int32) then some (1 : Int32) else some (0 : Int32)))))))) (fun b2 => L_M_isDirect_27 s a c1 c2 k82 f (b2) ((x4 + (1 : Int32)))))
set_option maxRecDepth 100000 in
set_option maxHeartbeats 4000000 in
theorem JL_M_isDirect_27 (l : Launch) (s : jS) (a : jB) (c1 : Int32) (c2 : Int32) (k82 : Int32 → Option (Int32)) (r : Int32) (hk82 : ∀ (x3 : Int32) (o4 : Option Value), k82 x3 = some r → K_M_isDirect l 82 [some (.ref 0), some (.int c1), some (.int c2), some (.int x3), o4] [] (wM s a) (fun v w => v = some (.int r) ∧ w = wM s a)) : ∀ (f : Nat), ∀ (x3 : Int32) (x4 : Int32), L_M_isDirect_27 s a c1 c2 k82 f x3 x4 = some r → K_M_isDirect l 27 [some (.ref 0), some (.int c1), some (.int c2), some (.int x3), some (.int x4)] [] (wM s a) (fun v w => v = some (.int r) ∧ w = wM s a) := by
  intro f
  induction f with
  | zero =>
    intro x3 x4 h
    cases h
  | succ f ih =>
    intro x3 x4 h
    rw [L_M_isDirect_27] at h
    refine J_iload d_M_isDirect_27 rfl ?_
    refine J_aload_n d_M_isDirect_29 rfl ?_
    refine J_get (j := 1) (v := .int (s 1)) d_M_isDirect_30 (wM_at0 _ _) rfl in_5 (by decide) ts_270 rfl ?_
    refine J_icmp_ge (tgt := 82) d_M_isDirect_33 (by decide) (fun c => ?_) (fun c => ?_)
    · have h := j_ifp c h
      exact hk82 _ _ h
    · have h := j_ifn c h
      refine J_iload_n d_M_isDirect_36 rfl ?_
      obtain ⟨b2, hb2, h⟩ := jb_some h
      have kb2 : K_M_isDirect l 75 [some (.ref 0), some (.int c1), some (.int c2), some (.int x3), some (.int x4)] [.int b2] (wM s a) (fun v w => v = some (.int r) ∧ w = wM s a) := by
        refine J_istore_n d_M_isDirect_75 (by decide) ?_
        refine J_iinc (v := (x4 + (1 : Int32))) d_M_isDirect_76 rfl (by first | rfl | decide) (by decide) ?_
        refine J_goto (tgt := 27) d_M_isDirect_79 (by decide) ?_
        exact ih _ _ h
      clear h
      have h := hb2
      refine J_if_eq (tgt := 74) d_M_isDirect_37 (by decide) (fun c => ?_) (fun c => ?_)
      · have h := j_ifp c h
        refine J_iconst (v := (0 : Int32)) d_M_isDirect_74 (by decide) ?_
        cases h
        exact kb2
      · have h := j_ifn c h
        refine J_aload_n d_M_isDirect_40 rfl ?_
        refine J_get (j := 14) (v := .ref 8) d_M_isDirect_41 (wM_at0 _ _) rfl in_5 (by decide) ts_344 rfl ?_
        refine J_iload d_M_isDirect_44 rfl ?_
        obtain ⟨g, h⟩ := jg_some h
        refine J_zald (f := (a 8)) d_M_isDirect_46 (wM_at8 _ _) (jin_in g) ?_
        refine J_if_eq (tgt := 70) d_M_isDirect_47 (by decide) (fun c => ?_) (fun c => ?_)
        · have h := j_ifp c h
          refine J_iconst (v := (1 : Int32)) d_M_isDirect_70 (by decide) ?_
          refine J_goto (tgt := 75) d_M_isDirect_71 (by decide) ?_
          cases h
          exact kb2
        · have h := j_ifn c h
          refine J_aload_n d_M_isDirect_50 rfl ?_
          refine J_iload_n d_M_isDirect_51 rfl ?_
          refine J_iload d_M_isDirect_52 rfl ?_
          obtain ⟨v4, e3, h⟩ := jb_some h
          refine J_cVi2 d_M_isDirect_54 (c_M_isUnder l _ _ _ _ _ e3) (wM_at0 _ _) rfl ts_350 ts_good rfl rfl ts_278 ts_351 dy_M_isUnder (by decide) (Nat.le_of_ble_eq_true rfl) ts_352 ts_353 ?_
          refine J_if_eq (tgt := 70) d_M_isDirect_57 (by decide) (fun c => ?_) (fun c => ?_)
          · have h := j_ifp c h
            refine J_iconst (v := (1 : Int32)) d_M_isDirect_70 (by decide) ?_
            refine J_goto (tgt := 75) d_M_isDirect_71 (by decide) ?_
            cases h
            exact kb2
          · have h := j_ifn c h
            refine J_aload_n d_M_isDirect_60 rfl ?_
            refine J_iload d_M_isDirect_61 rfl ?_
            refine J_iload_n d_M_isDirect_63 rfl ?_
            obtain ⟨v6, e5, h⟩ := jb_some h
            refine J_cVi2 d_M_isDirect_64 (c_M_isUnder l _ _ _ _ _ e5) (wM_at0 _ _) rfl ts_350 ts_good rfl rfl ts_278 ts_351 dy_M_isUnder (by decide) (Nat.le_of_ble_eq_true rfl) ts_352 ts_353 ?_
            refine J_if_ne (tgt := 74) d_M_isDirect_67 (by decide) (fun c => ?_) (fun c => ?_)
            · have h := j_ifn c h
              refine J_iconst (v := (0 : Int32)) d_M_isDirect_74 (by decide) ?_
              cases h
              exact kb2
            · have h := j_ifp c h
              refine J_iconst (v := (1 : Int32)) d_M_isDirect_70 (by decide) ?_
              refine J_goto (tgt := 75) d_M_isDirect_71 (by decide) ?_
              cases h
              exact kb2
def m_M_isDirect (s : jS) (a : jB) (p0 : Int32) (p1 : Int32) : Option (Int32) := jg (jin p1 20) (jb (if ((a 8) (p1).toNatClampNeg) = (0 : Int32) then some (0 : Int32) else jb (m_M_isUnder s a p0 p1) (fun v10 => (if v10 = (0 : Int32) then some (0 : Int32) else some (1 : Int32)))) (fun b1 => L_M_isDirect_27 (s) (a) (p0) (p1) (fun x7 => jg (jz x7) (some (x7))) jF (b1) ((0 : Int32))))
set_option maxRecDepth 100000 in
set_option maxHeartbeats 4000000 in
theorem c_M_isDirect (l : Launch) (s : jS) (a : jB) (p0 : Int32) (p1 : Int32) (r : Int32) (h : m_M_isDirect s a p0 p1 = some r) : JMet l vwCl NsG (.code y_M_isDirect prog_7_method_27_code 5 (some .boolean) :: TsG) y_M_isDirect rm_M_isDirect [.ref 0, .int p0, .int p1] (wM s a) (fun v w => v = some (.int r) ∧ w = wM s a) := by
  refine J_enter (by decide +kernel) rfl (Nat.le_of_ble_eq_true rfl) ?_
  unfold m_M_isDirect at h
  refine J_eq (ls' := [some (.ref 0), some (.int p0), some (.int p1), none, none]) rfl rfl rfl rfl ?_
  refine J_aload_n d_M_isDirect_0 rfl ?_
  refine J_get (j := 14) (v := .ref 8) d_M_isDirect_1 (wM_at0 _ _) rfl in_5 (by decide) ts_344 rfl ?_
  refine J_iload_n d_M_isDirect_4 rfl ?_
  obtain ⟨g, h⟩ := jg_some h
  refine J_zald (f := (a 8)) d_M_isDirect_5 (wM_at8 _ _) (jin_in g) ?_
  obtain ⟨b1, hb1, h⟩ := jb_some h
  have kb1 : K_M_isDirect l 23 [some (.ref 0), some (.int p0), some (.int p1), none, none] [.int b1] (wM s a) (fun v w => v = some (.int r) ∧ w = wM s a) := by
    refine J_istore_n d_M_isDirect_23 (by decide) ?_
    refine J_iconst (v := (0 : Int32)) d_M_isDirect_24 (by decide) ?_
    refine J_istore d_M_isDirect_25 (by decide) ?_
    refine JL_M_isDirect_27 l _ _ _ _ _ r (fun x7 o8 h => ?_) jF _ _ h
    refine J_iload_n d_M_isDirect_82 rfl ?_
    obtain ⟨g, h⟩ := jg_some h
    exact J_iret d_M_isDirect_83 rfl (jz_nar g) (by cases h; exact ⟨rfl, rfl⟩)
  clear h
  have h := hb1
  refine J_if_eq (tgt := 22) d_M_isDirect_6 (by decide) (fun c => ?_) (fun c => ?_)
  · have h := j_ifp c h
    refine J_iconst (v := (0 : Int32)) d_M_isDirect_22 (by decide) ?_
    cases h
    exact kb1
  · have h := j_ifn c h
    refine J_aload_n d_M_isDirect_9 rfl ?_
    refine J_iload_n d_M_isDirect_10 rfl ?_
    refine J_iload_n d_M_isDirect_11 rfl ?_
    obtain ⟨v10, e9, h⟩ := jb_some h
    refine J_cVi2 d_M_isDirect_12 (c_M_isUnder l _ _ _ _ _ e9) (wM_at0 _ _) rfl ts_350 ts_good rfl rfl ts_278 ts_351 dy_M_isUnder (by decide) (Nat.le_of_ble_eq_true rfl) ts_352 ts_353 ?_
    refine J_if_eq (tgt := 22) d_M_isDirect_15 (by decide) (fun c => ?_) (fun c => ?_)
    · have h := j_ifp c h
      refine J_iconst (v := (0 : Int32)) d_M_isDirect_22 (by decide) ?_
      cases h
      exact kb1
    · have h := j_ifn c h
      refine J_iconst (v := (1 : Int32)) d_M_isDirect_18 (by decide) ?_
      refine J_goto (tgt := 23) d_M_isDirect_19 (by decide) ?_
      cases h
      exact kb1
abbrev rm_M_nextFor : Room := { frames := 3, cells := 0, slots := 0, locals := 68 }
abbrev K_M_nextFor (l : Launch) := JW l vwCl NsG TsG "ClassifySortModel" prog_7_method_28_code 7 (some .int) rm_M_nextFor
def L_M_nextFor_45 (s : jS) (a : jB) (c1 : Int32) (c2 : Int32) (c4 : Int32) (k169 : Int32 → Option (Int32)) : Nat → Int32 → Int32 → Option (Int32)
  | 0, _, _ => none
  | f + 1, x5, x6 => (if (s 1) ≤ x6 then k169 (x5) else (if x5 = (0 : Int32) then k169 (x5) else (if c2 = (0 : Int32) then jg (jin x6 20) (jb (if ((a 8) (x6).toNatClampNeg) = (0 : Int32) then jg (jin x6 20) ((if ((a 8) (x6).toNatClampNeg) = (0 : Int32) then some (1 : Int32) else jb (m_M_isDirect s a x6 c4) (fun v4 => (if v4 = (0 : Int32) then some (1 : Int32) else jb (m_M_below s a x6 c1) (fun v6 => (if v6 = (0 : Int32) then some (0 : Int32) else some (1 : Int32))))))) else jb (m_M_below s a c1 x6) (fun v8 => (if v8 = (0 : Int32) then jg (jin x6 20) ((if ((a 8) (x6).toNatClampNeg) = (0 : Int32) then some (1 : Int32) else jb (m_M_isDirect s a x6 c4) (fun v10 => (if v10 = (0 : Int32) then some (1 : Int32) else jb (m_M_below s a x6 c1) (fun v12 => (if v12 = (0 : Int32) then some (0 : Int32) else some (1 : Int32))))))) else jb (m_M_below s a c4 x6) (fun v14 => (if v14 = (0 : Int32) then some (0 : Int32) else jg (jin x6 20) ((if ((a 8) (x6).toNatClampNeg) = (0 : Int32) then some (1 : Int32) else jb (m_M_isDirect s a x6 c4) (fun v16 => (if v16 = (0 : Int32) then some (1 : Int32) else jb (m_M_below s a x6 c1) (fun v18 => (if v18 = (0 : Int32) then some (0 : Int32) else some (1 : Int32)))))))))))) (fun b2 => L_M_nextFor_45 s a c1 c2 c4 k169 f (b2) ((x6 + (1 : Int32))))) else jb (m_M_isDirect s a c4 x6) (fun v20 => jb (if v20 = (0 : Int32) then some (1 : Int32) else jb (m_M_below s a c1 x6) (fun v23 => (if v23 = (0 : Int32) then some (0 : Int32) else some (1 : Int32)))) (fun b21 => L_M_nextFor_45 s a c1 c2 c4 k169 f (b21) ((x6 + (1 : Int32))))))))
set_option maxRecDepth 100000 in
set_option maxHeartbeats 4000000 in
theorem JL_M_nextFor_45 (l : Launch) (s : jS) (a : jB) (c1 : Int32) (c2 : Int32) (c4 : Int32) (c3 : Int32) (k169 : Int32 → Option (Int32)) (r : Int32) (hk169 : ∀ (x5 : Int32) (o6 : Option Value), k169 x5 = some r → K_M_nextFor l 169 [some (.ref 0), some (.int c1), some (.int c2), some (.int c3), some (.int c4), some (.int x5), o6] [] (wM s a) (fun v w => v = some (.int r) ∧ w = wM s a)) : ∀ (f : Nat), ∀ (x5 : Int32) (x6 : Int32), L_M_nextFor_45 s a c1 c2 c4 k169 f x5 x6 = some r → K_M_nextFor l 45 [some (.ref 0), some (.int c1), some (.int c2), some (.int c3), some (.int c4), some (.int x5), some (.int x6)] [] (wM s a) (fun v w => v = some (.int r) ∧ w = wM s a) := by
  intro f
  induction f with
  | zero =>
    intro x5 x6 h
    cases h
  | succ f ih =>
    intro x5 x6 h
    rw [L_M_nextFor_45] at h
    refine J_iload d_M_nextFor_45 rfl ?_
    refine J_aload_n d_M_nextFor_47 rfl ?_
    refine J_get (j := 1) (v := .int (s 1)) d_M_nextFor_48 (wM_at0 _ _) rfl in_5 (by decide) ts_270 rfl ?_
    refine J_icmp_ge (tgt := 169) d_M_nextFor_51 (by decide) (fun c => ?_) (fun c => ?_)
    · have h := j_ifp c h
      exact hk169 _ _ h
    · have h := j_ifn c h
      refine J_iload d_M_nextFor_54 rfl ?_
      refine J_if_eq (tgt := 169) d_M_nextFor_56 (by decide) (fun c => ?_) (fun c => ?_)
      · have h := j_ifp c h
        exact hk169 _ _ h
      · have h := j_ifn c h
        refine J_iload_n d_M_nextFor_59 rfl ?_
        refine J_if_eq (tgt := 94) d_M_nextFor_60 (by decide) (fun c => ?_) (fun c => ?_)
        · have h := j_ifp c h
          refine J_aload_n d_M_nextFor_94 rfl ?_
          refine J_get (j := 14) (v := .ref 8) d_M_nextFor_95 (wM_at0 _ _) rfl in_5 (by decide) ts_344 rfl ?_
          refine J_iload d_M_nextFor_98 rfl ?_
          obtain ⟨g, h⟩ := jg_some h
          refine J_zald (f := (a 8)) d_M_nextFor_100 (wM_at8 _ _) (jin_in g) ?_
          obtain ⟨b2, hb2, h⟩ := jb_some h
          have kb2 : K_M_nextFor l 161 [some (.ref 0), some (.int c1), some (.int c2), some (.int c3), some (.int c4), some (.int x5), some (.int x6)] [.int b2] (wM s a) (fun v w => v = some (.int r) ∧ w = wM s a) := by
            refine J_istore d_M_nextFor_161 (by decide) ?_
            refine J_iinc (v := (x6 + (1 : Int32))) d_M_nextFor_163 rfl (by first | rfl | decide) (by decide) ?_
            refine J_goto (tgt := 45) d_M_nextFor_166 (by decide) ?_
            exact ih _ _ h
          clear h
          have h := hb2
          refine J_if_eq (tgt := 125) d_M_nextFor_101 (by decide) (fun c => ?_) (fun c => ?_)
          · have h := j_ifp c h
            refine J_aload_n d_M_nextFor_125 rfl ?_
            refine J_get (j := 14) (v := .ref 8) d_M_nextFor_126 (wM_at0 _ _) rfl in_5 (by decide) ts_344 rfl ?_
            refine J_iload d_M_nextFor_129 rfl ?_
            obtain ⟨g, h⟩ := jg_some h
            refine J_zald (f := (a 8)) d_M_nextFor_131 (wM_at8 _ _) (jin_in g) ?_
            refine J_if_eq (tgt := 156) d_M_nextFor_132 (by decide) (fun c => ?_) (fun c => ?_)
            · have h := j_ifp c h
              refine J_iconst (v := (1 : Int32)) d_M_nextFor_156 (by decide) ?_
              refine J_goto (tgt := 161) d_M_nextFor_157 (by decide) ?_
              cases h
              exact kb2
            · have h := j_ifn c h
              refine J_aload_n d_M_nextFor_135 rfl ?_
              refine J_iload d_M_nextFor_136 rfl ?_
              refine J_iload d_M_nextFor_138 rfl ?_
              obtain ⟨v4, e3, h⟩ := jb_some h
              refine J_cVi2 d_M_nextFor_140 (c_M_isDirect l _ _ _ _ _ e3) (wM_at0 _ _) rfl ts_354 ts_good rfl rfl ts_278 ts_355 dy_M_isDirect (by decide) (Nat.le_of_ble_eq_true rfl) ts_356 ts_357 ?_
              refine J_if_eq (tgt := 156) d_M_nextFor_143 (by decide) (fun c => ?_) (fun c => ?_)
              · have h := j_ifp c h
                refine J_iconst (v := (1 : Int32)) d_M_nextFor_156 (by decide) ?_
                refine J_goto (tgt := 161) d_M_nextFor_157 (by decide) ?_
                cases h
                exact kb2
              · have h := j_ifn c h
                refine J_aload_n d_M_nextFor_146 rfl ?_
                refine J_iload d_M_nextFor_147 rfl ?_
                refine J_iload_n d_M_nextFor_149 rfl ?_
                obtain ⟨v6, e5, h⟩ := jb_some h
                refine J_cVi2 d_M_nextFor_150 (c_M_below l _ _ _ _ _ e5) (wM_at0 _ _) rfl ts_291 ts_good rfl rfl ts_278 ts_292 dy_M_below (by decide) (Nat.le_of_ble_eq_true rfl) ts_293 ts_294 ?_
                refine J_if_eq (tgt := 160) d_M_nextFor_153 (by decide) (fun c => ?_) (fun c => ?_)
                · have h := j_ifp c h
                  refine J_iconst (v := (0 : Int32)) d_M_nextFor_160 (by decide) ?_
                  cases h
                  exact kb2
                · have h := j_ifn c h
                  refine J_iconst (v := (1 : Int32)) d_M_nextFor_156 (by decide) ?_
                  refine J_goto (tgt := 161) d_M_nextFor_157 (by decide) ?_
                  cases h
                  exact kb2
          · have h := j_ifn c h
            refine J_aload_n d_M_nextFor_104 rfl ?_
            refine J_iload_n d_M_nextFor_105 rfl ?_
            refine J_iload d_M_nextFor_106 rfl ?_
            obtain ⟨v8, e7, h⟩ := jb_some h
            refine J_cVi2 d_M_nextFor_108 (c_M_below l _ _ _ _ _ e7) (wM_at0 _ _) rfl ts_291 ts_good rfl rfl ts_278 ts_292 dy_M_below (by decide) (Nat.le_of_ble_eq_true rfl) ts_293 ts_294 ?_
            refine J_if_eq (tgt := 125) d_M_nextFor_111 (by decide) (fun c => ?_) (fun c => ?_)
            · have h := j_ifp c h
              refine J_aload_n d_M_nextFor_125 rfl ?_
              refine J_get (j := 14) (v := .ref 8) d_M_nextFor_126 (wM_at0 _ _) rfl in_5 (by decide) ts_344 rfl ?_
              refine J_iload d_M_nextFor_129 rfl ?_
              obtain ⟨g, h⟩ := jg_some h
              refine J_zald (f := (a 8)) d_M_nextFor_131 (wM_at8 _ _) (jin_in g) ?_
              refine J_if_eq (tgt := 156) d_M_nextFor_132 (by decide) (fun c => ?_) (fun c => ?_)
              · have h := j_ifp c h
                refine J_iconst (v := (1 : Int32)) d_M_nextFor_156 (by decide) ?_
                refine J_goto (tgt := 161) d_M_nextFor_157 (by decide) ?_
                cases h
                exact kb2
              · have h := j_ifn c h
                refine J_aload_n d_M_nextFor_135 rfl ?_
                refine J_iload d_M_nextFor_136 rfl ?_
                refine J_iload d_M_nextFor_138 rfl ?_
                obtain ⟨v10, e9, h⟩ := jb_some h
                refine J_cVi2 d_M_nextFor_140 (c_M_isDirect l _ _ _ _ _ e9) (wM_at0 _ _) rfl ts_354 ts_good rfl rfl ts_278 ts_355 dy_M_isDirect (by decide) (Nat.le_of_ble_eq_true rfl) ts_356 ts_357 ?_
                refine J_if_eq (tgt := 156) d_M_nextFor_143 (by decide) (fun c => ?_) (fun c => ?_)
                · have h := j_ifp c h
                  refine J_iconst (v := (1 : Int32)) d_M_nextFor_156 (by decide) ?_
                  refine J_goto (tgt := 161) d_M_nextFor_157 (by decide) ?_
                  cases h
                  exact kb2
                · have h := j_ifn c h
                  refine J_aload_n d_M_nextFor_146 rfl ?_
                  refine J_iload d_M_nextFor_147 rfl ?_
                  refine J_iload_n d_M_nextFor_149 rfl ?_
                  obtain ⟨v12, e11, h⟩ := jb_some h
                  refine J_cVi2 d_M_nextFor_150 (c_M_below l _ _ _ _ _ e11) (wM_at0 _ _) rfl ts_291 ts_good rfl rfl ts_278 ts_292 dy_M_below (by decide) (Nat.le_of_ble_eq_true rfl) ts_293 ts_294 ?_
                  refine J_if_eq (tgt := 160) d_M_nextFor_153 (by decide) (fun c => ?_) (fun c => ?_)
                  · have h := j_ifp c h
                    refine J_iconst (v := (0 : Int32)) d_M_nextFor_160 (by decide) ?_
                    cases h
                    exact kb2
                  · have h := j_ifn c h
                    refine J_iconst (v := (1 : Int32)) d_M_nextFor_156 (by decide) ?_
                    refine J_goto (tgt := 161) d_M_nextFor_157 (by decide) ?_
                    cases h
                    exact kb2
            · have h := j_ifn c h
              refine J_aload_n d_M_nextFor_114 rfl ?_
              refine J_iload d_M_nextFor_115 rfl ?_
              refine J_iload d_M_nextFor_117 rfl ?_
              obtain ⟨v14, e13, h⟩ := jb_some h
              refine J_cVi2 d_M_nextFor_119 (c_M_below l _ _ _ _ _ e13) (wM_at0 _ _) rfl ts_291 ts_good rfl rfl ts_278 ts_292 dy_M_below (by decide) (Nat.le_of_ble_eq_true rfl) ts_293 ts_294 ?_
              refine J_if_eq (tgt := 160) d_M_nextFor_122 (by decide) (fun c => ?_) (fun c => ?_)
              · have h := j_ifp c h
                refine J_iconst (v := (0 : Int32)) d_M_nextFor_160 (by decide) ?_
                cases h
                exact kb2
              · have h := j_ifn c h
                refine J_aload_n d_M_nextFor_125 rfl ?_
                refine J_get (j := 14) (v := .ref 8) d_M_nextFor_126 (wM_at0 _ _) rfl in_5 (by decide) ts_344 rfl ?_
                refine J_iload d_M_nextFor_129 rfl ?_
                obtain ⟨g, h⟩ := jg_some h
                refine J_zald (f := (a 8)) d_M_nextFor_131 (wM_at8 _ _) (jin_in g) ?_
                refine J_if_eq (tgt := 156) d_M_nextFor_132 (by decide) (fun c => ?_) (fun c => ?_)
                · have h := j_ifp c h
                  refine J_iconst (v := (1 : Int32)) d_M_nextFor_156 (by decide) ?_
                  refine J_goto (tgt := 161) d_M_nextFor_157 (by decide) ?_
                  cases h
                  exact kb2
                · have h := j_ifn c h
                  refine J_aload_n d_M_nextFor_135 rfl ?_
                  refine J_iload d_M_nextFor_136 rfl ?_
                  refine J_iload d_M_nextFor_138 rfl ?_
                  obtain ⟨v16, e15, h⟩ := jb_some h
                  refine J_cVi2 d_M_nextFor_140 (c_M_isDirect l _ _ _ _ _ e15) (wM_at0 _ _) rfl ts_354 ts_good rfl rfl ts_278 ts_355 dy_M_isDirect (by decide) (Nat.le_of_ble_eq_true rfl) ts_356 ts_357 ?_
                  refine J_if_eq (tgt := 156) d_M_nextFor_143 (by decide) (fun c => ?_) (fun c => ?_)
                  · have h := j_ifp c h
                    refine J_iconst (v := (1 : Int32)) d_M_nextFor_156 (by decide) ?_
                    refine J_goto (tgt := 161) d_M_nextFor_157 (by decide) ?_
                    cases h
                    exact kb2
                  · have h := j_ifn c h
                    refine J_aload_n d_M_nextFor_146 rfl ?_
                    refine J_iload d_M_nextFor_147 rfl ?_
                    refine J_iload_n d_M_nextFor_149 rfl ?_
                    obtain ⟨v18, e17, h⟩ := jb_some h
                    refine J_cVi2 d_M_nextFor_150 (c_M_below l _ _ _ _ _ e17) (wM_at0 _ _) rfl ts_291 ts_good rfl rfl ts_278 ts_292 dy_M_below (by decide) (Nat.le_of_ble_eq_true rfl) ts_293 ts_294 ?_
                    refine J_if_eq (tgt := 160) d_M_nextFor_153 (by decide) (fun c => ?_) (fun c => ?_)
                    · have h := j_ifp c h
                      refine J_iconst (v := (0 : Int32)) d_M_nextFor_160 (by decide) ?_
                      cases h
                      exact kb2
                    · have h := j_ifn c h
                      refine J_iconst (v := (1 : Int32)) d_M_nextFor_156 (by decide) ?_
                      refine J_goto (tgt := 161) d_M_nextFor_157 (by decide) ?_
                      cases h
                      exact kb2
        · have h := j_ifn c h
          refine J_aload_n d_M_nextFor_63 rfl ?_
          refine J_iload d_M_nextFor_64 rfl ?_
          refine J_iload d_M_nextFor_66 rfl ?_
          obtain ⟨v20, e19, h⟩ := jb_some h
          refine J_cVi2 d_M_nextFor_68 (c_M_isDirect l _ _ _ _ _ e19) (wM_at0 _ _) rfl ts_354 ts_good rfl rfl ts_278 ts_355 dy_M_isDirect (by decide) (Nat.le_of_ble_eq_true rfl) ts_356 ts_357 ?_
          obtain ⟨b21, hb21, h⟩ := jb_some h
          have kb21 : K_M_nextFor l 89 [some (.ref 0), some (.int c1), some (.int c2), some (.int c3), some (.int c4), some (.int x5), some (.int x6)] [.int b21] (wM s a) (fun v w => v = some (.int r) ∧ w = wM s a) := by
            refine J_istore d_M_nextFor_89 (by decide) ?_
            refine J_goto (tgt := 163) d_M_nextFor_91 (by decide) ?_
            refine J_iinc (v := (x6 + (1 : Int32))) d_M_nextFor_163 rfl (by first | rfl | decide) (by decide) ?_
            refine J_goto (tgt := 45) d_M_nextFor_166 (by decide) ?_
            exact ih _ _ h
          clear h
          have h := hb21
          refine J_if_eq (tgt := 84) d_M_nextFor_71 (by decide) (fun c => ?_) (fun c => ?_)
          · have h := j_ifp c h
            refine J_iconst (v := (1 : Int32)) d_M_nextFor_84 (by decide) ?_
            refine J_goto (tgt := 89) d_M_nextFor_85 (by decide) ?_
            cases h
            exact kb21
          · have h := j_ifn c h
            refine J_aload_n d_M_nextFor_74 rfl ?_
            refine J_iload_n d_M_nextFor_75 rfl ?_
            refine J_iload d_M_nextFor_76 rfl ?_
            obtain ⟨v23, e22, h⟩ := jb_some h
            refine J_cVi2 d_M_nextFor_78 (c_M_below l _ _ _ _ _ e22) (wM_at0 _ _) rfl ts_291 ts_good rfl rfl ts_278 ts_292 dy_M_below (by decide) (Nat.le_of_ble_eq_true rfl) ts_293 ts_294 ?_
            refine J_if_eq (tgt := 88) d_M_nextFor_81 (by decide) (fun c => ?_) (fun c => ?_)
            · have h := j_ifp c h
              refine J_iconst (v := (0 : Int32)) d_M_nextFor_88 (by decide) ?_
              cases h
              exact kb21
            · have h := j_ifn c h
              refine J_iconst (v := (1 : Int32)) d_M_nextFor_84 (by decide) ?_
              refine J_goto (tgt := 89) d_M_nextFor_85 (by decide) ?_
              cases h
              exact kb21
def L_M_nextFor_10 (s : jS) (a : jB) (c1 : Int32) (c2 : Int32) (k187 : Int32 → Option (Int32)) : Nat → Int32 → Int32 → Option (Int32)
  | 0, _, _ => none
  | f + 1, x3, x4 => (if x4 < (0 : Int32) then k187 (x3) else jg (jin x4 20) (jb (if ((a 8) (x4).toNatClampNeg) = (0 : Int32) then some (0 : Int32) else jg (jin x4 20) ((if ((a 9) (x4).toNatClampNeg) = (0 : Int32) then some (1 : Int32) else some (0 : Int32)))) (fun b1 => L_M_nextFor_45 (s) (a) (c1) (c2) (x4) (fun x24 => jb (if x24 = (0 : Int32) then some x3 else some x4) (fun b26 => L_M_nextFor_10 s a c1 c2 k187 f (b26) ((x4 + (-1 : Int32))))) jF (b1) ((0 : Int32)))))
set_option maxRecDepth 100000 in
set_option maxHeartbeats 4000000 in
theorem JL_M_nextFor_10 (l : Launch) (s : jS) (a : jB) (c1 : Int32) (c2 : Int32) (k187 : Int32 → Option (Int32)) (r : Int32) (hk187 : ∀ (x3 : Int32) (o4 : Option Value) (o5 : Option Value) (o6 : Option Value), k187 x3 = some r → K_M_nextFor l 187 [some (.ref 0), some (.int c1), some (.int c2), some (.int x3), o4, o5, o6] [] (wM s a) (fun v w => v = some (.int r) ∧ w = wM s a)) : ∀ (f : Nat), ∀ (x3 : Int32) (x4 : Int32) (o5 : Option Value) (o6 : Option Value), L_M_nextFor_10 s a c1 c2 k187 f x3 x4 = some r → K_M_nextFor l 10 [some (.ref 0), some (.int c1), some (.int c2), some (.int x3), some (.int x4), o5, o6] [] (wM s a) (fun v w => v = some (.int r) ∧ w = wM s a) := by
  intro f
  induction f with
  | zero =>
    intro x3 x4 o5 o6 h
    cases h
  | succ f ih =>
    intro x3 x4 o5 o6 h
    rw [L_M_nextFor_10] at h
    refine J_iload d_M_nextFor_10 rfl ?_
    refine J_if_lt (tgt := 187) d_M_nextFor_12 (by decide) (fun c => ?_) (fun c => ?_)
    · have h := j_ifp c h
      exact hk187 _ _ _ _ h
    · have h := j_ifn c h
      refine J_aload_n d_M_nextFor_15 rfl ?_
      refine J_get (j := 14) (v := .ref 8) d_M_nextFor_16 (wM_at0 _ _) rfl in_5 (by decide) ts_344 rfl ?_
      refine J_iload d_M_nextFor_19 rfl ?_
      obtain ⟨g, h⟩ := jg_some h
      refine J_zald (f := (a 8)) d_M_nextFor_21 (wM_at8 _ _) (jin_in g) ?_
      obtain ⟨b1, hb1, h⟩ := jb_some h
      have kb1 : K_M_nextFor l 40 [some (.ref 0), some (.int c1), some (.int c2), some (.int x3), some (.int x4), o5, o6] [.int b1] (wM s a) (fun v w => v = some (.int r) ∧ w = wM s a) := by
        refine J_istore d_M_nextFor_40 (by decide) ?_
        refine J_iconst (v := (0 : Int32)) d_M_nextFor_42 (by decide) ?_
        refine J_istore d_M_nextFor_43 (by decide) ?_
        refine JL_M_nextFor_45 l _ _ _ _ _ _ _ r (fun x24 o25 h => ?_) jF _ _ h
        refine J_iload d_M_nextFor_169 rfl ?_
        obtain ⟨b26, hb26, h⟩ := jb_some h
        have kb26 : K_M_nextFor l 180 [some (.ref 0), some (.int c1), some (.int c2), some (.int x3), some (.int x4), some (.int x24), o25] [.int b26] (wM s a) (fun v w => v = some (.int r) ∧ w = wM s a) := by
          refine J_istore_n d_M_nextFor_180 (by decide) ?_
          refine J_iinc (v := (x4 + (-1 : Int32))) d_M_nextFor_181 rfl (by first | rfl | decide) (by decide) ?_
          refine J_goto (tgt := 10) d_M_nextFor_184 (by decide) ?_
          exact ih _ _ _ _ h
        clear h
        have h := hb26
        refine J_if_eq (tgt := 179) d_M_nextFor_171 (by decide) (fun c => ?_) (fun c => ?_)
        · have h := j_ifp c h
          refine J_iload_n d_M_nextFor_179 rfl ?_
          cases h
          exact kb26
        · have h := j_ifn c h
          refine J_iload d_M_nextFor_174 rfl ?_
          refine J_goto (tgt := 180) d_M_nextFor_176 (by decide) ?_
          cases h
          exact kb26
      clear h
      have h := hb1
      refine J_if_eq (tgt := 39) d_M_nextFor_22 (by decide) (fun c => ?_) (fun c => ?_)
      · have h := j_ifp c h
        refine J_iconst (v := (0 : Int32)) d_M_nextFor_39 (by decide) ?_
        cases h
        exact kb1
      · have h := j_ifn c h
        refine J_aload_n d_M_nextFor_25 rfl ?_
        refine J_get (j := 15) (v := .ref 9) d_M_nextFor_26 (wM_at0 _ _) rfl in_5 (by decide) ts_349 rfl ?_
        refine J_iload d_M_nextFor_29 rfl ?_
        obtain ⟨g, h⟩ := jg_some h
        refine J_zald (f := (a 9)) d_M_nextFor_31 (wM_at9 _ _) (jin_in g) ?_
        refine J_if_ne (tgt := 39) d_M_nextFor_32 (by decide) (fun c => ?_) (fun c => ?_)
        · have h := j_ifn c h
          refine J_iconst (v := (0 : Int32)) d_M_nextFor_39 (by decide) ?_
          cases h
          exact kb1
        · have h := j_ifp c h
          refine J_iconst (v := (1 : Int32)) d_M_nextFor_35 (by decide) ?_
          refine J_goto (tgt := 40) d_M_nextFor_36 (by decide) ?_
          cases h
          exact kb1
def m_M_nextFor (s : jS) (a : jB) (p0 : Int32) (p1 : Int32) : Option (Int32) := L_M_nextFor_10 (s) (a) (p0) (p1) (fun x27 => some (x27)) jF ((-1 : Int32)) (((s 1) - (1 : Int32)))
set_option maxRecDepth 100000 in
set_option maxHeartbeats 4000000 in
theorem c_M_nextFor (l : Launch) (s : jS) (a : jB) (p0 : Int32) (p1 : Int32) (r : Int32) (h : m_M_nextFor s a p0 p1 = some r) : JMet l vwCl NsG (.code y_M_nextFor prog_7_method_28_code 7 (some .int) :: TsG) y_M_nextFor rm_M_nextFor [.ref 0, .int p0, .int p1] (wM s a) (fun v w => v = some (.int r) ∧ w = wM s a) := by
  refine J_enter (by decide +kernel) rfl (Nat.le_of_ble_eq_true rfl) ?_
  unfold m_M_nextFor at h
  refine J_eq (ls' := [some (.ref 0), some (.int p0), some (.int p1), none, none, none, none]) rfl rfl rfl rfl ?_
  refine J_iconst (v := (-1 : Int32)) d_M_nextFor_0 (by decide) ?_
  refine J_istore_n d_M_nextFor_1 (by decide) ?_
  refine J_aload_n d_M_nextFor_2 rfl ?_
  refine J_get (j := 1) (v := .int (s 1)) d_M_nextFor_3 (wM_at0 _ _) rfl in_5 (by decide) ts_270 rfl ?_
  refine J_iconst (v := (1 : Int32)) d_M_nextFor_6 (by decide) ?_
  refine J_isub d_M_nextFor_7 ?_
  refine J_istore d_M_nextFor_8 (by decide) ?_
  refine JL_M_nextFor_10 l _ _ _ _ _ r (fun x27 o28 o29 o30 h => ?_) jF _ _ _ _ h
  refine J_iload_n d_M_nextFor_187 rfl ?_
  exact J_iret d_M_nextFor_188 rfl rfl (by cases h; exact ⟨rfl, rfl⟩)
abbrev rm_M_go : Room := { frames := 5, cells := 0, slots := 0, locals := 115 }
abbrev K_M_go (l : Launch) := JW l vwCl NsG TsG "ClassifySortModel" prog_7_method_29_code 5 none rm_M_go
def L_M_go_2 (k21 : jS → jB → Option (jS × jB)) : Nat → jS → jB → Int32 → Option (jS × jB)
  | 0, _, _, _ => none
  | f + 1, s, a, x3 => (if (20 : Int32) ≤ x3 then k21 (s) (a) else jg (jin x3 20) (L_M_go_2 k21 f (s) ((va_up a 9 (upd (a 9) (x3).toNatClampNeg (0 : Int32)))) ((x3 + (1 : Int32)))))
set_option maxRecDepth 100000 in
set_option maxHeartbeats 4000000 in
theorem JL_M_go_2 (l : Launch) (c1 : Int32) (c2 : Int32) (k21 : jS → jB → Option (jS × jB)) (r : jS × jB) (hk21 : ∀ (s : jS) (a : jB) (o3 : Option Value) (o4 : Option Value), k21 s a = some r → K_M_go l 21 [some (.ref 0), some (.int c1), some (.int c2), o3, o4] [] (wM s a) (fun v w => v = none ∧ w = wM r.1 r.2)) : ∀ (f : Nat), ∀ (s : jS) (a : jB) (x3 : Int32) (o4 : Option Value), L_M_go_2 k21 f s a x3 = some r → K_M_go l 2 [some (.ref 0), some (.int c1), some (.int c2), some (.int x3), o4] [] (wM s a) (fun v w => v = none ∧ w = wM r.1 r.2) := by
  intro f
  induction f with
  | zero =>
    intro s a x3 o4 h
    cases h
  | succ f ih =>
    intro s a x3 o4 h
    rw [L_M_go_2] at h
    refine J_iload_n d_M_go_2 rfl ?_
    refine J_bipush (v := (20 : Int32)) d_M_go_3 (by decide) ?_
    refine J_icmp_ge (tgt := 21) d_M_go_5 (by decide) (fun c => ?_) (fun c => ?_)
    · have h := j_ifp c h
      exact hk21 _ _ _ _ h
    · have h := j_ifn c h
      refine J_aload_n d_M_go_8 rfl ?_
      refine J_get (j := 15) (v := .ref 9) d_M_go_9 (wM_at0 _ _) rfl in_5 (by decide) ts_349 rfl ?_
      refine J_iload_n d_M_go_12 rfl ?_
      refine J_iconst (v := (0 : Int32)) d_M_go_13 (by decide) ?_
      obtain ⟨g, h⟩ := jg_some h
      refine J_zast (f := (a 9)) d_M_go_14 (wM_at9 _ _) (jin_in g) ?_
      refine J_eq (ws' := wM s (va_up a 9 (upd (a 9) (x3).toNatClampNeg (0 : Int32)))) rfl rfl rfl (wM_ast9 _ _ _) ?_
      refine J_iinc (v := (x3 + (1 : Int32))) d_M_go_15 rfl (by first | rfl | decide) (by decide) ?_
      refine J_goto (tgt := 2) d_M_go_18 (by decide) ?_
      exact ih _ _ _ _ h
def L_M_go_28 (c1 : Int32) (c2 : Int32) (k70 : jS → jB → Option (jS × jB)) : Nat → jS → jB → Int32 → Option (jS × jB)
  | 0, _, _, _ => none
  | f + 1, s, a, x3 => (if x3 < (0 : Int32) then k70 (s) (a) else jg (jin x3 20) ((if c2 = (0 : Int32) then jb3 (m_M_look s (va_up a 9 (upd (a 9) (x3).toNatClampNeg (1 : Int32))) x3 c1) (fun v10 s8 a9 => jb (m_M_nextFor s8 a9 c1 c2) (fun v12 => L_M_go_28 c1 c2 k70 f (s8) (a9) (v12))) else jb3 (m_M_look s (va_up a 9 (upd (a 9) (x3).toNatClampNeg (1 : Int32))) c1 x3) (fun v16 s14 a15 => jb (m_M_nextFor s14 a15 c1 c2) (fun v18 => L_M_go_28 c1 c2 k70 f (s14) (a15) (v18))))))
set_option maxRecDepth 100000 in
set_option maxHeartbeats 4000000 in
theorem JL_M_go_28 (l : Launch) (c1 : Int32) (c2 : Int32) (k70 : jS → jB → Option (jS × jB)) (r : jS × jB) (hk70 : ∀ (s : jS) (a : jB) (o3 : Option Value) (o4 : Option Value), k70 s a = some r → K_M_go l 70 [some (.ref 0), some (.int c1), some (.int c2), o3, o4] [] (wM s a) (fun v w => v = none ∧ w = wM r.1 r.2)) : ∀ (f : Nat), ∀ (s : jS) (a : jB) (x3 : Int32) (o4 : Option Value), L_M_go_28 c1 c2 k70 f s a x3 = some r → K_M_go l 28 [some (.ref 0), some (.int c1), some (.int c2), some (.int x3), o4] [] (wM s a) (fun v w => v = none ∧ w = wM r.1 r.2) := by
  intro f
  induction f with
  | zero =>
    intro s a x3 o4 h
    cases h
  | succ f ih =>
    intro s a x3 o4 h
    rw [L_M_go_28] at h
    refine J_iload_n d_M_go_28 rfl ?_
    refine J_if_lt (tgt := 70) d_M_go_29 (by decide) (fun c => ?_) (fun c => ?_)
    · have h := j_ifp c h
      exact hk70 _ _ _ _ h
    · have h := j_ifn c h
      refine J_aload_n d_M_go_32 rfl ?_
      refine J_get (j := 15) (v := .ref 9) d_M_go_33 (wM_at0 _ _) rfl in_5 (by decide) ts_349 rfl ?_
      refine J_iload_n d_M_go_36 rfl ?_
      refine J_iconst (v := (1 : Int32)) d_M_go_37 (by decide) ?_
      obtain ⟨g, h⟩ := jg_some h
      refine J_zast (f := (a 9)) d_M_go_38 (wM_at9 _ _) (jin_in g) ?_
      refine J_eq (ws' := wM s (va_up a 9 (upd (a 9) (x3).toNatClampNeg (1 : Int32)))) rfl rfl rfl (wM_ast9 _ _ _) ?_
      refine J_iload_n d_M_go_39 rfl ?_
      refine J_if_eq (tgt := 52) d_M_go_40 (by decide) (fun c => ?_) (fun c => ?_)
      · have h := j_ifp c h
        refine J_aload_n d_M_go_52 rfl ?_
        refine J_iload_n d_M_go_53 rfl ?_
        refine J_iload_n d_M_go_54 rfl ?_
        obtain ⟨v10, s8, a9, e7, h⟩ := jb3_some h
        refine J_cVi2 d_M_go_55 (c_M_look l _ _ _ _ _ e7) (wM_at0 _ _) rfl ts_345 ts_good rfl rfl ts_278 ts_346 dy_M_look (by decide) (Nat.le_of_ble_eq_true rfl) ts_347 ts_348 ?_
        refine J_istore d_M_go_58 (by decide) ?_
        refine J_aload_n d_M_go_60 rfl ?_
        refine J_iload_n d_M_go_61 rfl ?_
        refine J_iload_n d_M_go_62 rfl ?_
        obtain ⟨v12, e11, h⟩ := jb_some h
        refine J_cVi2 d_M_go_63 (c_M_nextFor l _ _ _ _ _ e11) (wM_at0 _ _) rfl ts_358 ts_good rfl rfl ts_278 ts_359 dy_M_nextFor (by decide) (Nat.le_of_ble_eq_true rfl) ts_360 ts_361 ?_
        refine J_istore_n d_M_go_66 (by decide) ?_
        refine J_goto (tgt := 28) d_M_go_67 (by decide) ?_
        exact ih _ _ _ _ h
      · have h := j_ifn c h
        refine J_aload_n d_M_go_43 rfl ?_
        refine J_iload_n d_M_go_44 rfl ?_
        refine J_iload_n d_M_go_45 rfl ?_
        obtain ⟨v16, s14, a15, e13, h⟩ := jb3_some h
        refine J_cVi2 d_M_go_46 (c_M_look l _ _ _ _ _ e13) (wM_at0 _ _) rfl ts_345 ts_good rfl rfl ts_278 ts_346 dy_M_look (by decide) (Nat.le_of_ble_eq_true rfl) ts_347 ts_348 ?_
        refine J_goto (tgt := 58) d_M_go_49 (by decide) ?_
        refine J_istore d_M_go_58 (by decide) ?_
        refine J_aload_n d_M_go_60 rfl ?_
        refine J_iload_n d_M_go_61 rfl ?_
        refine J_iload_n d_M_go_62 rfl ?_
        obtain ⟨v18, e17, h⟩ := jb_some h
        refine J_cVi2 d_M_go_63 (c_M_nextFor l _ _ _ _ _ e17) (wM_at0 _ _) rfl ts_358 ts_good rfl rfl ts_278 ts_359 dy_M_nextFor (by decide) (Nat.le_of_ble_eq_true rfl) ts_360 ts_361 ?_
        refine J_istore_n d_M_go_66 (by decide) ?_
        refine J_goto (tgt := 28) d_M_go_67 (by decide) ?_
        exact ih _ _ _ _ h
def m_M_go (s : jS) (a : jB) (p0 : Int32) (p1 : Int32) : Option (jS × jB) := L_M_go_2 (fun s1 a2 => jb (m_M_nextFor s1 a2 p0 p1) (fun v6 => L_M_go_28 (p0) (p1) (fun s19 a20 => some (s19, a20)) jF (s1) (a2) (v6))) jF (s) (a) ((0 : Int32))
set_option maxRecDepth 100000 in
set_option maxHeartbeats 4000000 in
theorem c_M_go (l : Launch) (s : jS) (a : jB) (p0 : Int32) (p1 : Int32) (r : jS × jB) (h : m_M_go s a p0 p1 = some r) : JMet l vwCl NsG (.code y_M_go prog_7_method_29_code 5 none :: TsG) y_M_go rm_M_go [.ref 0, .int p0, .int p1] (wM s a) (fun v w => v = none ∧ w = wM r.1 r.2) := by
  refine J_enter (by decide +kernel) rfl (Nat.le_of_ble_eq_true rfl) ?_
  unfold m_M_go at h
  refine J_eq (ls' := [some (.ref 0), some (.int p0), some (.int p1), none, none]) rfl rfl rfl rfl ?_
  refine J_iconst (v := (0 : Int32)) d_M_go_0 (by decide) ?_
  refine J_istore_n d_M_go_1 (by decide) ?_
  refine JL_M_go_2 l _ _ _ r (fun s1 a2 o3 o4 h => ?_) jF _ _ _ _ h
  refine J_aload_n d_M_go_21 rfl ?_
  refine J_iload_n d_M_go_22 rfl ?_
  refine J_iload_n d_M_go_23 rfl ?_
  obtain ⟨v6, e5, h⟩ := jb_some h
  refine J_cVi2 d_M_go_24 (c_M_nextFor l _ _ _ _ _ e5) (wM_at0 _ _) rfl ts_358 ts_good rfl rfl ts_278 ts_359 dy_M_nextFor (by decide) (Nat.le_of_ble_eq_true rfl) ts_360 ts_361 ?_
  refine J_istore_n d_M_go_27 (by decide) ?_
  refine JL_M_go_28 l _ _ _ r (fun s19 a20 o21 o22 h => ?_) jF _ _ _ _ h
  exact J_vret d_M_go_70 rfl (by cases h; exact ⟨rfl, rfl⟩)
abbrev rm_M_run : Room := { frames := 6, cells := 0, slots := 0, locals := 139 }
abbrev K_M_run (l : Launch) := JW l vwCl NsG TsG "ClassifySortModel" prog_7_method_30_code 2 (some .int) rm_M_run
def L_M_run_7 (k26 : jS → jB → Option (Int32 × jS × jB)) : Nat → jS → jB → Int32 → Option (Int32 × jS × jB)
  | 0, _, _, _ => none
  | f + 1, s, a, x1 => (if (20 : Int32) ≤ x1 then k26 (s) (a) else jg (jin x1 20) (L_M_run_7 k26 f (s) ((va_up a 8 (upd (a 8) (x1).toNatClampNeg (0 : Int32)))) ((x1 + (1 : Int32)))))
set_option maxRecDepth 100000 in
set_option maxHeartbeats 4000000 in
theorem JL_M_run_7 (l : Launch) (k26 : jS → jB → Option (Int32 × jS × jB)) (r : Int32 × jS × jB) (hk26 : ∀ (s : jS) (a : jB) (o1 : Option Value), k26 s a = some r → K_M_run l 26 [some (.ref 0), o1] [] (wM s a) (fun v w => v = some (.int r.1) ∧ w = wM r.2.1 r.2.2)) : ∀ (f : Nat), ∀ (s : jS) (a : jB) (x1 : Int32), L_M_run_7 k26 f s a x1 = some r → K_M_run l 7 [some (.ref 0), some (.int x1)] [] (wM s a) (fun v w => v = some (.int r.1) ∧ w = wM r.2.1 r.2.2) := by
  intro f
  induction f with
  | zero =>
    intro s a x1 h
    cases h
  | succ f ih =>
    intro s a x1 h
    rw [L_M_run_7] at h
    refine J_iload_n d_M_run_7 rfl ?_
    refine J_bipush (v := (20 : Int32)) d_M_run_8 (by decide) ?_
    refine J_icmp_ge (tgt := 26) d_M_run_10 (by decide) (fun c => ?_) (fun c => ?_)
    · have h := j_ifp c h
      exact hk26 _ _ _ h
    · have h := j_ifn c h
      refine J_aload_n d_M_run_13 rfl ?_
      refine J_get (j := 14) (v := .ref 8) d_M_run_14 (wM_at0 _ _) rfl in_5 (by decide) ts_344 rfl ?_
      refine J_iload_n d_M_run_17 rfl ?_
      refine J_iconst (v := (0 : Int32)) d_M_run_18 (by decide) ?_
      obtain ⟨g, h⟩ := jg_some h
      refine J_zast (f := (a 8)) d_M_run_19 (wM_at8 _ _) (jin_in g) ?_
      refine J_eq (ws' := wM s (va_up a 8 (upd (a 8) (x1).toNatClampNeg (0 : Int32)))) rfl rfl rfl (wM_ast8 _ _ _) ?_
      refine J_iinc (v := (x1 + (1 : Int32))) d_M_run_20 rfl (by first | rfl | decide) (by decide) ?_
      refine J_goto (tgt := 7) d_M_run_23 (by decide) ?_
      exact ih _ _ _ h
def L_M_run_28 (k71 : jS → jB → Option (Int32 × jS × jB)) : Nat → jS → jB → Int32 → Option (Int32 × jS × jB)
  | 0, _, _, _ => none
  | f + 1, s, a, x1 => (if (s 1) ≤ x1 then k71 (s) (a) else jb3 (m_M_look s a x1 (20 : Int32)) (fun v7 s5 a6 => (if v7 = (0 : Int32) then jb2 (m_M_go s5 a6 x1 (1 : Int32)) (fun s9 a10 => jb2 (m_M_go s9 a10 x1 (0 : Int32)) (fun s12 a13 => jg (jin x1 20) (L_M_run_28 k71 f (s12) ((va_up a13 8 (upd (a13 8) (x1).toNatClampNeg (1 : Int32)))) ((x1 + (1 : Int32)))))) else L_M_run_28 k71 f (s5) (a6) ((x1 + (1 : Int32))))))
set_option maxRecDepth 100000 in
set_option maxHeartbeats 4000000 in
theorem JL_M_run_28 (l : Launch) (k71 : jS → jB → Option (Int32 × jS × jB)) (r : Int32 × jS × jB) (hk71 : ∀ (s : jS) (a : jB) (o1 : Option Value), k71 s a = some r → K_M_run l 71 [some (.ref 0), o1] [] (wM s a) (fun v w => v = some (.int r.1) ∧ w = wM r.2.1 r.2.2)) : ∀ (f : Nat), ∀ (s : jS) (a : jB) (x1 : Int32), L_M_run_28 k71 f s a x1 = some r → K_M_run l 28 [some (.ref 0), some (.int x1)] [] (wM s a) (fun v w => v = some (.int r.1) ∧ w = wM r.2.1 r.2.2) := by
  intro f
  induction f with
  | zero =>
    intro s a x1 h
    cases h
  | succ f ih =>
    intro s a x1 h
    rw [L_M_run_28] at h
    refine J_iload_n d_M_run_28 rfl ?_
    refine J_aload_n d_M_run_29 rfl ?_
    refine J_get (j := 1) (v := .int (s 1)) d_M_run_30 (wM_at0 _ _) rfl in_5 (by decide) ts_270 rfl ?_
    refine J_icmp_ge (tgt := 71) d_M_run_33 (by decide) (fun c => ?_) (fun c => ?_)
    · have h := j_ifp c h
      exact hk71 _ _ _ h
    · have h := j_ifn c h
      refine J_aload_n d_M_run_36 rfl ?_
      refine J_iload_n d_M_run_37 rfl ?_
      refine J_bipush (v := (20 : Int32)) d_M_run_38 (by decide) ?_
      obtain ⟨v7, s5, a6, e4, h⟩ := jb3_some h
      refine J_cVi2 d_M_run_40 (c_M_look l _ _ _ _ _ e4) (wM_at0 _ _) rfl ts_345 ts_good rfl rfl ts_278 ts_346 dy_M_look (by decide) (Nat.le_of_ble_eq_true rfl) ts_347 ts_348 ?_
      refine J_if_ne (tgt := 65) d_M_run_43 (by decide) (fun c => ?_) (fun c => ?_)
      · have h := j_ifn c h
        refine J_iinc (v := (x1 + (1 : Int32))) d_M_run_65 rfl (by first | rfl | decide) (by decide) ?_
        refine J_goto (tgt := 28) d_M_run_68 (by decide) ?_
        exact ih _ _ _ h
      · have h := j_ifp c h
        refine J_aload_n d_M_run_46 rfl ?_
        refine J_iload_n d_M_run_47 rfl ?_
        refine J_iconst (v := (1 : Int32)) d_M_run_48 (by decide) ?_
        obtain ⟨s9, a10, e8, h⟩ := jb2_some h
        refine J_cVv2 d_M_run_49 (c_M_go l _ _ _ _ _ e8) (wM_at0 _ _) rfl ts_362 ts_good rfl rfl ts_278 ts_363 dy_M_go (by decide) (Nat.le_of_ble_eq_true rfl) ts_364 ts_365 ?_
        refine J_aload_n d_M_run_52 rfl ?_
        refine J_iload_n d_M_run_53 rfl ?_
        refine J_iconst (v := (0 : Int32)) d_M_run_54 (by decide) ?_
        obtain ⟨s12, a13, e11, h⟩ := jb2_some h
        refine J_cVv2 d_M_run_55 (c_M_go l _ _ _ _ _ e11) (wM_at0 _ _) rfl ts_362 ts_good rfl rfl ts_278 ts_363 dy_M_go (by decide) (Nat.le_of_ble_eq_true rfl) ts_364 ts_365 ?_
        refine J_aload_n d_M_run_58 rfl ?_
        refine J_get (j := 14) (v := .ref 8) d_M_run_59 (wM_at0 _ _) rfl in_5 (by decide) ts_344 rfl ?_
        refine J_iload_n d_M_run_62 rfl ?_
        refine J_iconst (v := (1 : Int32)) d_M_run_63 (by decide) ?_
        obtain ⟨g, h⟩ := jg_some h
        refine J_zast (f := (a13 8)) d_M_run_64 (wM_at8 _ _) (jin_in g) ?_
        refine J_eq (ws' := wM s12 (va_up a13 8 (upd (a13 8) (x1).toNatClampNeg (1 : Int32)))) rfl rfl rfl (wM_ast8 _ _ _) ?_
        refine J_iinc (v := (x1 + (1 : Int32))) d_M_run_65 rfl (by first | rfl | decide) (by decide) ?_
        refine J_goto (tgt := 28) d_M_run_68 (by decide) ?_
        exact ih _ _ _ h
def m_M_run (s : jS) (a : jB) : Option (Int32 × jS × jB) := L_M_run_7 (fun s1 a2 => L_M_run_28 (fun s14 a15 => some (((upd (upd s14 6 (1 : Int32)) 5 (((upd s14 6 (1 : Int32)) 5) + ((upd s14 6 (1 : Int32)) 8))) 8), (upd (upd s14 6 (1 : Int32)) 5 (((upd s14 6 (1 : Int32)) 5) + ((upd s14 6 (1 : Int32)) 8))), a15)) jF (s1) (a2) ((0 : Int32))) jF ((upd s 8 (0 : Int32))) (a) ((0 : Int32))
set_option maxRecDepth 100000 in
set_option maxHeartbeats 4000000 in
theorem c_M_run (l : Launch) (s : jS) (a : jB) (r : Int32 × jS × jB) (h : m_M_run s a = some r) : JMet l vwCl NsG (.code y_M_run prog_7_method_30_code 2 (some .int) :: TsG) y_M_run rm_M_run [.ref 0] (wM s a) (fun v w => v = some (.int r.1) ∧ w = wM r.2.1 r.2.2) := by
  refine J_enter (by decide +kernel) rfl (Nat.le_of_ble_eq_true rfl) ?_
  unfold m_M_run at h
  refine J_eq (ls' := [some (.ref 0), none]) rfl rfl rfl rfl ?_
  refine J_aload_n d_M_run_0 rfl ?_
  refine J_iconst (v := (0 : Int32)) d_M_run_1 (by decide) ?_
  refine J_put (j := 22) d_M_run_2 (wM_at0 _ _) rfl in_5 ty_M tyok_M nok_M (by decide) ts_343 rfl (tyok_M 22 (by decide)) rfl rfl (Nat.le_of_ble_eq_true rfl) ?_
  refine J_eq rfl rfl rfl (wM_put8 _ _ _) ?_
  refine J_iconst (v := (0 : Int32)) d_M_run_5 (by decide) ?_
  refine J_istore_n d_M_run_6 (by decide) ?_
  refine JL_M_run_7 l _ r (fun s1 a2 o3 h => ?_) jF _ _ _ h
  refine J_iconst (v := (0 : Int32)) d_M_run_26 (by decide) ?_
  refine J_istore_n d_M_run_27 (by decide) ?_
  refine JL_M_run_28 l _ r (fun s14 a15 o16 h => ?_) jF _ _ _ h
  refine J_aload_n d_M_run_71 rfl ?_
  refine J_iconst (v := (1 : Int32)) d_M_run_72 (by decide) ?_
  refine J_put (j := 6) d_M_run_73 (wM_at0 _ _) rfl in_5 ty_M tyok_M nok_M (by decide) ts_271 rfl (tyok_M 6 (by decide)) (by decide) (by decide) (Nat.le_of_ble_eq_true rfl) ?_
  refine J_eq rfl rfl rfl (wM_put6 _ _ _) ?_
  refine J_aload_n d_M_run_76 rfl ?_
  refine J_dup d_M_run_77 rfl ?_
  refine J_get (j := 5) (v := .int ((upd s14 6 (1 : Int32)) 5)) d_M_run_78 (wM_at0 _ _) rfl in_5 (by decide) ts_366 rfl ?_
  refine J_aload_n d_M_run_81 rfl ?_
  refine J_get (j := 22) (v := .int ((upd s14 6 (1 : Int32)) 8)) d_M_run_82 (wM_at0 _ _) rfl in_5 (by decide) ts_343 rfl ?_
  refine J_iadd d_M_run_85 ?_
  refine J_put (j := 5) d_M_run_86 (wM_at0 _ _) rfl in_5 ty_M tyok_M nok_M (by decide) ts_366 rfl (tyok_M 5 (by decide)) rfl rfl (Nat.le_of_ble_eq_true rfl) ?_
  refine J_eq rfl rfl rfl (wM_put5 _ _ _) ?_
  refine J_aload_n d_M_run_89 rfl ?_
  refine J_get (j := 22) (v := .int ((upd (upd s14 6 (1 : Int32)) 5 (((upd s14 6 (1 : Int32)) 5) + ((upd s14 6 (1 : Int32)) 8))) 8)) d_M_run_90 (wM_at0 _ _) rfl in_5 (by decide) ts_343 rfl ?_
  exact J_iret d_M_run_93 rfl rfl (by cases h; exact ⟨rfl, rfl⟩)
abbrev rm_M_isSecond : Room := { frames := 1, cells := 0, slots := 0, locals := 22 }
abbrev K_M_isSecond (l : Launch) := JW l vwCl NsG TsG "ClassifySortModel" prog_7_method_31_code 4 (some .boolean) rm_M_isSecond
def L_M_isSecond_4 (s : jS) (a : jB) (c1 : Int32) (k52 : Int32 → Option (Int32)) : Nat → Int32 → Int32 → Option (Int32)
  | 0, _, _ => none
  | f + 1, x2, x3 => (if c1 ≤ x3 then k52 (x2) else jb (if x2 = (0 : Int32) then jg (jin x3 20) ((if ((a 8) (x3).toNatClampNeg) = (0 : Int32) then some (0 : Int32) else jb (m_M_below s a x3 c1) (fun v3 => (if v3 = (0 : Int32) then some (0 : Int32) else jb (m_M_below s a c1 x3) (fun v5 => (if v5 = (0 : Int32) then some (0 : Int32) else some (1 : Int32))))))) else some (1 : Int32)) (fun b1 => L_M_isSecond_4 s a c1 k52 f (b1) ((x3 + (1 : Int32)))))
set_option maxRecDepth 100000 in
set_option maxHeartbeats 4000000 in
theorem JL_M_isSecond_4 (l : Launch) (s : jS) (a : jB) (c1 : Int32) (k52 : Int32 → Option (Int32)) (r : Int32) (hk52 : ∀ (x2 : Int32) (o3 : Option Value), k52 x2 = some r → K_M_isSecond l 52 [some (.ref 0), some (.int c1), some (.int x2), o3] [] (wM s a) (fun v w => v = some (.int r) ∧ w = wM s a)) : ∀ (f : Nat), ∀ (x2 : Int32) (x3 : Int32), L_M_isSecond_4 s a c1 k52 f x2 x3 = some r → K_M_isSecond l 4 [some (.ref 0), some (.int c1), some (.int x2), some (.int x3)] [] (wM s a) (fun v w => v = some (.int r) ∧ w = wM s a) := by
  intro f
  induction f with
  | zero =>
    intro x2 x3 h
    cases h
  | succ f ih =>
    intro x2 x3 h
    rw [L_M_isSecond_4] at h
    refine J_iload_n d_M_isSecond_4 rfl ?_
    refine J_iload_n d_M_isSecond_5 rfl ?_
    refine J_icmp_ge (tgt := 52) d_M_isSecond_6 (by decide) (fun c => ?_) (fun c => ?_)
    · have h := j_ifp c h
      exact hk52 _ _ h
    · have h := j_ifn c h
      refine J_iload_n d_M_isSecond_9 rfl ?_
      obtain ⟨b1, hb1, h⟩ := jb_some h
      have kb1 : K_M_isSecond l 45 [some (.ref 0), some (.int c1), some (.int x2), some (.int x3)] [.int b1] (wM s a) (fun v w => v = some (.int r) ∧ w = wM s a) := by
        refine J_istore_n d_M_isSecond_45 (by decide) ?_
        refine J_iinc (v := (x3 + (1 : Int32))) d_M_isSecond_46 rfl (by first | rfl | decide) (by decide) ?_
        refine J_goto (tgt := 4) d_M_isSecond_49 (by decide) ?_
        exact ih _ _ h
      clear h
      have h := hb1
      refine J_if_ne (tgt := 40) d_M_isSecond_10 (by decide) (fun c => ?_) (fun c => ?_)
      · have h := j_ifn c h
        refine J_iconst (v := (1 : Int32)) d_M_isSecond_40 (by decide) ?_
        refine J_goto (tgt := 45) d_M_isSecond_41 (by decide) ?_
        cases h
        exact kb1
      · have h := j_ifp c h
        refine J_aload_n d_M_isSecond_13 rfl ?_
        refine J_get (j := 14) (v := .ref 8) d_M_isSecond_14 (wM_at0 _ _) rfl in_5 (by decide) ts_344 rfl ?_
        refine J_iload_n d_M_isSecond_17 rfl ?_
        obtain ⟨g, h⟩ := jg_some h
        refine J_zald (f := (a 8)) d_M_isSecond_18 (wM_at8 _ _) (jin_in g) ?_
        refine J_if_eq (tgt := 44) d_M_isSecond_19 (by decide) (fun c => ?_) (fun c => ?_)
        · have h := j_ifp c h
          refine J_iconst (v := (0 : Int32)) d_M_isSecond_44 (by decide) ?_
          cases h
          exact kb1
        · have h := j_ifn c h
          refine J_aload_n d_M_isSecond_22 rfl ?_
          refine J_iload_n d_M_isSecond_23 rfl ?_
          refine J_iload_n d_M_isSecond_24 rfl ?_
          obtain ⟨v3, e2, h⟩ := jb_some h
          refine J_cVi2 d_M_isSecond_25 (c_M_below l _ _ _ _ _ e2) (wM_at0 _ _) rfl ts_291 ts_good rfl rfl ts_278 ts_292 dy_M_below (by decide) (Nat.le_of_ble_eq_true rfl) ts_293 ts_294 ?_
          refine J_if_eq (tgt := 44) d_M_isSecond_28 (by decide) (fun c => ?_) (fun c => ?_)
          · have h := j_ifp c h
            refine J_iconst (v := (0 : Int32)) d_M_isSecond_44 (by decide) ?_
            cases h
            exact kb1
          · have h := j_ifn c h
            refine J_aload_n d_M_isSecond_31 rfl ?_
            refine J_iload_n d_M_isSecond_32 rfl ?_
            refine J_iload_n d_M_isSecond_33 rfl ?_
            obtain ⟨v5, e4, h⟩ := jb_some h
            refine J_cVi2 d_M_isSecond_34 (c_M_below l _ _ _ _ _ e4) (wM_at0 _ _) rfl ts_291 ts_good rfl rfl ts_278 ts_292 dy_M_below (by decide) (Nat.le_of_ble_eq_true rfl) ts_293 ts_294 ?_
            refine J_if_eq (tgt := 44) d_M_isSecond_37 (by decide) (fun c => ?_) (fun c => ?_)
            · have h := j_ifp c h
              refine J_iconst (v := (0 : Int32)) d_M_isSecond_44 (by decide) ?_
              cases h
              exact kb1
            · have h := j_ifn c h
              refine J_iconst (v := (1 : Int32)) d_M_isSecond_40 (by decide) ?_
              refine J_goto (tgt := 45) d_M_isSecond_41 (by decide) ?_
              cases h
              exact kb1
def m_M_isSecond (s : jS) (a : jB) (p0 : Int32) : Option (Int32) := L_M_isSecond_4 (s) (a) (p0) (fun x6 => jg (jz x6) (some (x6))) jF ((0 : Int32)) ((0 : Int32))
set_option maxRecDepth 100000 in
set_option maxHeartbeats 4000000 in
theorem c_M_isSecond (l : Launch) (s : jS) (a : jB) (p0 : Int32) (r : Int32) (h : m_M_isSecond s a p0 = some r) : JMet l vwCl NsG (.code y_M_isSecond prog_7_method_31_code 4 (some .boolean) :: TsG) y_M_isSecond rm_M_isSecond [.ref 0, .int p0] (wM s a) (fun v w => v = some (.int r) ∧ w = wM s a) := by
  refine J_enter (by decide +kernel) rfl (Nat.le_of_ble_eq_true rfl) ?_
  unfold m_M_isSecond at h
  refine J_eq (ls' := [some (.ref 0), some (.int p0), none, none]) rfl rfl rfl rfl ?_
  refine J_iconst (v := (0 : Int32)) d_M_isSecond_0 (by decide) ?_
  refine J_istore_n d_M_isSecond_1 (by decide) ?_
  refine J_iconst (v := (0 : Int32)) d_M_isSecond_2 (by decide) ?_
  refine J_istore_n d_M_isSecond_3 (by decide) ?_
  refine JL_M_isSecond_4 l _ _ _ _ r (fun x6 o7 h => ?_) jF _ _ h
  refine J_iload_n d_M_isSecond_52 rfl ?_
  obtain ⟨g, h⟩ := jg_some h
  exact J_iret d_M_isSecond_53 rfl (jz_nar g) (by cases h; exact ⟨rfl, rfl⟩)
abbrev rm_M_hasBelow : Room := { frames := 3, cells := 0, slots := 0, locals := 68 }
abbrev K_M_hasBelow (l : Launch) := JW l vwCl NsG TsG "ClassifySortModel" prog_7_method_32_code 4 (some .boolean) rm_M_hasBelow
def L_M_hasBelow_4 (s : jS) (a : jB) (c1 : Int32) (k46 : Int32 → Option (Int32)) : Nat → Int32 → Int32 → Option (Int32)
  | 0, _, _ => none
  | f + 1, x2, x3 => (if (s 1) ≤ x3 then k46 (x2) else jb (if x2 = (0 : Int32) then jg (jin x3 20) ((if ((a 8) (x3).toNatClampNeg) = (0 : Int32) then some (0 : Int32) else jb (m_M_isDirect s a x3 c1) (fun v3 => (if v3 = (0 : Int32) then some (0 : Int32) else some (1 : Int32))))) else some (1 : Int32)) (fun b1 => L_M_hasBelow_4 s a c1 k46 f (b1) ((x3 + (1 : Int32)))))
set_option maxRecDepth 100000 in
set_option maxHeartbeats 4000000 in
theorem JL_M_hasBelow_4 (l : Launch) (s : jS) (a : jB) (c1 : Int32) (k46 : Int32 → Option (Int32)) (r : Int32) (hk46 : ∀ (x2 : Int32) (o3 : Option Value), k46 x2 = some r → K_M_hasBelow l 46 [some (.ref 0), some (.int c1), some (.int x2), o3] [] (wM s a) (fun v w => v = some (.int r) ∧ w = wM s a)) : ∀ (f : Nat), ∀ (x2 : Int32) (x3 : Int32), L_M_hasBelow_4 s a c1 k46 f x2 x3 = some r → K_M_hasBelow l 4 [some (.ref 0), some (.int c1), some (.int x2), some (.int x3)] [] (wM s a) (fun v w => v = some (.int r) ∧ w = wM s a) := by
  intro f
  induction f with
  | zero =>
    intro x2 x3 h
    cases h
  | succ f ih =>
    intro x2 x3 h
    rw [L_M_hasBelow_4] at h
    refine J_iload_n d_M_hasBelow_4 rfl ?_
    refine J_aload_n d_M_hasBelow_5 rfl ?_
    refine J_get (j := 1) (v := .int (s 1)) d_M_hasBelow_6 (wM_at0 _ _) rfl in_5 (by decide) ts_270 rfl ?_
    refine J_icmp_ge (tgt := 46) d_M_hasBelow_9 (by decide) (fun c => ?_) (fun c => ?_)
    · have h := j_ifp c h
      exact hk46 _ _ h
    · have h := j_ifn c h
      refine J_iload_n d_M_hasBelow_12 rfl ?_
      obtain ⟨b1, hb1, h⟩ := jb_some h
      have kb1 : K_M_hasBelow l 39 [some (.ref 0), some (.int c1), some (.int x2), some (.int x3)] [.int b1] (wM s a) (fun v w => v = some (.int r) ∧ w = wM s a) := by
        refine J_istore_n d_M_hasBelow_39 (by decide) ?_
        refine J_iinc (v := (x3 + (1 : Int32))) d_M_hasBelow_40 rfl (by first | rfl | decide) (by decide) ?_
        refine J_goto (tgt := 4) d_M_hasBelow_43 (by decide) ?_
        exact ih _ _ h
      clear h
      have h := hb1
      refine J_if_ne (tgt := 34) d_M_hasBelow_13 (by decide) (fun c => ?_) (fun c => ?_)
      · have h := j_ifn c h
        refine J_iconst (v := (1 : Int32)) d_M_hasBelow_34 (by decide) ?_
        refine J_goto (tgt := 39) d_M_hasBelow_35 (by decide) ?_
        cases h
        exact kb1
      · have h := j_ifp c h
        refine J_aload_n d_M_hasBelow_16 rfl ?_
        refine J_get (j := 14) (v := .ref 8) d_M_hasBelow_17 (wM_at0 _ _) rfl in_5 (by decide) ts_344 rfl ?_
        refine J_iload_n d_M_hasBelow_20 rfl ?_
        obtain ⟨g, h⟩ := jg_some h
        refine J_zald (f := (a 8)) d_M_hasBelow_21 (wM_at8 _ _) (jin_in g) ?_
        refine J_if_eq (tgt := 38) d_M_hasBelow_22 (by decide) (fun c => ?_) (fun c => ?_)
        · have h := j_ifp c h
          refine J_iconst (v := (0 : Int32)) d_M_hasBelow_38 (by decide) ?_
          cases h
          exact kb1
        · have h := j_ifn c h
          refine J_aload_n d_M_hasBelow_25 rfl ?_
          refine J_iload_n d_M_hasBelow_26 rfl ?_
          refine J_iload_n d_M_hasBelow_27 rfl ?_
          obtain ⟨v3, e2, h⟩ := jb_some h
          refine J_cVi2 d_M_hasBelow_28 (c_M_isDirect l _ _ _ _ _ e2) (wM_at0 _ _) rfl ts_354 ts_good rfl rfl ts_278 ts_355 dy_M_isDirect (by decide) (Nat.le_of_ble_eq_true rfl) ts_356 ts_357 ?_
          refine J_if_eq (tgt := 38) d_M_hasBelow_31 (by decide) (fun c => ?_) (fun c => ?_)
          · have h := j_ifp c h
            refine J_iconst (v := (0 : Int32)) d_M_hasBelow_38 (by decide) ?_
            cases h
            exact kb1
          · have h := j_ifn c h
            refine J_iconst (v := (1 : Int32)) d_M_hasBelow_34 (by decide) ?_
            refine J_goto (tgt := 39) d_M_hasBelow_35 (by decide) ?_
            cases h
            exact kb1
def m_M_hasBelow (s : jS) (a : jB) (p0 : Int32) : Option (Int32) := L_M_hasBelow_4 (s) (a) (p0) (fun x4 => jg (jz x4) (some (x4))) jF ((0 : Int32)) ((0 : Int32))
set_option maxRecDepth 100000 in
set_option maxHeartbeats 4000000 in
theorem c_M_hasBelow (l : Launch) (s : jS) (a : jB) (p0 : Int32) (r : Int32) (h : m_M_hasBelow s a p0 = some r) : JMet l vwCl NsG (.code y_M_hasBelow prog_7_method_32_code 4 (some .boolean) :: TsG) y_M_hasBelow rm_M_hasBelow [.ref 0, .int p0] (wM s a) (fun v w => v = some (.int r) ∧ w = wM s a) := by
  refine J_enter (by decide +kernel) rfl (Nat.le_of_ble_eq_true rfl) ?_
  unfold m_M_hasBelow at h
  refine J_eq (ls' := [some (.ref 0), some (.int p0), none, none]) rfl rfl rfl rfl ?_
  refine J_iconst (v := (0 : Int32)) d_M_hasBelow_0 (by decide) ?_
  refine J_istore_n d_M_hasBelow_1 (by decide) ?_
  refine J_iconst (v := (0 : Int32)) d_M_hasBelow_2 (by decide) ?_
  refine J_istore_n d_M_hasBelow_3 (by decide) ?_
  refine JL_M_hasBelow_4 l _ _ _ _ r (fun x4 o5 h => ?_) jF _ _ h
  refine J_iload_n d_M_hasBelow_46 rfl ?_
  obtain ⟨g, h⟩ := jg_some h
  exact J_iret d_M_hasBelow_47 rfl (jz_nar g) (by cases h; exact ⟨rfl, rfl⟩)
abbrev rm_M_parent : Room := { frames := 4, cells := 0, slots := 0, locals := 91 }
abbrev K_M_parent (l : Launch) := JW l vwCl NsG TsG "ClassifySortModel" prog_7_method_33_code 6 (some .int) rm_M_parent
def L_M_parent_25 (s : jS) (a : jB) (c1 : Int32) (c2 : Int32) (k126 : Unit → Option (Int32)) : Nat → Int32 → Int32 → Option (Int32)
  | 0, _, _ => none
  | f + 1, x3, x4 => (if (s 1) ≤ x4 then k126 () else (if c2 < (0 : Int32) then k126 () else jg (jin x4 20) (jb (if ((a 8) (x4).toNatClampNeg) = (0 : Int32) then some (0 : Int32) else jb (m_M_isSecond s a x4) (fun v7 => (if v7 = (0 : Int32) then jg (jin c1 20) ((if ((a 8) (c1).toNatClampNeg) = (0 : Int32) then jb (m_M_hasBelow s a x4) (fun v9 => (if v9 = (0 : Int32) then some (1 : Int32) else some (0 : Int32))) else jb (m_M_isDirect s a c1 x4) (fun v11 => (if v11 = (0 : Int32) then some (0 : Int32) else some (1 : Int32))))) else some (0 : Int32)))) (fun b3 => (if b3 = (0 : Int32) then jb (if b3 = (0 : Int32) then some (0 : Int32) else some (1 : Int32)) (fun b4 => L_M_parent_25 s a c1 c2 k126 f ((x3 - b4)) ((x4 + (1 : Int32)))) else (if x3 = (0 : Int32) then some (x4) else jb (if b3 = (0 : Int32) then some (0 : Int32) else some (1 : Int32)) (fun b5 => L_M_parent_25 s a c1 c2 k126 f ((x3 - b5)) ((x4 + (1 : Int32))))))))))
set_option maxRecDepth 100000 in
set_option maxHeartbeats 4000000 in
theorem JL_M_parent_25 (l : Launch) (s : jS) (a : jB) (c1 : Int32) (c2 : Int32) (k126 : Unit → Option (Int32)) (r : Int32) (hk126 : ∀ (_ : Unit) (o3 : Option Value) (o4 : Option Value) (o5 : Option Value), k126 () = some r → K_M_parent l 126 [some (.ref 0), some (.int c1), some (.int c2), o3, o4, o5] [] (wM s a) (fun v w => v = some (.int r) ∧ w = wM s a)) : ∀ (f : Nat), ∀ (x3 : Int32) (x4 : Int32) (o5 : Option Value), L_M_parent_25 s a c1 c2 k126 f x3 x4 = some r → K_M_parent l 25 [some (.ref 0), some (.int c1), some (.int c2), some (.int x3), some (.int x4), o5] [] (wM s a) (fun v w => v = some (.int r) ∧ w = wM s a) := by
  intro f
  induction f with
  | zero =>
    intro x3 x4 o5 h
    cases h
  | succ f ih =>
    intro x3 x4 o5 h
    rw [L_M_parent_25] at h
    refine J_iload d_M_parent_25 rfl ?_
    refine J_aload_n d_M_parent_27 rfl ?_
    refine J_get (j := 1) (v := .int (s 1)) d_M_parent_28 (wM_at0 _ _) rfl in_5 (by decide) ts_270 rfl ?_
    refine J_icmp_ge (tgt := 126) d_M_parent_31 (by decide) (fun c => ?_) (fun c => ?_)
    · have h := j_ifp c h
      exact hk126 () _ _ _ h
    · have h := j_ifn c h
      refine J_iload_n d_M_parent_34 rfl ?_
      refine J_if_lt (tgt := 126) d_M_parent_35 (by decide) (fun c => ?_) (fun c => ?_)
      · have h := j_ifp c h
        exact hk126 () _ _ _ h
      · have h := j_ifn c h
        refine J_aload_n d_M_parent_38 rfl ?_
        refine J_get (j := 14) (v := .ref 8) d_M_parent_39 (wM_at0 _ _) rfl in_5 (by decide) ts_344 rfl ?_
        refine J_iload d_M_parent_42 rfl ?_
        obtain ⟨g, h⟩ := jg_some h
        refine J_zald (f := (a 8)) d_M_parent_44 (wM_at8 _ _) (jin_in g) ?_
        obtain ⟨b3, hb3, h⟩ := jb_some h
        have kb3 : K_M_parent l 93 [some (.ref 0), some (.int c1), some (.int c2), some (.int x3), some (.int x4), o5] [.int b3] (wM s a) (fun v w => v = some (.int r) ∧ w = wM s a) := by
          refine J_istore d_M_parent_93 (by decide) ?_
          refine J_iload d_M_parent_95 rfl ?_
          refine J_if_eq (tgt := 107) d_M_parent_97 (by decide) (fun c => ?_) (fun c => ?_)
          · have h := j_ifp c h
            refine J_iload_n d_M_parent_107 rfl ?_
            refine J_iload d_M_parent_108 rfl ?_
            obtain ⟨b4, hb4, h⟩ := jb_some h
            have kb4 : K_M_parent l 118 [some (.ref 0), some (.int c1), some (.int c2), some (.int x3), some (.int x4), some (.int b3)] [.int b4, .int x3] (wM s a) (fun v w => v = some (.int r) ∧ w = wM s a) := by
              refine J_isub d_M_parent_118 ?_
              refine J_istore_n d_M_parent_119 (by decide) ?_
              refine J_iinc (v := (x4 + (1 : Int32))) d_M_parent_120 rfl (by first | rfl | decide) (by decide) ?_
              refine J_goto (tgt := 25) d_M_parent_123 (by decide) ?_
              exact ih _ _ _ h
            clear h
            have h := hb4
            refine J_if_eq (tgt := 117) d_M_parent_110 (by decide) (fun c => ?_) (fun c => ?_)
            · have h := j_ifp c h
              refine J_iconst (v := (0 : Int32)) d_M_parent_117 (by decide) ?_
              cases h
              exact kb4
            · have h := j_ifn c h
              refine J_iconst (v := (1 : Int32)) d_M_parent_113 (by decide) ?_
              refine J_goto (tgt := 118) d_M_parent_114 (by decide) ?_
              cases h
              exact kb4
          · have h := j_ifn c h
            refine J_iload_n d_M_parent_100 rfl ?_
            refine J_if_ne (tgt := 107) d_M_parent_101 (by decide) (fun c => ?_) (fun c => ?_)
            · have h := j_ifn c h
              refine J_iload_n d_M_parent_107 rfl ?_
              refine J_iload d_M_parent_108 rfl ?_
              obtain ⟨b5, hb5, h⟩ := jb_some h
              have kb5 : K_M_parent l 118 [some (.ref 0), some (.int c1), some (.int c2), some (.int x3), some (.int x4), some (.int b3)] [.int b5, .int x3] (wM s a) (fun v w => v = some (.int r) ∧ w = wM s a) := by
                refine J_isub d_M_parent_118 ?_
                refine J_istore_n d_M_parent_119 (by decide) ?_
                refine J_iinc (v := (x4 + (1 : Int32))) d_M_parent_120 rfl (by first | rfl | decide) (by decide) ?_
                refine J_goto (tgt := 25) d_M_parent_123 (by decide) ?_
                exact ih _ _ _ h
              clear h
              have h := hb5
              refine J_if_eq (tgt := 117) d_M_parent_110 (by decide) (fun c => ?_) (fun c => ?_)
              · have h := j_ifp c h
                refine J_iconst (v := (0 : Int32)) d_M_parent_117 (by decide) ?_
                cases h
                exact kb5
              · have h := j_ifn c h
                refine J_iconst (v := (1 : Int32)) d_M_parent_113 (by decide) ?_
                refine J_goto (tgt := 118) d_M_parent_114 (by decide) ?_
                cases h
                exact kb5
            · have h := j_ifp c h
              refine J_iload d_M_parent_104 rfl ?_
              exact J_iret d_M_parent_106 rfl rfl (by cases h; exact ⟨rfl, rfl⟩)
        clear h
        have h := hb3
        refine J_if_eq (tgt := 92) d_M_parent_45 (by decide) (fun c => ?_) (fun c => ?_)
        · have h := j_ifp c h
          refine J_iconst (v := (0 : Int32)) d_M_parent_92 (by decide) ?_
          cases h
          exact kb3
        · have h := j_ifn c h
          refine J_aload_n d_M_parent_48 rfl ?_
          refine J_iload d_M_parent_49 rfl ?_
          obtain ⟨v7, e6, h⟩ := jb_some h
          refine J_cVi1 d_M_parent_51 (c_M_isSecond l _ _ _ _ e6) (wM_at0 _ _) rfl ts_367 ts_good rfl rfl ts_278 ts_368 dy_M_isSecond (by decide) (Nat.le_of_ble_eq_true rfl) ts_369 ts_370 ?_
          refine J_if_ne (tgt := 92) d_M_parent_54 (by decide) (fun c => ?_) (fun c => ?_)
          · have h := j_ifn c h
            refine J_iconst (v := (0 : Int32)) d_M_parent_92 (by decide) ?_
            cases h
            exact kb3
          · have h := j_ifp c h
            refine J_aload_n d_M_parent_57 rfl ?_
            refine J_get (j := 14) (v := .ref 8) d_M_parent_58 (wM_at0 _ _) rfl in_5 (by decide) ts_344 rfl ?_
            refine J_iload_n d_M_parent_61 rfl ?_
            obtain ⟨g, h⟩ := jg_some h
            refine J_zald (f := (a 8)) d_M_parent_62 (wM_at8 _ _) (jin_in g) ?_
            refine J_if_eq (tgt := 79) d_M_parent_63 (by decide) (fun c => ?_) (fun c => ?_)
            · have h := j_ifp c h
              refine J_aload_n d_M_parent_79 rfl ?_
              refine J_iload d_M_parent_80 rfl ?_
              obtain ⟨v9, e8, h⟩ := jb_some h
              refine J_cVi1 d_M_parent_82 (c_M_hasBelow l _ _ _ _ e8) (wM_at0 _ _) rfl ts_371 ts_good rfl rfl ts_278 ts_372 dy_M_hasBelow (by decide) (Nat.le_of_ble_eq_true rfl) ts_373 ts_374 ?_
              refine J_if_ne (tgt := 92) d_M_parent_85 (by decide) (fun c => ?_) (fun c => ?_)
              · have h := j_ifn c h
                refine J_iconst (v := (0 : Int32)) d_M_parent_92 (by decide) ?_
                cases h
                exact kb3
              · have h := j_ifp c h
                refine J_iconst (v := (1 : Int32)) d_M_parent_88 (by decide) ?_
                refine J_goto (tgt := 93) d_M_parent_89 (by decide) ?_
                cases h
                exact kb3
            · have h := j_ifn c h
              refine J_aload_n d_M_parent_66 rfl ?_
              refine J_iload_n d_M_parent_67 rfl ?_
              refine J_iload d_M_parent_68 rfl ?_
              obtain ⟨v11, e10, h⟩ := jb_some h
              refine J_cVi2 d_M_parent_70 (c_M_isDirect l _ _ _ _ _ e10) (wM_at0 _ _) rfl ts_354 ts_good rfl rfl ts_278 ts_355 dy_M_isDirect (by decide) (Nat.le_of_ble_eq_true rfl) ts_356 ts_357 ?_
              refine J_if_eq (tgt := 92) d_M_parent_73 (by decide) (fun c => ?_) (fun c => ?_)
              · have h := j_ifp c h
                refine J_iconst (v := (0 : Int32)) d_M_parent_92 (by decide) ?_
                cases h
                exact kb3
              · have h := j_ifn c h
                refine J_goto (tgt := 88) d_M_parent_76 (by decide) ?_
                refine J_iconst (v := (1 : Int32)) d_M_parent_88 (by decide) ?_
                refine J_goto (tgt := 93) d_M_parent_89 (by decide) ?_
                cases h
                exact kb3
def m_M_parent (s : jS) (a : jB) (p0 : Int32) (p1 : Int32) : Option (Int32) := jb (m_M_isClass s a p0) (fun v2 => (if v2 = (0 : Int32) then some ((-1 : Int32)) else (if (s 6) = (0 : Int32) then some ((-3 : Int32)) else L_M_parent_25 (s) (a) (p0) (p1) (fun _ => some ((-6 : Int32))) jF (p1) ((0 : Int32)))))
set_option maxRecDepth 100000 in
set_option maxHeartbeats 4000000 in
theorem c_M_parent (l : Launch) (s : jS) (a : jB) (p0 : Int32) (p1 : Int32) (r : Int32) (h : m_M_parent s a p0 p1 = some r) : JMet l vwCl NsG (.code y_M_parent prog_7_method_33_code 6 (some .int) :: TsG) y_M_parent rm_M_parent [.ref 0, .int p0, .int p1] (wM s a) (fun v w => v = some (.int r) ∧ w = wM s a) := by
  refine J_enter (by decide +kernel) rfl (Nat.le_of_ble_eq_true rfl) ?_
  unfold m_M_parent at h
  refine J_eq (ls' := [some (.ref 0), some (.int p0), some (.int p1), none, none, none]) rfl rfl rfl rfl ?_
  refine J_aload_n d_M_parent_0 rfl ?_
  refine J_iload_n d_M_parent_1 rfl ?_
  obtain ⟨v2, e1, h⟩ := jb_some h
  refine J_cVi1 d_M_parent_2 (c_M_isClass l _ _ _ _ e1) (wM_at0 _ _) rfl ts_308 ts_good rfl rfl ts_278 ts_309 dy_M_isClass (by decide) (Nat.le_of_ble_eq_true rfl) ts_310 ts_311 ?_
  refine J_if_ne (tgt := 10) d_M_parent_5 (by decide) (fun c => ?_) (fun c => ?_)
  · have h := j_ifn c h
    refine J_aload_n d_M_parent_10 rfl ?_
    refine J_get (j := 6) (v := .int (s 6)) d_M_parent_11 (wM_at0 _ _) rfl in_5 (by decide) ts_271 rfl ?_
    refine J_if_ne (tgt := 20) d_M_parent_14 (by decide) (fun c => ?_) (fun c => ?_)
    · have h := j_ifn c h
      refine J_iload_n d_M_parent_20 rfl ?_
      refine J_istore_n d_M_parent_21 (by decide) ?_
      refine J_iconst (v := (0 : Int32)) d_M_parent_22 (by decide) ?_
      refine J_istore d_M_parent_23 (by decide) ?_
      refine JL_M_parent_25 l _ _ _ _ _ r (fun _ o12 o13 o14 h => ?_) jF _ _ _ h
      refine J_bipush (v := (-6 : Int32)) d_M_parent_126 (by decide) ?_
      exact J_iret d_M_parent_128 rfl rfl (by cases h; exact ⟨rfl, rfl⟩)
    · have h := j_ifp c h
      refine J_bipush (v := (-3 : Int32)) d_M_parent_17 (by decide) ?_
      exact J_iret d_M_parent_19 rfl rfl (by cases h; exact ⟨rfl, rfl⟩)
  · have h := j_ifp c h
    refine J_iconst (v := (-1 : Int32)) d_M_parent_8 (by decide) ?_
    exact J_iret d_M_parent_9 rfl rfl (by cases h; exact ⟨rfl, rfl⟩)
abbrev rm_M_child : Room := { frames := 3, cells := 0, slots := 0, locals := 68 }
abbrev K_M_child (l : Launch) := JW l vwCl NsG TsG "ClassifySortModel" prog_7_method_34_code 6 (some .int) rm_M_child
def L_M_child_25 (s : jS) (a : jB) (c1 : Int32) (c2 : Int32) (k114 : Unit → Option (Int32)) : Nat → Int32 → Int32 → Option (Int32)
  | 0, _, _ => none
  | f + 1, x3, x4 => (if (s 1) ≤ x4 then k114 () else (if c2 < (0 : Int32) then k114 () else jg (jin c1 20) ((if ((a 8) (c1).toNatClampNeg) = (0 : Int32) then k114 () else jg (jin x4 20) (jb (if ((a 8) (x4).toNatClampNeg) = (0 : Int32) then some (0 : Int32) else jb (m_M_isSecond s a x4) (fun v7 => (if v7 = (0 : Int32) then jb (m_M_isDirect s a x4 c1) (fun v9 => (if v9 = (0 : Int32) then some (0 : Int32) else some (1 : Int32))) else some (0 : Int32)))) (fun b3 => (if b3 = (0 : Int32) then jb (if b3 = (0 : Int32) then some (0 : Int32) else some (1 : Int32)) (fun b4 => L_M_child_25 s a c1 c2 k114 f ((x3 - b4)) ((x4 + (1 : Int32)))) else (if x3 = (0 : Int32) then some (x4) else jb (if b3 = (0 : Int32) then some (0 : Int32) else some (1 : Int32)) (fun b5 => L_M_child_25 s a c1 c2 k114 f ((x3 - b5)) ((x4 + (1 : Int32))))))))))))
set_option maxRecDepth 100000 in
set_option maxHeartbeats 4000000 in
theorem JL_M_child_25 (l : Launch) (s : jS) (a : jB) (c1 : Int32) (c2 : Int32) (k114 : Unit → Option (Int32)) (r : Int32) (hk114 : ∀ (_ : Unit) (o3 : Option Value) (o4 : Option Value) (o5 : Option Value), k114 () = some r → K_M_child l 114 [some (.ref 0), some (.int c1), some (.int c2), o3, o4, o5] [] (wM s a) (fun v w => v = some (.int r) ∧ w = wM s a)) : ∀ (f : Nat), ∀ (x3 : Int32) (x4 : Int32) (o5 : Option Value), L_M_child_25 s a c1 c2 k114 f x3 x4 = some r → K_M_child l 25 [some (.ref 0), some (.int c1), some (.int c2), some (.int x3), some (.int x4), o5] [] (wM s a) (fun v w => v = some (.int r) ∧ w = wM s a) := by
  intro f
  induction f with
  | zero =>
    intro x3 x4 o5 h
    cases h
  | succ f ih =>
    intro x3 x4 o5 h
    rw [L_M_child_25] at h
    refine J_iload d_M_child_25 rfl ?_
    refine J_aload_n d_M_child_27 rfl ?_
    refine J_get (j := 1) (v := .int (s 1)) d_M_child_28 (wM_at0 _ _) rfl in_5 (by decide) ts_270 rfl ?_
    refine J_icmp_ge (tgt := 114) d_M_child_31 (by decide) (fun c => ?_) (fun c => ?_)
    · have h := j_ifp c h
      exact hk114 () _ _ _ h
    · have h := j_ifn c h
      refine J_iload_n d_M_child_34 rfl ?_
      refine J_if_lt (tgt := 114) d_M_child_35 (by decide) (fun c => ?_) (fun c => ?_)
      · have h := j_ifp c h
        exact hk114 () _ _ _ h
      · have h := j_ifn c h
        refine J_aload_n d_M_child_38 rfl ?_
        refine J_get (j := 14) (v := .ref 8) d_M_child_39 (wM_at0 _ _) rfl in_5 (by decide) ts_344 rfl ?_
        refine J_iload_n d_M_child_42 rfl ?_
        obtain ⟨g, h⟩ := jg_some h
        refine J_zald (f := (a 8)) d_M_child_43 (wM_at8 _ _) (jin_in g) ?_
        refine J_if_eq (tgt := 114) d_M_child_44 (by decide) (fun c => ?_) (fun c => ?_)
        · have h := j_ifp c h
          exact hk114 () _ _ _ h
        · have h := j_ifn c h
          refine J_aload_n d_M_child_47 rfl ?_
          refine J_get (j := 14) (v := .ref 8) d_M_child_48 (wM_at0 _ _) rfl in_5 (by decide) ts_344 rfl ?_
          refine J_iload d_M_child_51 rfl ?_
          obtain ⟨g, h⟩ := jg_some h
          refine J_zald (f := (a 8)) d_M_child_53 (wM_at8 _ _) (jin_in g) ?_
          obtain ⟨b3, hb3, h⟩ := jb_some h
          have kb3 : K_M_child l 81 [some (.ref 0), some (.int c1), some (.int c2), some (.int x3), some (.int x4), o5] [.int b3] (wM s a) (fun v w => v = some (.int r) ∧ w = wM s a) := by
            refine J_istore d_M_child_81 (by decide) ?_
            refine J_iload d_M_child_83 rfl ?_
            refine J_if_eq (tgt := 95) d_M_child_85 (by decide) (fun c => ?_) (fun c => ?_)
            · have h := j_ifp c h
              refine J_iload_n d_M_child_95 rfl ?_
              refine J_iload d_M_child_96 rfl ?_
              obtain ⟨b4, hb4, h⟩ := jb_some h
              have kb4 : K_M_child l 106 [some (.ref 0), some (.int c1), some (.int c2), some (.int x3), some (.int x4), some (.int b3)] [.int b4, .int x3] (wM s a) (fun v w => v = some (.int r) ∧ w = wM s a) := by
                refine J_isub d_M_child_106 ?_
                refine J_istore_n d_M_child_107 (by decide) ?_
                refine J_iinc (v := (x4 + (1 : Int32))) d_M_child_108 rfl (by first | rfl | decide) (by decide) ?_
                refine J_goto (tgt := 25) d_M_child_111 (by decide) ?_
                exact ih _ _ _ h
              clear h
              have h := hb4
              refine J_if_eq (tgt := 105) d_M_child_98 (by decide) (fun c => ?_) (fun c => ?_)
              · have h := j_ifp c h
                refine J_iconst (v := (0 : Int32)) d_M_child_105 (by decide) ?_
                cases h
                exact kb4
              · have h := j_ifn c h
                refine J_iconst (v := (1 : Int32)) d_M_child_101 (by decide) ?_
                refine J_goto (tgt := 106) d_M_child_102 (by decide) ?_
                cases h
                exact kb4
            · have h := j_ifn c h
              refine J_iload_n d_M_child_88 rfl ?_
              refine J_if_ne (tgt := 95) d_M_child_89 (by decide) (fun c => ?_) (fun c => ?_)
              · have h := j_ifn c h
                refine J_iload_n d_M_child_95 rfl ?_
                refine J_iload d_M_child_96 rfl ?_
                obtain ⟨b5, hb5, h⟩ := jb_some h
                have kb5 : K_M_child l 106 [some (.ref 0), some (.int c1), some (.int c2), some (.int x3), some (.int x4), some (.int b3)] [.int b5, .int x3] (wM s a) (fun v w => v = some (.int r) ∧ w = wM s a) := by
                  refine J_isub d_M_child_106 ?_
                  refine J_istore_n d_M_child_107 (by decide) ?_
                  refine J_iinc (v := (x4 + (1 : Int32))) d_M_child_108 rfl (by first | rfl | decide) (by decide) ?_
                  refine J_goto (tgt := 25) d_M_child_111 (by decide) ?_
                  exact ih _ _ _ h
                clear h
                have h := hb5
                refine J_if_eq (tgt := 105) d_M_child_98 (by decide) (fun c => ?_) (fun c => ?_)
                · have h := j_ifp c h
                  refine J_iconst (v := (0 : Int32)) d_M_child_105 (by decide) ?_
                  cases h
                  exact kb5
                · have h := j_ifn c h
                  refine J_iconst (v := (1 : Int32)) d_M_child_101 (by decide) ?_
                  refine J_goto (tgt := 106) d_M_child_102 (by decide) ?_
                  cases h
                  exact kb5
              · have h := j_ifp c h
                refine J_iload d_M_child_92 rfl ?_
                exact J_iret d_M_child_94 rfl rfl (by cases h; exact ⟨rfl, rfl⟩)
          clear h
          have h := hb3
          refine J_if_eq (tgt := 80) d_M_child_54 (by decide) (fun c => ?_) (fun c => ?_)
          · have h := j_ifp c h
            refine J_iconst (v := (0 : Int32)) d_M_child_80 (by decide) ?_
            cases h
            exact kb3
          · have h := j_ifn c h
            refine J_aload_n d_M_child_57 rfl ?_
            refine J_iload d_M_child_58 rfl ?_
            obtain ⟨v7, e6, h⟩ := jb_some h
            refine J_cVi1 d_M_child_60 (c_M_isSecond l _ _ _ _ e6) (wM_at0 _ _) rfl ts_367 ts_good rfl rfl ts_278 ts_368 dy_M_isSecond (by decide) (Nat.le_of_ble_eq_true rfl) ts_369 ts_370 ?_
            refine J_if_ne (tgt := 80) d_M_child_63 (by decide) (fun c => ?_) (fun c => ?_)
            · have h := j_ifn c h
              refine J_iconst (v := (0 : Int32)) d_M_child_80 (by decide) ?_
              cases h
              exact kb3
            · have h := j_ifp c h
              refine J_aload_n d_M_child_66 rfl ?_
              refine J_iload d_M_child_67 rfl ?_
              refine J_iload_n d_M_child_69 rfl ?_
              obtain ⟨v9, e8, h⟩ := jb_some h
              refine J_cVi2 d_M_child_70 (c_M_isDirect l _ _ _ _ _ e8) (wM_at0 _ _) rfl ts_354 ts_good rfl rfl ts_278 ts_355 dy_M_isDirect (by decide) (Nat.le_of_ble_eq_true rfl) ts_356 ts_357 ?_
              refine J_if_eq (tgt := 80) d_M_child_73 (by decide) (fun c => ?_) (fun c => ?_)
              · have h := j_ifp c h
                refine J_iconst (v := (0 : Int32)) d_M_child_80 (by decide) ?_
                cases h
                exact kb3
              · have h := j_ifn c h
                refine J_iconst (v := (1 : Int32)) d_M_child_76 (by decide) ?_
                refine J_goto (tgt := 81) d_M_child_77 (by decide) ?_
                cases h
                exact kb3
def m_M_child (s : jS) (a : jB) (p0 : Int32) (p1 : Int32) : Option (Int32) := jb (m_M_isClass s a p0) (fun v2 => (if v2 = (0 : Int32) then some ((-1 : Int32)) else (if (s 6) = (0 : Int32) then some ((-3 : Int32)) else L_M_child_25 (s) (a) (p0) (p1) (fun _ => some ((-6 : Int32))) jF (p1) ((0 : Int32)))))
set_option maxRecDepth 100000 in
set_option maxHeartbeats 4000000 in
theorem c_M_child (l : Launch) (s : jS) (a : jB) (p0 : Int32) (p1 : Int32) (r : Int32) (h : m_M_child s a p0 p1 = some r) : JMet l vwCl NsG (.code y_M_child prog_7_method_34_code 6 (some .int) :: TsG) y_M_child rm_M_child [.ref 0, .int p0, .int p1] (wM s a) (fun v w => v = some (.int r) ∧ w = wM s a) := by
  refine J_enter (by decide +kernel) rfl (Nat.le_of_ble_eq_true rfl) ?_
  unfold m_M_child at h
  refine J_eq (ls' := [some (.ref 0), some (.int p0), some (.int p1), none, none, none]) rfl rfl rfl rfl ?_
  refine J_aload_n d_M_child_0 rfl ?_
  refine J_iload_n d_M_child_1 rfl ?_
  obtain ⟨v2, e1, h⟩ := jb_some h
  refine J_cVi1 d_M_child_2 (c_M_isClass l _ _ _ _ e1) (wM_at0 _ _) rfl ts_308 ts_good rfl rfl ts_278 ts_309 dy_M_isClass (by decide) (Nat.le_of_ble_eq_true rfl) ts_310 ts_311 ?_
  refine J_if_ne (tgt := 10) d_M_child_5 (by decide) (fun c => ?_) (fun c => ?_)
  · have h := j_ifn c h
    refine J_aload_n d_M_child_10 rfl ?_
    refine J_get (j := 6) (v := .int (s 6)) d_M_child_11 (wM_at0 _ _) rfl in_5 (by decide) ts_271 rfl ?_
    refine J_if_ne (tgt := 20) d_M_child_14 (by decide) (fun c => ?_) (fun c => ?_)
    · have h := j_ifn c h
      refine J_iload_n d_M_child_20 rfl ?_
      refine J_istore_n d_M_child_21 (by decide) ?_
      refine J_iconst (v := (0 : Int32)) d_M_child_22 (by decide) ?_
      refine J_istore d_M_child_23 (by decide) ?_
      refine JL_M_child_25 l _ _ _ _ _ r (fun _ o10 o11 o12 h => ?_) jF _ _ _ h
      refine J_bipush (v := (-6 : Int32)) d_M_child_114 (by decide) ?_
      exact J_iret d_M_child_116 rfl rfl (by cases h; exact ⟨rfl, rfl⟩)
    · have h := j_ifp c h
      refine J_bipush (v := (-3 : Int32)) d_M_child_17 (by decide) ?_
      exact J_iret d_M_child_19 rfl rfl (by cases h; exact ⟨rfl, rfl⟩)
  · have h := j_ifp c h
    refine J_iconst (v := (-1 : Int32)) d_M_child_8 (by decide) ?_
    exact J_iret d_M_child_9 rfl rfl (by cases h; exact ⟨rfl, rfl⟩)
abbrev rm_M_equal : Room := { frames := 1, cells := 0, slots := 0, locals := 22 }
abbrev K_M_equal (l : Launch) := JW l vwCl NsG TsG "ClassifySortModel" prog_7_method_35_code 6 (some .int) rm_M_equal
def L_M_equal_25 (s : jS) (a : jB) (c1 : Int32) (c2 : Int32) (k96 : Unit → Option (Int32)) : Nat → Int32 → Int32 → Option (Int32)
  | 0, _, _ => none
  | f + 1, x3, x4 => (if (s 1) ≤ x4 then k96 () else (if c2 < (0 : Int32) then k96 () else jb (m_M_below s a c1 x4) (fun v4 => jb (if v4 = (0 : Int32) then some (0 : Int32) else jb (m_M_below s a x4 c1) (fun v9 => (if v9 = (0 : Int32) then some (0 : Int32) else some (1 : Int32)))) (fun b5 => (if b5 = (0 : Int32) then jb (if b5 = (0 : Int32) then some (0 : Int32) else some (1 : Int32)) (fun b6 => L_M_equal_25 s a c1 c2 k96 f ((x3 - b6)) ((x4 + (1 : Int32)))) else (if x3 = (0 : Int32) then some (x4) else jb (if b5 = (0 : Int32) then some (0 : Int32) else some (1 : Int32)) (fun b7 => L_M_equal_25 s a c1 c2 k96 f ((x3 - b7)) ((x4 + (1 : Int32))))))))))
set_option maxRecDepth 100000 in
set_option maxHeartbeats 4000000 in
theorem JL_M_equal_25 (l : Launch) (s : jS) (a : jB) (c1 : Int32) (c2 : Int32) (k96 : Unit → Option (Int32)) (r : Int32) (hk96 : ∀ (_ : Unit) (o3 : Option Value) (o4 : Option Value) (o5 : Option Value), k96 () = some r → K_M_equal l 96 [some (.ref 0), some (.int c1), some (.int c2), o3, o4, o5] [] (wM s a) (fun v w => v = some (.int r) ∧ w = wM s a)) : ∀ (f : Nat), ∀ (x3 : Int32) (x4 : Int32) (o5 : Option Value), L_M_equal_25 s a c1 c2 k96 f x3 x4 = some r → K_M_equal l 25 [some (.ref 0), some (.int c1), some (.int c2), some (.int x3), some (.int x4), o5] [] (wM s a) (fun v w => v = some (.int r) ∧ w = wM s a) := by
  intro f
  induction f with
  | zero =>
    intro x3 x4 o5 h
    cases h
  | succ f ih =>
    intro x3 x4 o5 h
    rw [L_M_equal_25] at h
    refine J_iload d_M_equal_25 rfl ?_
    refine J_aload_n d_M_equal_27 rfl ?_
    refine J_get (j := 1) (v := .int (s 1)) d_M_equal_28 (wM_at0 _ _) rfl in_5 (by decide) ts_270 rfl ?_
    refine J_icmp_ge (tgt := 96) d_M_equal_31 (by decide) (fun c => ?_) (fun c => ?_)
    · have h := j_ifp c h
      exact hk96 () _ _ _ h
    · have h := j_ifn c h
      refine J_iload_n d_M_equal_34 rfl ?_
      refine J_if_lt (tgt := 96) d_M_equal_35 (by decide) (fun c => ?_) (fun c => ?_)
      · have h := j_ifp c h
        exact hk96 () _ _ _ h
      · have h := j_ifn c h
        refine J_aload_n d_M_equal_38 rfl ?_
        refine J_iload_n d_M_equal_39 rfl ?_
        refine J_iload d_M_equal_40 rfl ?_
        obtain ⟨v4, e3, h⟩ := jb_some h
        refine J_cVi2 d_M_equal_42 (c_M_below l _ _ _ _ _ e3) (wM_at0 _ _) rfl ts_291 ts_good rfl rfl ts_278 ts_292 dy_M_below (by decide) (Nat.le_of_ble_eq_true rfl) ts_293 ts_294 ?_
        obtain ⟨b5, hb5, h⟩ := jb_some h
        have kb5 : K_M_equal l 63 [some (.ref 0), some (.int c1), some (.int c2), some (.int x3), some (.int x4), o5] [.int b5] (wM s a) (fun v w => v = some (.int r) ∧ w = wM s a) := by
          refine J_istore d_M_equal_63 (by decide) ?_
          refine J_iload d_M_equal_65 rfl ?_
          refine J_if_eq (tgt := 77) d_M_equal_67 (by decide) (fun c => ?_) (fun c => ?_)
          · have h := j_ifp c h
            refine J_iload_n d_M_equal_77 rfl ?_
            refine J_iload d_M_equal_78 rfl ?_
            obtain ⟨b6, hb6, h⟩ := jb_some h
            have kb6 : K_M_equal l 88 [some (.ref 0), some (.int c1), some (.int c2), some (.int x3), some (.int x4), some (.int b5)] [.int b6, .int x3] (wM s a) (fun v w => v = some (.int r) ∧ w = wM s a) := by
              refine J_isub d_M_equal_88 ?_
              refine J_istore_n d_M_equal_89 (by decide) ?_
              refine J_iinc (v := (x4 + (1 : Int32))) d_M_equal_90 rfl (by first | rfl | decide) (by decide) ?_
              refine J_goto (tgt := 25) d_M_equal_93 (by decide) ?_
              exact ih _ _ _ h
            clear h
            have h := hb6
            refine J_if_eq (tgt := 87) d_M_equal_80 (by decide) (fun c => ?_) (fun c => ?_)
            · have h := j_ifp c h
              refine J_iconst (v := (0 : Int32)) d_M_equal_87 (by decide) ?_
              cases h
              exact kb6
            · have h := j_ifn c h
              refine J_iconst (v := (1 : Int32)) d_M_equal_83 (by decide) ?_
              refine J_goto (tgt := 88) d_M_equal_84 (by decide) ?_
              cases h
              exact kb6
          · have h := j_ifn c h
            refine J_iload_n d_M_equal_70 rfl ?_
            refine J_if_ne (tgt := 77) d_M_equal_71 (by decide) (fun c => ?_) (fun c => ?_)
            · have h := j_ifn c h
              refine J_iload_n d_M_equal_77 rfl ?_
              refine J_iload d_M_equal_78 rfl ?_
              obtain ⟨b7, hb7, h⟩ := jb_some h
              have kb7 : K_M_equal l 88 [some (.ref 0), some (.int c1), some (.int c2), some (.int x3), some (.int x4), some (.int b5)] [.int b7, .int x3] (wM s a) (fun v w => v = some (.int r) ∧ w = wM s a) := by
                refine J_isub d_M_equal_88 ?_
                refine J_istore_n d_M_equal_89 (by decide) ?_
                refine J_iinc (v := (x4 + (1 : Int32))) d_M_equal_90 rfl (by first | rfl | decide) (by decide) ?_
                refine J_goto (tgt := 25) d_M_equal_93 (by decide) ?_
                exact ih _ _ _ h
              clear h
              have h := hb7
              refine J_if_eq (tgt := 87) d_M_equal_80 (by decide) (fun c => ?_) (fun c => ?_)
              · have h := j_ifp c h
                refine J_iconst (v := (0 : Int32)) d_M_equal_87 (by decide) ?_
                cases h
                exact kb7
              · have h := j_ifn c h
                refine J_iconst (v := (1 : Int32)) d_M_equal_83 (by decide) ?_
                refine J_goto (tgt := 88) d_M_equal_84 (by decide) ?_
                cases h
                exact kb7
            · have h := j_ifp c h
              refine J_iload d_M_equal_74 rfl ?_
              exact J_iret d_M_equal_76 rfl rfl (by cases h; exact ⟨rfl, rfl⟩)
        clear h
        have h := hb5
        refine J_if_eq (tgt := 62) d_M_equal_45 (by decide) (fun c => ?_) (fun c => ?_)
        · have h := j_ifp c h
          refine J_iconst (v := (0 : Int32)) d_M_equal_62 (by decide) ?_
          cases h
          exact kb5
        · have h := j_ifn c h
          refine J_aload_n d_M_equal_48 rfl ?_
          refine J_iload d_M_equal_49 rfl ?_
          refine J_iload_n d_M_equal_51 rfl ?_
          obtain ⟨v9, e8, h⟩ := jb_some h
          refine J_cVi2 d_M_equal_52 (c_M_below l _ _ _ _ _ e8) (wM_at0 _ _) rfl ts_291 ts_good rfl rfl ts_278 ts_292 dy_M_below (by decide) (Nat.le_of_ble_eq_true rfl) ts_293 ts_294 ?_
          refine J_if_eq (tgt := 62) d_M_equal_55 (by decide) (fun c => ?_) (fun c => ?_)
          · have h := j_ifp c h
            refine J_iconst (v := (0 : Int32)) d_M_equal_62 (by decide) ?_
            cases h
            exact kb5
          · have h := j_ifn c h
            refine J_iconst (v := (1 : Int32)) d_M_equal_58 (by decide) ?_
            refine J_goto (tgt := 63) d_M_equal_59 (by decide) ?_
            cases h
            exact kb5
def m_M_equal (s : jS) (a : jB) (p0 : Int32) (p1 : Int32) : Option (Int32) := jb (m_M_isClass s a p0) (fun v2 => (if v2 = (0 : Int32) then some ((-1 : Int32)) else (if (s 6) = (0 : Int32) then some ((-3 : Int32)) else L_M_equal_25 (s) (a) (p0) (p1) (fun _ => some ((-6 : Int32))) jF (p1) ((0 : Int32)))))
set_option maxRecDepth 100000 in
set_option maxHeartbeats 4000000 in
theorem c_M_equal (l : Launch) (s : jS) (a : jB) (p0 : Int32) (p1 : Int32) (r : Int32) (h : m_M_equal s a p0 p1 = some r) : JMet l vwCl NsG (.code y_M_equal prog_7_method_35_code 6 (some .int) :: TsG) y_M_equal rm_M_equal [.ref 0, .int p0, .int p1] (wM s a) (fun v w => v = some (.int r) ∧ w = wM s a) := by
  refine J_enter (by decide +kernel) rfl (Nat.le_of_ble_eq_true rfl) ?_
  unfold m_M_equal at h
  refine J_eq (ls' := [some (.ref 0), some (.int p0), some (.int p1), none, none, none]) rfl rfl rfl rfl ?_
  refine J_aload_n d_M_equal_0 rfl ?_
  refine J_iload_n d_M_equal_1 rfl ?_
  obtain ⟨v2, e1, h⟩ := jb_some h
  refine J_cVi1 d_M_equal_2 (c_M_isClass l _ _ _ _ e1) (wM_at0 _ _) rfl ts_308 ts_good rfl rfl ts_278 ts_309 dy_M_isClass (by decide) (Nat.le_of_ble_eq_true rfl) ts_310 ts_311 ?_
  refine J_if_ne (tgt := 10) d_M_equal_5 (by decide) (fun c => ?_) (fun c => ?_)
  · have h := j_ifn c h
    refine J_aload_n d_M_equal_10 rfl ?_
    refine J_get (j := 6) (v := .int (s 6)) d_M_equal_11 (wM_at0 _ _) rfl in_5 (by decide) ts_271 rfl ?_
    refine J_if_ne (tgt := 20) d_M_equal_14 (by decide) (fun c => ?_) (fun c => ?_)
    · have h := j_ifn c h
      refine J_iload_n d_M_equal_20 rfl ?_
      refine J_istore_n d_M_equal_21 (by decide) ?_
      refine J_iconst (v := (0 : Int32)) d_M_equal_22 (by decide) ?_
      refine J_istore d_M_equal_23 (by decide) ?_
      refine JL_M_equal_25 l _ _ _ _ _ r (fun _ o10 o11 o12 h => ?_) jF _ _ _ h
      refine J_bipush (v := (-6 : Int32)) d_M_equal_96 (by decide) ?_
      exact J_iret d_M_equal_98 rfl rfl (by cases h; exact ⟨rfl, rfl⟩)
    · have h := j_ifp c h
      refine J_bipush (v := (-3 : Int32)) d_M_equal_17 (by decide) ?_
      exact J_iret d_M_equal_19 rfl rfl (by cases h; exact ⟨rfl, rfl⟩)
  · have h := j_ifp c h
    refine J_iconst (v := (-1 : Int32)) d_M_equal_8 (by decide) ?_
    exact J_iret d_M_equal_9 rfl rfl (by cases h; exact ⟨rfl, rfl⟩)
abbrev rm_M_empty : Room := { frames := 0, cells := 0, slots := 0, locals := 0 }
abbrev K_M_empty (l : Launch) := JW l vwCl NsG TsG "ClassifySortModel" prog_7_method_36_code 4 (some .int) rm_M_empty
def L_M_empty_14 (s : jS) (a : jB) (c1 : Int32) (k64 : Unit → Option (Int32)) : Nat → Int32 → Int32 → Option (Int32)
  | 0, _, _ => none
  | f + 1, x2, x3 => (if (s 1) ≤ x3 then k64 () else (if c1 < (0 : Int32) then k64 () else jg (jin x3 20) ((if ((a 8) (x3).toNatClampNeg) = (0 : Int32) then (if x2 = (0 : Int32) then some (x3) else jg (jin x3 20) (jb (if ((a 8) (x3).toNatClampNeg) = (0 : Int32) then some (1 : Int32) else some (0 : Int32)) (fun b2 => L_M_empty_14 s a c1 k64 f ((x2 - b2)) ((x3 + (1 : Int32)))))) else jg (jin x3 20) (jb (if ((a 8) (x3).toNatClampNeg) = (0 : Int32) then some (1 : Int32) else some (0 : Int32)) (fun b1 => L_M_empty_14 s a c1 k64 f ((x2 - b1)) ((x3 + (1 : Int32)))))))))
set_option maxRecDepth 100000 in
set_option maxHeartbeats 4000000 in
theorem JL_M_empty_14 (l : Launch) (s : jS) (a : jB) (c1 : Int32) (k64 : Unit → Option (Int32)) (r : Int32) (hk64 : ∀ (_ : Unit) (o2 : Option Value) (o3 : Option Value), k64 () = some r → K_M_empty l 64 [some (.ref 0), some (.int c1), o2, o3] [] (wM s a) (fun v w => v = some (.int r) ∧ w = wM s a)) : ∀ (f : Nat), ∀ (x2 : Int32) (x3 : Int32), L_M_empty_14 s a c1 k64 f x2 x3 = some r → K_M_empty l 14 [some (.ref 0), some (.int c1), some (.int x2), some (.int x3)] [] (wM s a) (fun v w => v = some (.int r) ∧ w = wM s a) := by
  intro f
  induction f with
  | zero =>
    intro x2 x3 h
    cases h
  | succ f ih =>
    intro x2 x3 h
    rw [L_M_empty_14] at h
    refine J_iload_n d_M_empty_14 rfl ?_
    refine J_aload_n d_M_empty_15 rfl ?_
    refine J_get (j := 1) (v := .int (s 1)) d_M_empty_16 (wM_at0 _ _) rfl in_5 (by decide) ts_270 rfl ?_
    refine J_icmp_ge (tgt := 64) d_M_empty_19 (by decide) (fun c => ?_) (fun c => ?_)
    · have h := j_ifp c h
      exact hk64 () _ _ h
    · have h := j_ifn c h
      refine J_iload_n d_M_empty_22 rfl ?_
      refine J_if_lt (tgt := 64) d_M_empty_23 (by decide) (fun c => ?_) (fun c => ?_)
      · have h := j_ifp c h
        exact hk64 () _ _ h
      · have h := j_ifn c h
        refine J_aload_n d_M_empty_26 rfl ?_
        refine J_get (j := 14) (v := .ref 8) d_M_empty_27 (wM_at0 _ _) rfl in_5 (by decide) ts_344 rfl ?_
        refine J_iload_n d_M_empty_30 rfl ?_
        obtain ⟨g, h⟩ := jg_some h
        refine J_zald (f := (a 8)) d_M_empty_31 (wM_at8 _ _) (jin_in g) ?_
        refine J_if_ne (tgt := 41) d_M_empty_32 (by decide) (fun c => ?_) (fun c => ?_)
        · have h := j_ifn c h
          refine J_iload_n d_M_empty_41 rfl ?_
          refine J_aload_n d_M_empty_42 rfl ?_
          refine J_get (j := 14) (v := .ref 8) d_M_empty_43 (wM_at0 _ _) rfl in_5 (by decide) ts_344 rfl ?_
          refine J_iload_n d_M_empty_46 rfl ?_
          obtain ⟨g, h⟩ := jg_some h
          refine J_zald (f := (a 8)) d_M_empty_47 (wM_at8 _ _) (jin_in g) ?_
          obtain ⟨b1, hb1, h⟩ := jb_some h
          have kb1 : K_M_empty l 56 [some (.ref 0), some (.int c1), some (.int x2), some (.int x3)] [.int b1, .int x2] (wM s a) (fun v w => v = some (.int r) ∧ w = wM s a) := by
            refine J_isub d_M_empty_56 ?_
            refine J_istore_n d_M_empty_57 (by decide) ?_
            refine J_iinc (v := (x3 + (1 : Int32))) d_M_empty_58 rfl (by first | rfl | decide) (by decide) ?_
            refine J_goto (tgt := 14) d_M_empty_61 (by decide) ?_
            exact ih _ _ h
          clear h
          have h := hb1
          refine J_if_eq (tgt := 55) d_M_empty_48 (by decide) (fun c => ?_) (fun c => ?_)
          · have h := j_ifp c h
            refine J_iconst (v := (1 : Int32)) d_M_empty_55 (by decide) ?_
            cases h
            exact kb1
          · have h := j_ifn c h
            refine J_iconst (v := (0 : Int32)) d_M_empty_51 (by decide) ?_
            refine J_goto (tgt := 56) d_M_empty_52 (by decide) ?_
            cases h
            exact kb1
        · have h := j_ifp c h
          refine J_iload_n d_M_empty_35 rfl ?_
          refine J_if_ne (tgt := 41) d_M_empty_36 (by decide) (fun c => ?_) (fun c => ?_)
          · have h := j_ifn c h
            refine J_iload_n d_M_empty_41 rfl ?_
            refine J_aload_n d_M_empty_42 rfl ?_
            refine J_get (j := 14) (v := .ref 8) d_M_empty_43 (wM_at0 _ _) rfl in_5 (by decide) ts_344 rfl ?_
            refine J_iload_n d_M_empty_46 rfl ?_
            obtain ⟨g, h⟩ := jg_some h
            refine J_zald (f := (a 8)) d_M_empty_47 (wM_at8 _ _) (jin_in g) ?_
            obtain ⟨b2, hb2, h⟩ := jb_some h
            have kb2 : K_M_empty l 56 [some (.ref 0), some (.int c1), some (.int x2), some (.int x3)] [.int b2, .int x2] (wM s a) (fun v w => v = some (.int r) ∧ w = wM s a) := by
              refine J_isub d_M_empty_56 ?_
              refine J_istore_n d_M_empty_57 (by decide) ?_
              refine J_iinc (v := (x3 + (1 : Int32))) d_M_empty_58 rfl (by first | rfl | decide) (by decide) ?_
              refine J_goto (tgt := 14) d_M_empty_61 (by decide) ?_
              exact ih _ _ h
            clear h
            have h := hb2
            refine J_if_eq (tgt := 55) d_M_empty_48 (by decide) (fun c => ?_) (fun c => ?_)
            · have h := j_ifp c h
              refine J_iconst (v := (1 : Int32)) d_M_empty_55 (by decide) ?_
              cases h
              exact kb2
            · have h := j_ifn c h
              refine J_iconst (v := (0 : Int32)) d_M_empty_51 (by decide) ?_
              refine J_goto (tgt := 56) d_M_empty_52 (by decide) ?_
              cases h
              exact kb2
          · have h := j_ifp c h
            refine J_iload_n d_M_empty_39 rfl ?_
            exact J_iret d_M_empty_40 rfl rfl (by cases h; exact ⟨rfl, rfl⟩)
def m_M_empty (s : jS) (a : jB) (p0 : Int32) : Option (Int32) := (if (s 6) = (0 : Int32) then some ((-3 : Int32)) else L_M_empty_14 (s) (a) (p0) (fun _ => some ((-6 : Int32))) jF (p0) ((0 : Int32)))
set_option maxRecDepth 100000 in
set_option maxHeartbeats 4000000 in
theorem c_M_empty (l : Launch) (s : jS) (a : jB) (p0 : Int32) (r : Int32) (h : m_M_empty s a p0 = some r) : JMet l vwCl NsG (.code y_M_empty prog_7_method_36_code 4 (some .int) :: TsG) y_M_empty rm_M_empty [.ref 0, .int p0] (wM s a) (fun v w => v = some (.int r) ∧ w = wM s a) := by
  refine J_enter (by decide +kernel) rfl (Nat.le_of_ble_eq_true rfl) ?_
  unfold m_M_empty at h
  refine J_eq (ls' := [some (.ref 0), some (.int p0), none, none]) rfl rfl rfl rfl ?_
  refine J_aload_n d_M_empty_0 rfl ?_
  refine J_get (j := 6) (v := .int (s 6)) d_M_empty_1 (wM_at0 _ _) rfl in_5 (by decide) ts_271 rfl ?_
  refine J_if_ne (tgt := 10) d_M_empty_4 (by decide) (fun c => ?_) (fun c => ?_)
  · have h := j_ifn c h
    refine J_iload_n d_M_empty_10 rfl ?_
    refine J_istore_n d_M_empty_11 (by decide) ?_
    refine J_iconst (v := (0 : Int32)) d_M_empty_12 (by decide) ?_
    refine J_istore_n d_M_empty_13 (by decide) ?_
    refine JL_M_empty_14 l _ _ _ _ r (fun _ o3 o4 h => ?_) jF _ _ h
    refine J_bipush (v := (-6 : Int32)) d_M_empty_64 (by decide) ?_
    exact J_iret d_M_empty_66 rfl rfl (by cases h; exact ⟨rfl, rfl⟩)
  · have h := j_ifp c h
    refine J_bipush (v := (-3 : Int32)) d_M_empty_7 (by decide) ?_
    exact J_iret d_M_empty_9 rfl rfl (by cases h; exact ⟨rfl, rfl⟩)
abbrev rm_M_open : Room := { frames := 0, cells := 0, slots := 0, locals := 0 }
abbrev K_M_open (l : Launch) := JW l vwCl NsG TsG "ClassifySortModel" prog_7_method_37_code 5 (some .int) rm_M_open
def L_M_open_4 (s : jS) (a : jB) (c1 : Int32) (k87 : Unit → Option (Int32)) : Nat → Int32 → Int32 → Option (Int32)
  | 0, _, _ => none
  | f + 1, x2, x3 => (if (420 : Int32) ≤ x3 then k87 () else (if c1 < (0 : Int32) then k87 () else jg (jin x3 420) (jb (if ((a 6) (x3).toNatClampNeg) = (2 : Int32) then some (1 : Int32) else some (0 : Int32)) (fun b1 => (if b1 = (0 : Int32) then jb (if b1 = (0 : Int32) then some (0 : Int32) else some (1 : Int32)) (fun b2 => L_M_open_4 s a c1 k87 f ((x2 - b2)) ((x3 + (1 : Int32)))) else (if x2 = (0 : Int32) then jb (if (x3 - x3 / (21 : Int32) * (21 : Int32)) = (20 : Int32) then some (31 : Int32) else some (x3 - x3 / (21 : Int32) * (21 : Int32))) (fun b4 => some ((((32 : Int32) * (x3 / (21 : Int32))) + b4))) else jb (if b1 = (0 : Int32) then some (0 : Int32) else some (1 : Int32)) (fun b3 => L_M_open_4 s a c1 k87 f ((x2 - b3)) ((x3 + (1 : Int32))))))))))
set_option maxRecDepth 100000 in
set_option maxHeartbeats 4000000 in
theorem JL_M_open_4 (l : Launch) (s : jS) (a : jB) (c1 : Int32) (k87 : Unit → Option (Int32)) (r : Int32) (hk87 : ∀ (_ : Unit) (o2 : Option Value) (o3 : Option Value) (o4 : Option Value), k87 () = some r → K_M_open l 87 [some (.ref 0), some (.int c1), o2, o3, o4] [] (wM s a) (fun v w => v = some (.int r) ∧ w = wM s a)) : ∀ (f : Nat), ∀ (x2 : Int32) (x3 : Int32) (o4 : Option Value), L_M_open_4 s a c1 k87 f x2 x3 = some r → K_M_open l 4 [some (.ref 0), some (.int c1), some (.int x2), some (.int x3), o4] [] (wM s a) (fun v w => v = some (.int r) ∧ w = wM s a) := by
  intro f
  induction f with
  | zero =>
    intro x2 x3 o4 h
    cases h
  | succ f ih =>
    intro x2 x3 o4 h
    rw [L_M_open_4] at h
    refine J_iload_n d_M_open_4 rfl ?_
    refine J_sipush (v := (420 : Int32)) d_M_open_5 (by decide) ?_
    refine J_icmp_ge (tgt := 87) d_M_open_8 (by decide) (fun c => ?_) (fun c => ?_)
    · have h := j_ifp c h
      exact hk87 () _ _ _ h
    · have h := j_ifn c h
      refine J_iload_n d_M_open_11 rfl ?_
      refine J_if_lt (tgt := 87) d_M_open_12 (by decide) (fun c => ?_) (fun c => ?_)
      · have h := j_ifp c h
        exact hk87 () _ _ _ h
      · have h := j_ifn c h
        refine J_aload_n d_M_open_15 rfl ?_
        refine J_get (j := 12) (v := .ref 6) d_M_open_16 (wM_at0 _ _) rfl in_5 (by decide) ts_282 rfl ?_
        refine J_iload_n d_M_open_19 rfl ?_
        obtain ⟨g, h⟩ := jg_some h
        refine J_iald (f := (a 6)) d_M_open_20 (wM_at6 _ _) (jin_in g) ?_
        refine J_iconst (v := (2 : Int32)) d_M_open_21 (by decide) ?_
        obtain ⟨b1, hb1, h⟩ := jb_some h
        have kb1 : K_M_open l 30 [some (.ref 0), some (.int c1), some (.int x2), some (.int x3), o4] [.int b1] (wM s a) (fun v w => v = some (.int r) ∧ w = wM s a) := by
          refine J_istore d_M_open_30 (by decide) ?_
          refine J_iload d_M_open_32 rfl ?_
          refine J_if_eq (tgt := 68) d_M_open_34 (by decide) (fun c => ?_) (fun c => ?_)
          · have h := j_ifp c h
            refine J_iload_n d_M_open_68 rfl ?_
            refine J_iload d_M_open_69 rfl ?_
            obtain ⟨b2, hb2, h⟩ := jb_some h
            have kb2 : K_M_open l 79 [some (.ref 0), some (.int c1), some (.int x2), some (.int x3), some (.int b1)] [.int b2, .int x2] (wM s a) (fun v w => v = some (.int r) ∧ w = wM s a) := by
              refine J_isub d_M_open_79 ?_
              refine J_istore_n d_M_open_80 (by decide) ?_
              refine J_iinc (v := (x3 + (1 : Int32))) d_M_open_81 rfl (by first | rfl | decide) (by decide) ?_
              refine J_goto (tgt := 4) d_M_open_84 (by decide) ?_
              exact ih _ _ _ h
            clear h
            have h := hb2
            refine J_if_eq (tgt := 78) d_M_open_71 (by decide) (fun c => ?_) (fun c => ?_)
            · have h := j_ifp c h
              refine J_iconst (v := (0 : Int32)) d_M_open_78 (by decide) ?_
              cases h
              exact kb2
            · have h := j_ifn c h
              refine J_iconst (v := (1 : Int32)) d_M_open_74 (by decide) ?_
              refine J_goto (tgt := 79) d_M_open_75 (by decide) ?_
              cases h
              exact kb2
          · have h := j_ifn c h
            refine J_iload_n d_M_open_37 rfl ?_
            refine J_if_ne (tgt := 68) d_M_open_38 (by decide) (fun c => ?_) (fun c => ?_)
            · have h := j_ifn c h
              refine J_iload_n d_M_open_68 rfl ?_
              refine J_iload d_M_open_69 rfl ?_
              obtain ⟨b3, hb3, h⟩ := jb_some h
              have kb3 : K_M_open l 79 [some (.ref 0), some (.int c1), some (.int x2), some (.int x3), some (.int b1)] [.int b3, .int x2] (wM s a) (fun v w => v = some (.int r) ∧ w = wM s a) := by
                refine J_isub d_M_open_79 ?_
                refine J_istore_n d_M_open_80 (by decide) ?_
                refine J_iinc (v := (x3 + (1 : Int32))) d_M_open_81 rfl (by first | rfl | decide) (by decide) ?_
                refine J_goto (tgt := 4) d_M_open_84 (by decide) ?_
                exact ih _ _ _ h
              clear h
              have h := hb3
              refine J_if_eq (tgt := 78) d_M_open_71 (by decide) (fun c => ?_) (fun c => ?_)
              · have h := j_ifp c h
                refine J_iconst (v := (0 : Int32)) d_M_open_78 (by decide) ?_
                cases h
                exact kb3
              · have h := j_ifn c h
                refine J_iconst (v := (1 : Int32)) d_M_open_74 (by decide) ?_
                refine J_goto (tgt := 79) d_M_open_75 (by decide) ?_
                cases h
                exact kb3
            · have h := j_ifp c h
              refine J_bipush (v := (32 : Int32)) d_M_open_41 (by decide) ?_
              refine J_iload_n d_M_open_43 rfl ?_
              refine J_bipush (v := (21 : Int32)) d_M_open_44 (by decide) ?_
              refine J_idiv d_M_open_46 (by decide) ?_
              refine J_imul d_M_open_47 ?_
              refine J_iload_n d_M_open_48 rfl ?_
              refine J_bipush (v := (21 : Int32)) d_M_open_49 (by decide) ?_
              refine J_irem d_M_open_51 (by decide) ?_
              refine J_bipush (v := (20 : Int32)) d_M_open_52 (by decide) ?_
              obtain ⟨b4, hb4, h⟩ := jb_some h
              have kb4 : K_M_open l 66 [some (.ref 0), some (.int c1), some (.int x2), some (.int x3), some (.int b1)] [.int b4, .int ((32 : Int32) * (x3 / (21 : Int32)))] (wM s a) (fun v w => v = some (.int r) ∧ w = wM s a) := by
                refine J_iadd d_M_open_66 ?_
                exact J_iret d_M_open_67 rfl rfl (by cases h; exact ⟨rfl, rfl⟩)
              clear h
              have h := hb4
              refine J_icmp_ne (tgt := 62) d_M_open_54 (by decide) (fun c => ?_) (fun c => ?_)
              · have h := j_ifn c h
                refine J_iload_n d_M_open_62 rfl ?_
                refine J_bipush (v := (21 : Int32)) d_M_open_63 (by decide) ?_
                refine J_irem d_M_open_65 (by decide) ?_
                cases h
                exact kb4
              · have h := j_ifp c h
                refine J_bipush (v := (31 : Int32)) d_M_open_57 (by decide) ?_
                refine J_goto (tgt := 66) d_M_open_59 (by decide) ?_
                cases h
                exact kb4
        clear h
        have h := hb1
        refine J_icmp_ne (tgt := 29) d_M_open_22 (by decide) (fun c => ?_) (fun c => ?_)
        · have h := j_ifn c h
          refine J_iconst (v := (0 : Int32)) d_M_open_29 (by decide) ?_
          cases h
          exact kb1
        · have h := j_ifp c h
          refine J_iconst (v := (1 : Int32)) d_M_open_25 (by decide) ?_
          refine J_goto (tgt := 30) d_M_open_26 (by decide) ?_
          cases h
          exact kb1
def m_M_open (s : jS) (a : jB) (p0 : Int32) : Option (Int32) := L_M_open_4 (s) (a) (p0) (fun _ => some ((-6 : Int32))) jF (p0) ((0 : Int32))
set_option maxRecDepth 100000 in
set_option maxHeartbeats 4000000 in
theorem c_M_open (l : Launch) (s : jS) (a : jB) (p0 : Int32) (r : Int32) (h : m_M_open s a p0 = some r) : JMet l vwCl NsG (.code y_M_open prog_7_method_37_code 5 (some .int) :: TsG) y_M_open rm_M_open [.ref 0, .int p0] (wM s a) (fun v w => v = some (.int r) ∧ w = wM s a) := by
  refine J_enter (by decide +kernel) rfl (Nat.le_of_ble_eq_true rfl) ?_
  unfold m_M_open at h
  refine J_eq (ls' := [some (.ref 0), some (.int p0), none, none, none]) rfl rfl rfl rfl ?_
  refine J_iload_n d_M_open_0 rfl ?_
  refine J_istore_n d_M_open_1 (by decide) ?_
  refine J_iconst (v := (0 : Int32)) d_M_open_2 (by decide) ?_
  refine J_istore_n d_M_open_3 (by decide) ?_
  refine JL_M_open_4 l _ _ _ _ r (fun _ o5 o6 o7 h => ?_) jF _ _ _ h
  refine J_bipush (v := (-6 : Int32)) d_M_open_87 (by decide) ?_
  exact J_iret d_M_open_89 rfl rfl (by cases h; exact ⟨rfl, rfl⟩)
abbrev rm_M_put : Room := { frames := 1, cells := 0, slots := 0, locals := 21 }
abbrev K_M_put (l : Launch) := JW l vwCl NsG TsG "ClassifySortModel" prog_7_method_38_code 4 (some .int) rm_M_put
def m_M_put (s : jS) (a : jB) (p0 : Int32) (p1 : Int32) : Option (Int32 × jS × jB) := (if p0 < (0 : Int32) then some ((-1 : Int32), s, a) else (if (s 2) ≤ p0 then some ((-1 : Int32), s, a) else jb (m_M_isClass s a p1) (fun v2 => (if v2 = (0 : Int32) then some ((-1 : Int32), s, a) else jg (jin (((20 : Int32) * p0) + p1) 160) (jb (some ((a 5) ((((20 : Int32) * p0) + p1)).toNatClampNeg)) (fun y3 => jg (jin (((20 : Int32) * p0) + p1) 160) (jb (if y3 = (0 : Int32) then some (1 : Int32) else some (0 : Int32)) (fun b4 => some (b4, s, (va_up a 5 (upd (a 5) ((((20 : Int32) * p0) + p1)).toNatClampNeg (1 : Int32))))))))))))
set_option maxRecDepth 100000 in
set_option maxHeartbeats 4000000 in
theorem c_M_put (l : Launch) (s : jS) (a : jB) (p0 : Int32) (p1 : Int32) (r : Int32 × jS × jB) (h : m_M_put s a p0 p1 = some r) : JMet l vwCl NsG (.code y_M_put prog_7_method_38_code 4 (some .int) :: TsG) y_M_put rm_M_put [.ref 0, .int p0, .int p1] (wM s a) (fun v w => v = some (.int r.1) ∧ w = wM r.2.1 r.2.2) := by
  refine J_enter (by decide +kernel) rfl (Nat.le_of_ble_eq_true rfl) ?_
  unfold m_M_put at h
  refine J_eq (ls' := [some (.ref 0), some (.int p0), some (.int p1), none]) rfl rfl rfl rfl ?_
  refine J_iload_n d_M_put_0 rfl ?_
  refine J_if_lt (tgt := 20) d_M_put_1 (by decide) (fun c => ?_) (fun c => ?_)
  · have h := j_ifp c h
    refine J_iconst (v := (-1 : Int32)) d_M_put_20 (by decide) ?_
    exact J_iret d_M_put_21 rfl rfl (by cases h; exact ⟨rfl, rfl⟩)
  · have h := j_ifn c h
    refine J_iload_n d_M_put_4 rfl ?_
    refine J_aload_n d_M_put_5 rfl ?_
    refine J_get (j := 2) (v := .int (s 2)) d_M_put_6 (wM_at0 _ _) rfl in_5 (by decide) ts_307 rfl ?_
    refine J_icmp_ge (tgt := 20) d_M_put_9 (by decide) (fun c => ?_) (fun c => ?_)
    · have h := j_ifp c h
      refine J_iconst (v := (-1 : Int32)) d_M_put_20 (by decide) ?_
      exact J_iret d_M_put_21 rfl rfl (by cases h; exact ⟨rfl, rfl⟩)
    · have h := j_ifn c h
      refine J_aload_n d_M_put_12 rfl ?_
      refine J_iload_n d_M_put_13 rfl ?_
      obtain ⟨v2, e1, h⟩ := jb_some h
      refine J_cVi1 d_M_put_14 (c_M_isClass l _ _ _ _ e1) (wM_at0 _ _) rfl ts_308 ts_good rfl rfl ts_278 ts_309 dy_M_isClass (by decide) (Nat.le_of_ble_eq_true rfl) ts_310 ts_311 ?_
      refine J_if_ne (tgt := 22) d_M_put_17 (by decide) (fun c => ?_) (fun c => ?_)
      · have h := j_ifn c h
        refine J_aload_n d_M_put_22 rfl ?_
        refine J_get (j := 11) (v := .ref 5) d_M_put_23 (wM_at0 _ _) rfl in_5 (by decide) ts_375 rfl ?_
        refine J_bipush (v := (20 : Int32)) d_M_put_26 (by decide) ?_
        refine J_iload_n d_M_put_28 rfl ?_
        refine J_imul d_M_put_29 ?_
        refine J_iload_n d_M_put_30 rfl ?_
        refine J_iadd d_M_put_31 ?_
        obtain ⟨g, h⟩ := jg_some h
        refine J_zald (f := (a 5)) d_M_put_32 (wM_at5 _ _) (jin_in g) ?_
        obtain ⟨y3, qy3, h⟩ := jb_some h
        refine J_topi (Option.some.inj qy3) ?_
        refine J_istore_n d_M_put_33 (by decide) ?_
        refine J_aload_n d_M_put_34 rfl ?_
        refine J_get (j := 11) (v := .ref 5) d_M_put_35 (wM_at0 _ _) rfl in_5 (by decide) ts_375 rfl ?_
        refine J_bipush (v := (20 : Int32)) d_M_put_38 (by decide) ?_
        refine J_iload_n d_M_put_40 rfl ?_
        refine J_imul d_M_put_41 ?_
        refine J_iload_n d_M_put_42 rfl ?_
        refine J_iadd d_M_put_43 ?_
        refine J_iconst (v := (1 : Int32)) d_M_put_44 (by decide) ?_
        obtain ⟨g, h⟩ := jg_some h
        refine J_zast (f := (a 5)) d_M_put_45 (wM_at5 _ _) (jin_in g) ?_
        refine J_eq (ws' := wM s (va_up a 5 (upd (a 5) ((((20 : Int32) * p0) + p1)).toNatClampNeg (1 : Int32)))) rfl rfl rfl (wM_ast5 _ _ _) ?_
        refine J_iload_n d_M_put_46 rfl ?_
        obtain ⟨b4, hb4, h⟩ := jb_some h
        have kb4 : K_M_put l 55 [some (.ref 0), some (.int p0), some (.int p1), some (.int y3)] [.int b4] (wM s (va_up a 5 (upd (a 5) ((((20 : Int32) * p0) + p1)).toNatClampNeg (1 : Int32)))) (fun v w => v = some (.int r.1) ∧ w = wM r.2.1 r.2.2) := by
          exact J_iret d_M_put_55 rfl rfl (by cases h; exact ⟨rfl, rfl⟩)
        clear h
        have h := hb4
        refine J_if_eq (tgt := 54) d_M_put_47 (by decide) (fun c => ?_) (fun c => ?_)
        · have h := j_ifp c h
          refine J_iconst (v := (1 : Int32)) d_M_put_54 (by decide) ?_
          cases h
          exact kb4
        · have h := j_ifn c h
          refine J_iconst (v := (0 : Int32)) d_M_put_50 (by decide) ?_
          refine J_goto (tgt := 55) d_M_put_51 (by decide) ?_
          cases h
          exact kb4
      · have h := j_ifp c h
        refine J_iconst (v := (-1 : Int32)) d_M_put_20 (by decide) ?_
        exact J_iret d_M_put_21 rfl rfl (by cases h; exact ⟨rfl, rfl⟩)
abbrev rm_M_reasonThing : Room := { frames := 1, cells := 0, slots := 0, locals := 24 }
abbrev K_M_reasonThing (l : Launch) := JW l vwCl NsG TsG "ClassifySortModel" prog_7_method_14_code 4 (some .int) rm_M_reasonThing
def L_M_reasonThing_2 (c1 : Int32) (k45 : jS → jB → Option (Int32 × jS × jB)) : Nat → jS → jB → Int32 → Option (Int32 × jS × jB)
  | 0, _, _, _ => none
  | f + 1, s, a, x3 => (if (20 : Int32) < x3 then k45 (s) (a) else jb (if (20 : Int32) ≤ x3 then some (0 : Int32) else jg (jin (((20 : Int32) * c1) + x3) 160) ((if ((a 5) ((((20 : Int32) * c1) + x3)).toNatClampNeg) = (0 : Int32) then some (0 : Int32) else some (1 : Int32)))) (fun b1 => jg (jin x3 21) (L_M_reasonThing_2 c1 k45 f (s) ((va_up a 10 (upd (a 10) (x3).toNatClampNeg (vp_nar .boolean b1)))) ((x3 + (1 : Int32))))))
set_option maxRecDepth 100000 in
set_option maxHeartbeats 4000000 in
theorem JL_M_reasonThing_2 (l : Launch) (c1 : Int32) (c2 : Int32) (k45 : jS → jB → Option (Int32 × jS × jB)) (r : Int32 × jS × jB) (hk45 : ∀ (s : jS) (a : jB) (o3 : Option Value), k45 s a = some r → K_M_reasonThing l 45 [some (.ref 0), some (.int c1), some (.int c2), o3] [] (wM s a) (fun v w => v = some (.int r.1) ∧ w = wM r.2.1 r.2.2)) : ∀ (f : Nat), ∀ (s : jS) (a : jB) (x3 : Int32), L_M_reasonThing_2 c1 k45 f s a x3 = some r → K_M_reasonThing l 2 [some (.ref 0), some (.int c1), some (.int c2), some (.int x3)] [] (wM s a) (fun v w => v = some (.int r.1) ∧ w = wM r.2.1 r.2.2) := by
  intro f
  induction f with
  | zero =>
    intro s a x3 h
    cases h
  | succ f ih =>
    intro s a x3 h
    rw [L_M_reasonThing_2] at h
    refine J_iload_n d_M_reasonThing_2 rfl ?_
    refine J_bipush (v := (20 : Int32)) d_M_reasonThing_3 (by decide) ?_
    refine J_icmp_gt (tgt := 45) d_M_reasonThing_5 (by decide) (fun c => ?_) (fun c => ?_)
    · have h := j_ifp c h
      exact hk45 _ _ _ h
    · have h := j_ifn c h
      refine J_aload_n d_M_reasonThing_8 rfl ?_
      refine J_get (j := 16) (v := .ref 10) d_M_reasonThing_9 (wM_at0 _ _) rfl in_5 (by decide) ts_331 rfl ?_
      refine J_iload_n d_M_reasonThing_12 rfl ?_
      refine J_iload_n d_M_reasonThing_13 rfl ?_
      refine J_bipush (v := (20 : Int32)) d_M_reasonThing_14 (by decide) ?_
      obtain ⟨b1, hb1, h⟩ := jb_some h
      have kb1 : K_M_reasonThing l 38 [some (.ref 0), some (.int c1), some (.int c2), some (.int x3)] [.int b1, .int x3, .ref 10] (wM s a) (fun v w => v = some (.int r.1) ∧ w = wM r.2.1 r.2.2) := by
        obtain ⟨g, h⟩ := jg_some h
        refine J_zast (f := (a 10)) d_M_reasonThing_38 (wM_at10 _ _) (jin_in g) ?_
        refine J_eq (ws' := wM s (va_up a 10 (upd (a 10) (x3).toNatClampNeg (vp_nar .boolean b1)))) rfl rfl rfl (wM_ast10 _ _ _) ?_
        refine J_iinc (v := (x3 + (1 : Int32))) d_M_reasonThing_39 rfl (by first | rfl | decide) (by decide) ?_
        refine J_goto (tgt := 2) d_M_reasonThing_42 (by decide) ?_
        exact ih _ _ _ h
      clear h
      have h := hb1
      refine J_icmp_ge (tgt := 37) d_M_reasonThing_16 (by decide) (fun c => ?_) (fun c => ?_)
      · have h := j_ifp c h
        refine J_iconst (v := (0 : Int32)) d_M_reasonThing_37 (by decide) ?_
        cases h
        exact kb1
      · have h := j_ifn c h
        refine J_aload_n d_M_reasonThing_19 rfl ?_
        refine J_get (j := 11) (v := .ref 5) d_M_reasonThing_20 (wM_at0 _ _) rfl in_5 (by decide) ts_375 rfl ?_
        refine J_bipush (v := (20 : Int32)) d_M_reasonThing_23 (by decide) ?_
        refine J_iload_n d_M_reasonThing_25 rfl ?_
        refine J_imul d_M_reasonThing_26 ?_
        refine J_iload_n d_M_reasonThing_27 rfl ?_
        refine J_iadd d_M_reasonThing_28 ?_
        obtain ⟨g, h⟩ := jg_some h
        refine J_zald (f := (a 5)) d_M_reasonThing_29 (wM_at5 _ _) (jin_in g) ?_
        refine J_if_eq (tgt := 37) d_M_reasonThing_30 (by decide) (fun c => ?_) (fun c => ?_)
        · have h := j_ifp c h
          refine J_iconst (v := (0 : Int32)) d_M_reasonThing_37 (by decide) ?_
          cases h
          exact kb1
        · have h := j_ifn c h
          refine J_iconst (v := (1 : Int32)) d_M_reasonThing_33 (by decide) ?_
          refine J_goto (tgt := 38) d_M_reasonThing_34 (by decide) ?_
          cases h
          exact kb1
def m_M_reasonThing (s : jS) (a : jB) (p0 : Int32) (p1 : Int32) : Option (Int32 × jS × jB) := L_M_reasonThing_2 (p0) (fun s2 a3 => jb3 (m_M_reason s2 a3 p1) (fun v8 s6 a7 => some (v8, s6, a7))) jF (s) (a) ((0 : Int32))
set_option maxRecDepth 100000 in
set_option maxHeartbeats 4000000 in
theorem c_M_reasonThing (l : Launch) (s : jS) (a : jB) (p0 : Int32) (p1 : Int32) (r : Int32 × jS × jB) (h : m_M_reasonThing s a p0 p1 = some r) : JMet l vwCl NsG (.code y_M_reasonThing prog_7_method_14_code 4 (some .int) :: TsG) y_M_reasonThing rm_M_reasonThing [.ref 0, .int p0, .int p1] (wM s a) (fun v w => v = some (.int r.1) ∧ w = wM r.2.1 r.2.2) := by
  refine J_enter (by decide +kernel) rfl (Nat.le_of_ble_eq_true rfl) ?_
  unfold m_M_reasonThing at h
  refine J_eq (ls' := [some (.ref 0), some (.int p0), some (.int p1), none]) rfl rfl rfl rfl ?_
  refine J_iconst (v := (0 : Int32)) d_M_reasonThing_0 (by decide) ?_
  refine J_istore_n d_M_reasonThing_1 (by decide) ?_
  refine JL_M_reasonThing_2 l _ _ _ r (fun s2 a3 o4 h => ?_) jF _ _ _ h
  refine J_aload_n d_M_reasonThing_45 rfl ?_
  refine J_iload_n d_M_reasonThing_46 rfl ?_
  obtain ⟨v8, s6, a7, e5, h⟩ := jb3_some h
  refine J_cVi1 d_M_reasonThing_47 (c_M_reason l _ _ _ _ e5) (wM_at0 _ _) rfl ts_335 ts_good rfl rfl ts_278 ts_336 dy_M_reason (by decide) (Nat.le_of_ble_eq_true rfl) ts_337 ts_338 ?_
  exact J_iret d_M_reasonThing_50 rfl rfl (by cases h; exact ⟨rfl, rfl⟩)
abbrev rm_M_isIn : Room := { frames := 2, cells := 0, slots := 0, locals := 47 }
abbrev K_M_isIn (l : Launch) := JW l vwCl NsG TsG "ClassifySortModel" prog_7_method_39_code 3 (some .boolean) rm_M_isIn
def m_M_isIn (s : jS) (a : jB) (p0 : Int32) (p1 : Int32) : Option (Int32 × jS × jB) := jb3 (m_M_reasonThing s a p0 p1) (fun v4 s2 a3 => jb (if v4 = (1 : Int32) then some (1 : Int32) else some (0 : Int32)) (fun b5 => jg (jz b5) (some (b5, s2, a3))))
set_option maxRecDepth 100000 in
set_option maxHeartbeats 4000000 in
theorem c_M_isIn (l : Launch) (s : jS) (a : jB) (p0 : Int32) (p1 : Int32) (r : Int32 × jS × jB) (h : m_M_isIn s a p0 p1 = some r) : JMet l vwCl NsG (.code y_M_isIn prog_7_method_39_code 3 (some .boolean) :: TsG) y_M_isIn rm_M_isIn [.ref 0, .int p0, .int p1] (wM s a) (fun v w => v = some (.int r.1) ∧ w = wM r.2.1 r.2.2) := by
  refine J_enter (by decide +kernel) rfl (Nat.le_of_ble_eq_true rfl) ?_
  unfold m_M_isIn at h
  refine J_eq (ls' := [some (.ref 0), some (.int p0), some (.int p1)]) rfl rfl rfl rfl ?_
  refine J_aload_n d_M_isIn_0 rfl ?_
  refine J_iload_n d_M_isIn_1 rfl ?_
  refine J_iload_n d_M_isIn_2 rfl ?_
  obtain ⟨v4, s2, a3, e1, h⟩ := jb3_some h
  refine J_cVi2 d_M_isIn_3 (c_M_reasonThing l _ _ _ _ _ e1) (wM_at0 _ _) rfl ts_376 ts_good rfl rfl ts_278 ts_377 dy_M_reasonThing (by decide) (Nat.le_of_ble_eq_true rfl) ts_378 ts_379 ?_
  refine J_iconst (v := (1 : Int32)) d_M_isIn_6 (by decide) ?_
  obtain ⟨b5, hb5, h⟩ := jb_some h
  have kb5 : K_M_isIn l 15 [some (.ref 0), some (.int p0), some (.int p1)] [.int b5] (wM s2 a3) (fun v w => v = some (.int r.1) ∧ w = wM r.2.1 r.2.2) := by
    obtain ⟨g, h⟩ := jg_some h
    exact J_iret d_M_isIn_15 rfl (jz_nar g) (by cases h; exact ⟨rfl, rfl⟩)
  clear h
  have h := hb5
  refine J_icmp_ne (tgt := 14) d_M_isIn_7 (by decide) (fun c => ?_) (fun c => ?_)
  · have h := j_ifn c h
    refine J_iconst (v := (0 : Int32)) d_M_isIn_14 (by decide) ?_
    cases h
    exact kb5
  · have h := j_ifp c h
    refine J_iconst (v := (1 : Int32)) d_M_isIn_10 (by decide) ?_
    refine J_goto (tgt := 15) d_M_isIn_11 (by decide) ?_
    cases h
    exact kb5
abbrev rm_M_type : Room := { frames := 3, cells := 0, slots := 0, locals := 69 }
abbrev K_M_type (l : Launch) := JW l vwCl NsG TsG "ClassifySortModel" prog_7_method_40_code 7 (some .int) rm_M_type
def L_M_type_95 (c1 : Int32) (c4 : Int32) (k153 : jS → jB → Int32 → Option (Int32 × jS × jB)) : Nat → jS → jB → Int32 → Int32 → Option (Int32 × jS × jB)
  | 0, _, _, _, _ => none
  | f + 1, s, a, x5, x6 => (if (s 1) ≤ x6 then k153 (s) (a) (x5) else (if x5 = (0 : Int32) then k153 (s) (a) (x5) else jg (jin x6 20) ((if ((a 8) (x6).toNatClampNeg) = (0 : Int32) then L_M_type_95 c1 c4 k153 f (s) (a) ((1 : Int32)) ((x6 + (1 : Int32))) else jb (m_M_isDirect s a x6 c4) (fun v6 => (if v6 = (0 : Int32) then L_M_type_95 c1 c4 k153 f (s) (a) ((1 : Int32)) ((x6 + (1 : Int32))) else jb3 (m_M_isIn s a c1 x6) (fun v10 s8 a9 => jb (if v10 = (0 : Int32) then some (1 : Int32) else some (0 : Int32)) (fun b11 => L_M_type_95 c1 c4 k153 f (s8) (a9) (b11) ((x6 + (1 : Int32)))))))))))
set_option maxRecDepth 100000 in
set_option maxHeartbeats 4000000 in
theorem JL_M_type_95 (l : Launch) (c1 : Int32) (c4 : Int32) (c2 : Int32) (c3 : Int32) (k153 : jS → jB → Int32 → Option (Int32 × jS × jB)) (r : Int32 × jS × jB) (hk153 : ∀ (s : jS) (a : jB) (x5 : Int32) (o6 : Option Value), k153 s a x5 = some r → K_M_type l 153 [some (.ref 0), some (.int c1), some (.int c2), some (.int c3), some (.int c4), some (.int x5), o6] [] (wM s a) (fun v w => v = some (.int r.1) ∧ w = wM r.2.1 r.2.2)) : ∀ (f : Nat), ∀ (s : jS) (a : jB) (x5 : Int32) (x6 : Int32), L_M_type_95 c1 c4 k153 f s a x5 x6 = some r → K_M_type l 95 [some (.ref 0), some (.int c1), some (.int c2), some (.int c3), some (.int c4), some (.int x5), some (.int x6)] [] (wM s a) (fun v w => v = some (.int r.1) ∧ w = wM r.2.1 r.2.2) := by
  intro f
  induction f with
  | zero =>
    intro s a x5 x6 h
    cases h
  | succ f ih =>
    intro s a x5 x6 h
    rw [L_M_type_95] at h
    refine J_iload d_M_type_95 rfl ?_
    refine J_aload_n d_M_type_97 rfl ?_
    refine J_get (j := 1) (v := .int (s 1)) d_M_type_98 (wM_at0 _ _) rfl in_5 (by decide) ts_270 rfl ?_
    refine J_icmp_ge (tgt := 153) d_M_type_101 (by decide) (fun c => ?_) (fun c => ?_)
    · have h := j_ifp c h
      exact hk153 _ _ _ _ h
    · have h := j_ifn c h
      refine J_iload d_M_type_104 rfl ?_
      refine J_if_eq (tgt := 153) d_M_type_106 (by decide) (fun c => ?_) (fun c => ?_)
      · have h := j_ifp c h
        exact hk153 _ _ _ _ h
      · have h := j_ifn c h
        refine J_aload_n d_M_type_109 rfl ?_
        refine J_get (j := 14) (v := .ref 8) d_M_type_110 (wM_at0 _ _) rfl in_5 (by decide) ts_344 rfl ?_
        refine J_iload d_M_type_113 rfl ?_
        obtain ⟨g, h⟩ := jg_some h
        refine J_zald (f := (a 8)) d_M_type_115 (wM_at8 _ _) (jin_in g) ?_
        refine J_if_eq (tgt := 140) d_M_type_116 (by decide) (fun c => ?_) (fun c => ?_)
        · have h := j_ifp c h
          refine J_iconst (v := (1 : Int32)) d_M_type_140 (by decide) ?_
          refine J_goto (tgt := 145) d_M_type_141 (by decide) ?_
          refine J_istore d_M_type_145 (by decide) ?_
          refine J_iinc (v := (x6 + (1 : Int32))) d_M_type_147 rfl (by first | rfl | decide) (by decide) ?_
          refine J_goto (tgt := 95) d_M_type_150 (by decide) ?_
          exact ih _ _ _ _ h
        · have h := j_ifn c h
          refine J_aload_n d_M_type_119 rfl ?_
          refine J_iload d_M_type_120 rfl ?_
          refine J_iload d_M_type_122 rfl ?_
          obtain ⟨v6, e5, h⟩ := jb_some h
          refine J_cVi2 d_M_type_124 (c_M_isDirect l _ _ _ _ _ e5) (wM_at0 _ _) rfl ts_354 ts_good rfl rfl ts_278 ts_355 dy_M_isDirect (by decide) (Nat.le_of_ble_eq_true rfl) ts_356 ts_357 ?_
          refine J_if_eq (tgt := 140) d_M_type_127 (by decide) (fun c => ?_) (fun c => ?_)
          · have h := j_ifp c h
            refine J_iconst (v := (1 : Int32)) d_M_type_140 (by decide) ?_
            refine J_goto (tgt := 145) d_M_type_141 (by decide) ?_
            refine J_istore d_M_type_145 (by decide) ?_
            refine J_iinc (v := (x6 + (1 : Int32))) d_M_type_147 rfl (by first | rfl | decide) (by decide) ?_
            refine J_goto (tgt := 95) d_M_type_150 (by decide) ?_
            exact ih _ _ _ _ h
          · have h := j_ifn c h
            refine J_aload_n d_M_type_130 rfl ?_
            refine J_iload_n d_M_type_131 rfl ?_
            refine J_iload d_M_type_132 rfl ?_
            obtain ⟨v10, s8, a9, e7, h⟩ := jb3_some h
            refine J_cVi2 d_M_type_134 (c_M_isIn l _ _ _ _ _ e7) (wM_at0 _ _) rfl ts_380 ts_good rfl rfl ts_278 ts_381 dy_M_isIn (by decide) (Nat.le_of_ble_eq_true rfl) ts_382 ts_383 ?_
            obtain ⟨b11, hb11, h⟩ := jb_some h
            have kb11 : K_M_type l 145 [some (.ref 0), some (.int c1), some (.int c2), some (.int c3), some (.int c4), some (.int x5), some (.int x6)] [.int b11] (wM s8 a9) (fun v w => v = some (.int r.1) ∧ w = wM r.2.1 r.2.2) := by
              refine J_istore d_M_type_145 (by decide) ?_
              refine J_iinc (v := (x6 + (1 : Int32))) d_M_type_147 rfl (by first | rfl | decide) (by decide) ?_
              refine J_goto (tgt := 95) d_M_type_150 (by decide) ?_
              exact ih _ _ _ _ h
            clear h
            have h := hb11
            refine J_if_ne (tgt := 144) d_M_type_137 (by decide) (fun c => ?_) (fun c => ?_)
            · have h := j_ifn c h
              refine J_iconst (v := (0 : Int32)) d_M_type_144 (by decide) ?_
              cases h
              exact kb11
            · have h := j_ifp c h
              refine J_iconst (v := (1 : Int32)) d_M_type_140 (by decide) ?_
              refine J_goto (tgt := 145) d_M_type_141 (by decide) ?_
              cases h
              exact kb11
def L_M_type_43 (c1 : Int32) (c2 : Int32) (k184 : jS → jB → Option (Int32 × jS × jB)) : Nat → jS → jB → Int32 → Int32 → Option (Int32 × jS × jB)
  | 0, _, _, _, _ => none
  | f + 1, s, a, x3, x4 => (if (s 1) ≤ x4 then k184 (s) (a) else (if c2 < (0 : Int32) then k184 (s) (a) else jg (jin x4 20) ((if ((a 8) (x4).toNatClampNeg) = (0 : Int32) then L_M_type_95 (c1) (x4) (fun s12 a13 x14 => (if x14 = (0 : Int32) then jb (if x14 = (0 : Int32) then some (0 : Int32) else some (1 : Int32)) (fun b16 => L_M_type_43 c1 c2 k184 f (s12) (a13) ((x3 - b16)) ((x4 + (1 : Int32)))) else (if x3 = (0 : Int32) then some (x4, s12, a13) else jb (if x14 = (0 : Int32) then some (0 : Int32) else some (1 : Int32)) (fun b17 => L_M_type_43 c1 c2 k184 f (s12) (a13) ((x3 - b17)) ((x4 + (1 : Int32))))))) jF (s) (a) ((0 : Int32)) ((0 : Int32)) else jb (m_M_isSecond s a x4) (fun v19 => (if v19 = (0 : Int32) then jb3 (m_M_isIn s a c1 x4) (fun v29 s27 a28 => jb (if v29 = (0 : Int32) then some (0 : Int32) else some (1 : Int32)) (fun b30 => L_M_type_95 (c1) (x4) (fun s31 a32 x33 => (if x33 = (0 : Int32) then jb (if x33 = (0 : Int32) then some (0 : Int32) else some (1 : Int32)) (fun b35 => L_M_type_43 c1 c2 k184 f (s31) (a32) ((x3 - b35)) ((x4 + (1 : Int32)))) else (if x3 = (0 : Int32) then some (x4, s31, a32) else jb (if x33 = (0 : Int32) then some (0 : Int32) else some (1 : Int32)) (fun b36 => L_M_type_43 c1 c2 k184 f (s31) (a32) ((x3 - b36)) ((x4 + (1 : Int32))))))) jF (s27) (a28) (b30) ((0 : Int32)))) else L_M_type_95 (c1) (x4) (fun s20 a21 x22 => (if x22 = (0 : Int32) then jb (if x22 = (0 : Int32) then some (0 : Int32) else some (1 : Int32)) (fun b24 => L_M_type_43 c1 c2 k184 f (s20) (a21) ((x3 - b24)) ((x4 + (1 : Int32)))) else (if x3 = (0 : Int32) then some (x4, s20, a21) else jb (if x22 = (0 : Int32) then some (0 : Int32) else some (1 : Int32)) (fun b25 => L_M_type_43 c1 c2 k184 f (s20) (a21) ((x3 - b25)) ((x4 + (1 : Int32))))))) jF (s) (a) ((0 : Int32)) ((0 : Int32))))))))
set_option maxRecDepth 100000 in
set_option maxHeartbeats 4000000 in
theorem JL_M_type_43 (l : Launch) (c1 : Int32) (c2 : Int32) (k184 : jS → jB → Option (Int32 × jS × jB)) (r : Int32 × jS × jB) (hk184 : ∀ (s : jS) (a : jB) (o3 : Option Value) (o4 : Option Value) (o5 : Option Value) (o6 : Option Value), k184 s a = some r → K_M_type l 184 [some (.ref 0), some (.int c1), some (.int c2), o3, o4, o5, o6] [] (wM s a) (fun v w => v = some (.int r.1) ∧ w = wM r.2.1 r.2.2)) : ∀ (f : Nat), ∀ (s : jS) (a : jB) (x3 : Int32) (x4 : Int32) (o5 : Option Value) (o6 : Option Value), L_M_type_43 c1 c2 k184 f s a x3 x4 = some r → K_M_type l 43 [some (.ref 0), some (.int c1), some (.int c2), some (.int x3), some (.int x4), o5, o6] [] (wM s a) (fun v w => v = some (.int r.1) ∧ w = wM r.2.1 r.2.2) := by
  intro f
  induction f with
  | zero =>
    intro s a x3 x4 o5 o6 h
    cases h
  | succ f ih =>
    intro s a x3 x4 o5 o6 h
    rw [L_M_type_43] at h
    refine J_iload d_M_type_43 rfl ?_
    refine J_aload_n d_M_type_45 rfl ?_
    refine J_get (j := 1) (v := .int (s 1)) d_M_type_46 (wM_at0 _ _) rfl in_5 (by decide) ts_270 rfl ?_
    refine J_icmp_ge (tgt := 184) d_M_type_49 (by decide) (fun c => ?_) (fun c => ?_)
    · have h := j_ifp c h
      exact hk184 _ _ _ _ _ _ h
    · have h := j_ifn c h
      refine J_iload_n d_M_type_52 rfl ?_
      refine J_if_lt (tgt := 184) d_M_type_53 (by decide) (fun c => ?_) (fun c => ?_)
      · have h := j_ifp c h
        exact hk184 _ _ _ _ _ _ h
      · have h := j_ifn c h
        refine J_aload_n d_M_type_56 rfl ?_
        refine J_get (j := 14) (v := .ref 8) d_M_type_57 (wM_at0 _ _) rfl in_5 (by decide) ts_344 rfl ?_
        refine J_iload d_M_type_60 rfl ?_
        obtain ⟨g, h⟩ := jg_some h
        refine J_zald (f := (a 8)) d_M_type_62 (wM_at8 _ _) (jin_in g) ?_
        refine J_if_eq (tgt := 89) d_M_type_63 (by decide) (fun c => ?_) (fun c => ?_)
        · have h := j_ifp c h
          refine J_iconst (v := (0 : Int32)) d_M_type_89 (by decide) ?_
          refine J_istore d_M_type_90 (by decide) ?_
          refine J_iconst (v := (0 : Int32)) d_M_type_92 (by decide) ?_
          refine J_istore d_M_type_93 (by decide) ?_
          refine JL_M_type_95 l _ _ _ _ _ r (fun s12 a13 x14 o15 h => ?_) jF _ _ _ _ h
          refine J_iload d_M_type_153 rfl ?_
          refine J_if_eq (tgt := 165) d_M_type_155 (by decide) (fun c => ?_) (fun c => ?_)
          · have h := j_ifp c h
            refine J_iload_n d_M_type_165 rfl ?_
            refine J_iload d_M_type_166 rfl ?_
            obtain ⟨b16, hb16, h⟩ := jb_some h
            have kb16 : K_M_type l 176 [some (.ref 0), some (.int c1), some (.int c2), some (.int x3), some (.int x4), some (.int x14), o15] [.int b16, .int x3] (wM s12 a13) (fun v w => v = some (.int r.1) ∧ w = wM r.2.1 r.2.2) := by
              refine J_isub d_M_type_176 ?_
              refine J_istore_n d_M_type_177 (by decide) ?_
              refine J_iinc (v := (x4 + (1 : Int32))) d_M_type_178 rfl (by first | rfl | decide) (by decide) ?_
              refine J_goto (tgt := 43) d_M_type_181 (by decide) ?_
              exact ih _ _ _ _ _ _ h
            clear h
            have h := hb16
            refine J_if_eq (tgt := 175) d_M_type_168 (by decide) (fun c => ?_) (fun c => ?_)
            · have h := j_ifp c h
              refine J_iconst (v := (0 : Int32)) d_M_type_175 (by decide) ?_
              cases h
              exact kb16
            · have h := j_ifn c h
              refine J_iconst (v := (1 : Int32)) d_M_type_171 (by decide) ?_
              refine J_goto (tgt := 176) d_M_type_172 (by decide) ?_
              cases h
              exact kb16
          · have h := j_ifn c h
            refine J_iload_n d_M_type_158 rfl ?_
            refine J_if_ne (tgt := 165) d_M_type_159 (by decide) (fun c => ?_) (fun c => ?_)
            · have h := j_ifn c h
              refine J_iload_n d_M_type_165 rfl ?_
              refine J_iload d_M_type_166 rfl ?_
              obtain ⟨b17, hb17, h⟩ := jb_some h
              have kb17 : K_M_type l 176 [some (.ref 0), some (.int c1), some (.int c2), some (.int x3), some (.int x4), some (.int x14), o15] [.int b17, .int x3] (wM s12 a13) (fun v w => v = some (.int r.1) ∧ w = wM r.2.1 r.2.2) := by
                refine J_isub d_M_type_176 ?_
                refine J_istore_n d_M_type_177 (by decide) ?_
                refine J_iinc (v := (x4 + (1 : Int32))) d_M_type_178 rfl (by first | rfl | decide) (by decide) ?_
                refine J_goto (tgt := 43) d_M_type_181 (by decide) ?_
                exact ih _ _ _ _ _ _ h
              clear h
              have h := hb17
              refine J_if_eq (tgt := 175) d_M_type_168 (by decide) (fun c => ?_) (fun c => ?_)
              · have h := j_ifp c h
                refine J_iconst (v := (0 : Int32)) d_M_type_175 (by decide) ?_
                cases h
                exact kb17
              · have h := j_ifn c h
                refine J_iconst (v := (1 : Int32)) d_M_type_171 (by decide) ?_
                refine J_goto (tgt := 176) d_M_type_172 (by decide) ?_
                cases h
                exact kb17
            · have h := j_ifp c h
              refine J_iload d_M_type_162 rfl ?_
              exact J_iret d_M_type_164 rfl rfl (by cases h; exact ⟨rfl, rfl⟩)
        · have h := j_ifn c h
          refine J_aload_n d_M_type_66 rfl ?_
          refine J_iload d_M_type_67 rfl ?_
          obtain ⟨v19, e18, h⟩ := jb_some h
          refine J_cVi1 d_M_type_69 (c_M_isSecond l _ _ _ _ e18) (wM_at0 _ _) rfl ts_367 ts_good rfl rfl ts_278 ts_368 dy_M_isSecond (by decide) (Nat.le_of_ble_eq_true rfl) ts_369 ts_370 ?_
          refine J_if_ne (tgt := 89) d_M_type_72 (by decide) (fun c => ?_) (fun c => ?_)
          · have h := j_ifn c h
            refine J_iconst (v := (0 : Int32)) d_M_type_89 (by decide) ?_
            refine J_istore d_M_type_90 (by decide) ?_
            refine J_iconst (v := (0 : Int32)) d_M_type_92 (by decide) ?_
            refine J_istore d_M_type_93 (by decide) ?_
            refine JL_M_type_95 l _ _ _ _ _ r (fun s20 a21 x22 o23 h => ?_) jF _ _ _ _ h
            refine J_iload d_M_type_153 rfl ?_
            refine J_if_eq (tgt := 165) d_M_type_155 (by decide) (fun c => ?_) (fun c => ?_)
            · have h := j_ifp c h
              refine J_iload_n d_M_type_165 rfl ?_
              refine J_iload d_M_type_166 rfl ?_
              obtain ⟨b24, hb24, h⟩ := jb_some h
              have kb24 : K_M_type l 176 [some (.ref 0), some (.int c1), some (.int c2), some (.int x3), some (.int x4), some (.int x22), o23] [.int b24, .int x3] (wM s20 a21) (fun v w => v = some (.int r.1) ∧ w = wM r.2.1 r.2.2) := by
                refine J_isub d_M_type_176 ?_
                refine J_istore_n d_M_type_177 (by decide) ?_
                refine J_iinc (v := (x4 + (1 : Int32))) d_M_type_178 rfl (by first | rfl | decide) (by decide) ?_
                refine J_goto (tgt := 43) d_M_type_181 (by decide) ?_
                exact ih _ _ _ _ _ _ h
              clear h
              have h := hb24
              refine J_if_eq (tgt := 175) d_M_type_168 (by decide) (fun c => ?_) (fun c => ?_)
              · have h := j_ifp c h
                refine J_iconst (v := (0 : Int32)) d_M_type_175 (by decide) ?_
                cases h
                exact kb24
              · have h := j_ifn c h
                refine J_iconst (v := (1 : Int32)) d_M_type_171 (by decide) ?_
                refine J_goto (tgt := 176) d_M_type_172 (by decide) ?_
                cases h
                exact kb24
            · have h := j_ifn c h
              refine J_iload_n d_M_type_158 rfl ?_
              refine J_if_ne (tgt := 165) d_M_type_159 (by decide) (fun c => ?_) (fun c => ?_)
              · have h := j_ifn c h
                refine J_iload_n d_M_type_165 rfl ?_
                refine J_iload d_M_type_166 rfl ?_
                obtain ⟨b25, hb25, h⟩ := jb_some h
                have kb25 : K_M_type l 176 [some (.ref 0), some (.int c1), some (.int c2), some (.int x3), some (.int x4), some (.int x22), o23] [.int b25, .int x3] (wM s20 a21) (fun v w => v = some (.int r.1) ∧ w = wM r.2.1 r.2.2) := by
                  refine J_isub d_M_type_176 ?_
                  refine J_istore_n d_M_type_177 (by decide) ?_
                  refine J_iinc (v := (x4 + (1 : Int32))) d_M_type_178 rfl (by first | rfl | decide) (by decide) ?_
                  refine J_goto (tgt := 43) d_M_type_181 (by decide) ?_
                  exact ih _ _ _ _ _ _ h
                clear h
                have h := hb25
                refine J_if_eq (tgt := 175) d_M_type_168 (by decide) (fun c => ?_) (fun c => ?_)
                · have h := j_ifp c h
                  refine J_iconst (v := (0 : Int32)) d_M_type_175 (by decide) ?_
                  cases h
                  exact kb25
                · have h := j_ifn c h
                  refine J_iconst (v := (1 : Int32)) d_M_type_171 (by decide) ?_
                  refine J_goto (tgt := 176) d_M_type_172 (by decide) ?_
                  cases h
                  exact kb25
              · have h := j_ifp c h
                refine J_iload d_M_type_162 rfl ?_
                exact J_iret d_M_type_164 rfl rfl (by cases h; exact ⟨rfl, rfl⟩)
          · have h := j_ifp c h
            refine J_aload_n d_M_type_75 rfl ?_
            refine J_iload_n d_M_type_76 rfl ?_
            refine J_iload d_M_type_77 rfl ?_
            obtain ⟨v29, s27, a28, e26, h⟩ := jb3_some h
            refine J_cVi2 d_M_type_79 (c_M_isIn l _ _ _ _ _ e26) (wM_at0 _ _) rfl ts_380 ts_good rfl rfl ts_278 ts_381 dy_M_isIn (by decide) (Nat.le_of_ble_eq_true rfl) ts_382 ts_383 ?_
            obtain ⟨b30, hb30, h⟩ := jb_some h
            have kb30 : K_M_type l 90 [some (.ref 0), some (.int c1), some (.int c2), some (.int x3), some (.int x4), o5, o6] [.int b30] (wM s27 a28) (fun v w => v = some (.int r.1) ∧ w = wM r.2.1 r.2.2) := by
              refine J_istore d_M_type_90 (by decide) ?_
              refine J_iconst (v := (0 : Int32)) d_M_type_92 (by decide) ?_
              refine J_istore d_M_type_93 (by decide) ?_
              refine JL_M_type_95 l _ _ _ _ _ r (fun s31 a32 x33 o34 h => ?_) jF _ _ _ _ h
              refine J_iload d_M_type_153 rfl ?_
              refine J_if_eq (tgt := 165) d_M_type_155 (by decide) (fun c => ?_) (fun c => ?_)
              · have h := j_ifp c h
                refine J_iload_n d_M_type_165 rfl ?_
                refine J_iload d_M_type_166 rfl ?_
                obtain ⟨b35, hb35, h⟩ := jb_some h
                have kb35 : K_M_type l 176 [some (.ref 0), some (.int c1), some (.int c2), some (.int x3), some (.int x4), some (.int x33), o34] [.int b35, .int x3] (wM s31 a32) (fun v w => v = some (.int r.1) ∧ w = wM r.2.1 r.2.2) := by
                  refine J_isub d_M_type_176 ?_
                  refine J_istore_n d_M_type_177 (by decide) ?_
                  refine J_iinc (v := (x4 + (1 : Int32))) d_M_type_178 rfl (by first | rfl | decide) (by decide) ?_
                  refine J_goto (tgt := 43) d_M_type_181 (by decide) ?_
                  exact ih _ _ _ _ _ _ h
                clear h
                have h := hb35
                refine J_if_eq (tgt := 175) d_M_type_168 (by decide) (fun c => ?_) (fun c => ?_)
                · have h := j_ifp c h
                  refine J_iconst (v := (0 : Int32)) d_M_type_175 (by decide) ?_
                  cases h
                  exact kb35
                · have h := j_ifn c h
                  refine J_iconst (v := (1 : Int32)) d_M_type_171 (by decide) ?_
                  refine J_goto (tgt := 176) d_M_type_172 (by decide) ?_
                  cases h
                  exact kb35
              · have h := j_ifn c h
                refine J_iload_n d_M_type_158 rfl ?_
                refine J_if_ne (tgt := 165) d_M_type_159 (by decide) (fun c => ?_) (fun c => ?_)
                · have h := j_ifn c h
                  refine J_iload_n d_M_type_165 rfl ?_
                  refine J_iload d_M_type_166 rfl ?_
                  obtain ⟨b36, hb36, h⟩ := jb_some h
                  have kb36 : K_M_type l 176 [some (.ref 0), some (.int c1), some (.int c2), some (.int x3), some (.int x4), some (.int x33), o34] [.int b36, .int x3] (wM s31 a32) (fun v w => v = some (.int r.1) ∧ w = wM r.2.1 r.2.2) := by
                    refine J_isub d_M_type_176 ?_
                    refine J_istore_n d_M_type_177 (by decide) ?_
                    refine J_iinc (v := (x4 + (1 : Int32))) d_M_type_178 rfl (by first | rfl | decide) (by decide) ?_
                    refine J_goto (tgt := 43) d_M_type_181 (by decide) ?_
                    exact ih _ _ _ _ _ _ h
                  clear h
                  have h := hb36
                  refine J_if_eq (tgt := 175) d_M_type_168 (by decide) (fun c => ?_) (fun c => ?_)
                  · have h := j_ifp c h
                    refine J_iconst (v := (0 : Int32)) d_M_type_175 (by decide) ?_
                    cases h
                    exact kb36
                  · have h := j_ifn c h
                    refine J_iconst (v := (1 : Int32)) d_M_type_171 (by decide) ?_
                    refine J_goto (tgt := 176) d_M_type_172 (by decide) ?_
                    cases h
                    exact kb36
                · have h := j_ifp c h
                  refine J_iload d_M_type_162 rfl ?_
                  exact J_iret d_M_type_164 rfl rfl (by cases h; exact ⟨rfl, rfl⟩)
            clear h
            have h := hb30
            refine J_if_eq (tgt := 89) d_M_type_82 (by decide) (fun c => ?_) (fun c => ?_)
            · have h := j_ifp c h
              refine J_iconst (v := (0 : Int32)) d_M_type_89 (by decide) ?_
              cases h
              exact kb30
            · have h := j_ifn c h
              refine J_iconst (v := (1 : Int32)) d_M_type_85 (by decide) ?_
              refine J_goto (tgt := 90) d_M_type_86 (by decide) ?_
              cases h
              exact kb30
def m_M_type (s : jS) (a : jB) (p0 : Int32) (p1 : Int32) : Option (Int32 × jS × jB) := (if p0 < (0 : Int32) then some ((-1 : Int32), s, a) else (if p0 < (s 2) then (if (s 6) = (0 : Int32) then some ((-3 : Int32), s, a) else jb3 (m_M_reasonThing s a p0 (20 : Int32)) (fun v4 s2 a3 => (if v4 = (1 : Int32) then some ((-5 : Int32), s2, a3) else L_M_type_43 (p0) (p1) (fun s37 a38 => some ((-6 : Int32), s37, a38)) jF (s2) (a3) (p1) ((0 : Int32))))) else some ((-1 : Int32), s, a)))
set_option maxRecDepth 100000 in
set_option maxHeartbeats 4000000 in
theorem c_M_type (l : Launch) (s : jS) (a : jB) (p0 : Int32) (p1 : Int32) (r : Int32 × jS × jB) (h : m_M_type s a p0 p1 = some r) : JMet l vwCl NsG (.code y_M_type prog_7_method_40_code 7 (some .int) :: TsG) y_M_type rm_M_type [.ref 0, .int p0, .int p1] (wM s a) (fun v w => v = some (.int r.1) ∧ w = wM r.2.1 r.2.2) := by
  refine J_enter (by decide +kernel) rfl (Nat.le_of_ble_eq_true rfl) ?_
  unfold m_M_type at h
  refine J_eq (ls' := [some (.ref 0), some (.int p0), some (.int p1), none, none, none, none]) rfl rfl rfl rfl ?_
  refine J_iload_n d_M_type_0 rfl ?_
  refine J_if_lt (tgt := 12) d_M_type_1 (by decide) (fun c => ?_) (fun c => ?_)
  · have h := j_ifp c h
    refine J_iconst (v := (-1 : Int32)) d_M_type_12 (by decide) ?_
    exact J_iret d_M_type_13 rfl rfl (by cases h; exact ⟨rfl, rfl⟩)
  · have h := j_ifn c h
    refine J_iload_n d_M_type_4 rfl ?_
    refine J_aload_n d_M_type_5 rfl ?_
    refine J_get (j := 2) (v := .int (s 2)) d_M_type_6 (wM_at0 _ _) rfl in_5 (by decide) ts_307 rfl ?_
    refine J_icmp_lt (tgt := 14) d_M_type_9 (by decide) (fun c => ?_) (fun c => ?_)
    · have h := j_ifp c h
      refine J_aload_n d_M_type_14 rfl ?_
      refine J_get (j := 6) (v := .int (s 6)) d_M_type_15 (wM_at0 _ _) rfl in_5 (by decide) ts_271 rfl ?_
      refine J_if_ne (tgt := 24) d_M_type_18 (by decide) (fun c => ?_) (fun c => ?_)
      · have h := j_ifn c h
        refine J_aload_n d_M_type_24 rfl ?_
        refine J_iload_n d_M_type_25 rfl ?_
        refine J_bipush (v := (20 : Int32)) d_M_type_26 (by decide) ?_
        obtain ⟨v4, s2, a3, e1, h⟩ := jb3_some h
        refine J_cVi2 d_M_type_28 (c_M_reasonThing l _ _ _ _ _ e1) (wM_at0 _ _) rfl ts_376 ts_good rfl rfl ts_278 ts_377 dy_M_reasonThing (by decide) (Nat.le_of_ble_eq_true rfl) ts_378 ts_379 ?_
        refine J_iconst (v := (1 : Int32)) d_M_type_31 (by decide) ?_
        refine J_icmp_ne (tgt := 38) d_M_type_32 (by decide) (fun c => ?_) (fun c => ?_)
        · have h := j_ifn c h
          refine J_iload_n d_M_type_38 rfl ?_
          refine J_istore_n d_M_type_39 (by decide) ?_
          refine J_iconst (v := (0 : Int32)) d_M_type_40 (by decide) ?_
          refine J_istore d_M_type_41 (by decide) ?_
          refine JL_M_type_43 l _ _ _ r (fun s37 a38 o39 o40 o41 o42 h => ?_) jF _ _ _ _ _ _ h
          refine J_bipush (v := (-6 : Int32)) d_M_type_184 (by decide) ?_
          exact J_iret d_M_type_186 rfl rfl (by cases h; exact ⟨rfl, rfl⟩)
        · have h := j_ifp c h
          refine J_bipush (v := (-5 : Int32)) d_M_type_35 (by decide) ?_
          exact J_iret d_M_type_37 rfl rfl (by cases h; exact ⟨rfl, rfl⟩)
      · have h := j_ifp c h
        refine J_bipush (v := (-3 : Int32)) d_M_type_21 (by decide) ?_
        exact J_iret d_M_type_23 rfl rfl (by cases h; exact ⟨rfl, rfl⟩)
    · have h := j_ifn c h
      refine J_iconst (v := (-1 : Int32)) d_M_type_12 (by decide) ?_
      exact J_iret d_M_type_13 rfl rfl (by cases h; exact ⟨rfl, rfl⟩)
abbrev rm_M_trace : Room := { frames := 2, cells := 0, slots := 0, locals := 47 }
abbrev K_M_trace (l : Launch) := JW l vwCl NsG TsG "ClassifySortModel" prog_7_method_41_code 8 (some .int) rm_M_trace
def L_M_trace_46 (k67 : jS → jB → Option (Int32 × jS × jB)) : Nat → jS → jB → Int32 → Option (Int32 × jS × jB)
  | 0, _, _, _ => none
  | f + 1, s, a, x5 => (if (40 : Int32) ≤ x5 then k67 (s) (a) else jg (jin x5 40) (L_M_trace_46 k67 f (s) ((va_up a 13 (upd (a 13) (x5).toNatClampNeg (0 : Int32)))) ((x5 + (1 : Int32)))))
set_option maxRecDepth 100000 in
set_option maxHeartbeats 4000000 in
theorem JL_M_trace_46 (l : Launch) (c3 : Int32) (k67 : jS → jB → Option (Int32 × jS × jB)) (r : Int32 × jS × jB) (hk67 : ∀ (s : jS) (a : jB) (o1 : Option Value) (o2 : Option Value) (o4 : Option Value) (o5 : Option Value) (o6 : Option Value) (o7 : Option Value), k67 s a = some r → K_M_trace l 67 [some (.ref 0), o1, o2, some (.int c3), o4, o5, o6, o7] [] (wM s a) (fun v w => v = some (.int r.1) ∧ w = wM r.2.1 r.2.2)) : ∀ (f : Nat), ∀ (s : jS) (a : jB) (x5 : Int32) (o1 : Option Value) (o2 : Option Value) (o4 : Option Value) (o6 : Option Value) (o7 : Option Value), L_M_trace_46 k67 f s a x5 = some r → K_M_trace l 46 [some (.ref 0), o1, o2, some (.int c3), o4, some (.int x5), o6, o7] [] (wM s a) (fun v w => v = some (.int r.1) ∧ w = wM r.2.1 r.2.2) := by
  intro f
  induction f with
  | zero =>
    intro s a x5 o1 o2 o4 o6 o7 h
    cases h
  | succ f ih =>
    intro s a x5 o1 o2 o4 o6 o7 h
    rw [L_M_trace_46] at h
    refine J_iload d_M_trace_46 rfl ?_
    refine J_bipush (v := (40 : Int32)) d_M_trace_48 (by decide) ?_
    refine J_icmp_ge (tgt := 67) d_M_trace_50 (by decide) (fun c => ?_) (fun c => ?_)
    · have h := j_ifp c h
      exact hk67 _ _ _ _ _ _ _ _ h
    · have h := j_ifn c h
      refine J_aload_n d_M_trace_53 rfl ?_
      refine J_get (j := 20) (v := .ref 13) d_M_trace_54 (wM_at0 _ _) rfl in_5 (by decide) ts_384 rfl ?_
      refine J_iload d_M_trace_57 rfl ?_
      refine J_iconst (v := (0 : Int32)) d_M_trace_59 (by decide) ?_
      obtain ⟨g, h⟩ := jg_some h
      refine J_zast (f := (a 13)) d_M_trace_60 (wM_at13 _ _) (jin_in g) ?_
      refine J_eq (ws' := wM s (va_up a 13 (upd (a 13) (x5).toNatClampNeg (0 : Int32)))) rfl rfl rfl (wM_ast13 _ _ _) ?_
      refine J_iinc (v := (x5 + (1 : Int32))) d_M_trace_61 rfl (by first | rfl | decide) (by decide) ?_
      refine J_goto (tgt := 46) d_M_trace_64 (by decide) ?_
      exact ih _ _ _ _ _ _ _ _ h
def L_M_trace_92 (k198 : jS → jB → Option (Int32 × jS × jB)) : Nat → jS → jB → Int32 → Option (Int32 × jS × jB)
  | 0, _, _, _ => none
  | f + 1, s, a, x5 => (if x5 < (0 : Int32) then k198 (s) (a) else jg (jin x5 40) (jg (jin ((a 12) (x5).toNatClampNeg) 40) ((if ((a 13) (((a 12) (x5).toNatClampNeg)).toNatClampNeg) = (0 : Int32) then L_M_trace_92 k198 f (s) (a) ((x5 + (-1 : Int32))) else jg (jin ((a 12) (x5).toNatClampNeg) 40) (jg (jin ((a 1) (((a 12) (x5).toNatClampNeg)).toNatClampNeg) 21) ((if ((a 11) (((a 1) (((a 12) (x5).toNatClampNeg)).toNatClampNeg)).toNatClampNeg) < (0 : Int32) then jg (jin ((a 12) (x5).toNatClampNeg) 40) ((if ((a 2) (((a 12) (x5).toNatClampNeg)).toNatClampNeg) < (0 : Int32) then L_M_trace_92 k198 f (s) (a) ((x5 + (-1 : Int32))) else jg (jin ((a 12) (x5).toNatClampNeg) 40) (jg (jin ((a 2) (((a 12) (x5).toNatClampNeg)).toNatClampNeg) 21) ((if ((a 11) (((a 2) (((a 12) (x5).toNatClampNeg)).toNatClampNeg)).toNatClampNeg) < (0 : Int32) then L_M_trace_92 k198 f (s) (a) ((x5 + (-1 : Int32))) else jg (jin ((a 12) (x5).toNatClampNeg) 40) (jg (jin ((a 2) (((a 12) (x5).toNatClampNeg)).toNatClampNeg) 21) (jg (jin ((a 11) (((a 2) (((a 12) (x5).toNatClampNeg)).toNatClampNeg)).toNatClampNeg) 40) (L_M_trace_92 k198 f (s) ((va_up a 13 (upd (a 13) (((a 11) (((a 2) (((a 12) (x5).toNatClampNeg)).toNatClampNeg)).toNatClampNeg)).toNatClampNeg (1 : Int32)))) ((x5 + (-1 : Int32))))))))))) else jg (jin ((a 12) (x5).toNatClampNeg) 40) (jg (jin ((a 1) (((a 12) (x5).toNatClampNeg)).toNatClampNeg) 21) (jg (jin ((a 11) (((a 1) (((a 12) (x5).toNatClampNeg)).toNatClampNeg)).toNatClampNeg) 40) (jg (jin ((a 12) (x5).toNatClampNeg) 40) ((if (((va_up a 13 (upd (a 13) (((a 11) (((a 1) (((a 12) (x5).toNatClampNeg)).toNatClampNeg)).toNatClampNeg)).toNatClampNeg (1 : Int32))) 2) (((a 12) (x5).toNatClampNeg)).toNatClampNeg) < (0 : Int32) then L_M_trace_92 k198 f (s) ((va_up a 13 (upd (a 13) (((a 11) (((a 1) (((a 12) (x5).toNatClampNeg)).toNatClampNeg)).toNatClampNeg)).toNatClampNeg (1 : Int32)))) ((x5 + (-1 : Int32))) else jg (jin ((a 12) (x5).toNatClampNeg) 40) (jg (jin (((va_up a 13 (upd (a 13) (((a 11) (((a 1) (((a 12) (x5).toNatClampNeg)).toNatClampNeg)).toNatClampNeg)).toNatClampNeg (1 : Int32))) 2) (((a 12) (x5).toNatClampNeg)).toNatClampNeg) 21) ((if (((va_up a 13 (upd (a 13) (((a 11) (((a 1) (((a 12) (x5).toNatClampNeg)).toNatClampNeg)).toNatClampNeg)).toNatClampNeg (1 : Int32))) 11) ((((va_up a 13 (upd (a 13) (((a 11) (((a 1) (((a 12) (x5).toNatClampNeg)).toNatClampNeg)).toNatClampNeg)).toNatClampNeg (1 : Int32))) 2) (((a 12) (x5).toNatClampNeg)).toNatClampNeg)).toNatClampNeg) < (0 : Int32) then L_M_trace_92 k198 f (s) ((va_up a 13 (upd (a 13) (((a 11) (((a 1) (((a 12) (x5).toNatClampNeg)).toNatClampNeg)).toNatClampNeg)).toNatClampNeg (1 : Int32)))) ((x5 + (-1 : Int32))) else jg (jin ((a 12) (x5).toNatClampNeg) 40) (jg (jin (((va_up a 13 (upd (a 13) (((a 11) (((a 1) (((a 12) (x5).toNatClampNeg)).toNatClampNeg)).toNatClampNeg)).toNatClampNeg (1 : Int32))) 2) (((a 12) (x5).toNatClampNeg)).toNatClampNeg) 21) (jg (jin (((va_up a 13 (upd (a 13) (((a 11) (((a 1) (((a 12) (x5).toNatClampNeg)).toNatClampNeg)).toNatClampNeg)).toNatClampNeg (1 : Int32))) 11) ((((va_up a 13 (upd (a 13) (((a 11) (((a 1) (((a 12) (x5).toNatClampNeg)).toNatClampNeg)).toNatClampNeg)).toNatClampNeg (1 : Int32))) 2) (((a 12) (x5).toNatClampNeg)).toNatClampNeg)).toNatClampNeg) 40) (L_M_trace_92 k198 f (s) ((va_up (va_up a 13 (upd (a 13) (((a 11) (((a 1) (((a 12) (x5).toNatClampNeg)).toNatClampNeg)).toNatClampNeg)).toNatClampNeg (1 : Int32))) 13 (upd (upd (a 13) (((a 11) (((a 1) (((a 12) (x5).toNatClampNeg)).toNatClampNeg)).toNatClampNeg)).toNatClampNeg (1 : Int32)) ((((va_up a 13 (upd (a 13) (((a 11) (((a 1) (((a 12) (x5).toNatClampNeg)).toNatClampNeg)).toNatClampNeg)).toNatClampNeg (1 : Int32))) 11) ((((va_up a 13 (upd (a 13) (((a 11) (((a 1) (((a 12) (x5).toNatClampNeg)).toNatClampNeg)).toNatClampNeg)).toNatClampNeg (1 : Int32))) 2) (((a 12) (x5).toNatClampNeg)).toNatClampNeg)).toNatClampNeg)).toNatClampNeg (1 : Int32)))) ((x5 + (-1 : Int32)))))))))))))))))))))
set_option maxRecDepth 100000 in
set_option maxHeartbeats 4000000 in
theorem JL_M_trace_92 (l : Launch) (c3 : Int32) (k198 : jS → jB → Option (Int32 × jS × jB)) (r : Int32 × jS × jB) (hk198 : ∀ (s : jS) (a : jB) (o1 : Option Value) (o2 : Option Value) (o4 : Option Value) (o5 : Option Value) (o6 : Option Value) (o7 : Option Value), k198 s a = some r → K_M_trace l 198 [some (.ref 0), o1, o2, some (.int c3), o4, o5, o6, o7] [] (wM s a) (fun v w => v = some (.int r.1) ∧ w = wM r.2.1 r.2.2)) : ∀ (f : Nat), ∀ (s : jS) (a : jB) (x5 : Int32) (o1 : Option Value) (o2 : Option Value) (o4 : Option Value) (o6 : Option Value) (o7 : Option Value), L_M_trace_92 k198 f s a x5 = some r → K_M_trace l 92 [some (.ref 0), o1, o2, some (.int c3), o4, some (.int x5), o6, o7] [] (wM s a) (fun v w => v = some (.int r.1) ∧ w = wM r.2.1 r.2.2) := by
  intro f
  induction f with
  | zero =>
    intro s a x5 o1 o2 o4 o6 o7 h
    cases h
  | succ f ih =>
    intro s a x5 o1 o2 o4 o6 o7 h
    rw [L_M_trace_92] at h
    refine J_iload d_M_trace_92 rfl ?_
    refine J_if_lt (tgt := 198) d_M_trace_94 (by decide) (fun c => ?_) (fun c => ?_)
    · have h := j_ifp c h
      exact hk198 _ _ _ _ _ _ _ _ h
    · have h := j_ifn c h
      refine J_aload_n d_M_trace_97 rfl ?_
      refine J_get (j := 18) (v := .ref 12) d_M_trace_98 (wM_at0 _ _) rfl in_5 (by decide) ts_334 rfl ?_
      refine J_iload d_M_trace_101 rfl ?_
      obtain ⟨g, h⟩ := jg_some h
      refine J_iald (f := (a 12)) d_M_trace_103 (wM_at12 _ _) (jin_in g) ?_
      refine J_istore d_M_trace_104 (by decide) ?_
      refine J_aload_n d_M_trace_106 rfl ?_
      refine J_get (j := 20) (v := .ref 13) d_M_trace_107 (wM_at0 _ _) rfl in_5 (by decide) ts_384 rfl ?_
      refine J_iload d_M_trace_110 rfl ?_
      obtain ⟨g, h⟩ := jg_some h
      refine J_zald (f := (a 13)) d_M_trace_112 (wM_at13 _ _) (jin_in g) ?_
      refine J_if_eq (tgt := 192) d_M_trace_113 (by decide) (fun c => ?_) (fun c => ?_)
      · have h := j_ifp c h
        refine J_iinc (v := (x5 + (-1 : Int32))) d_M_trace_192 rfl (by first | rfl | decide) (by decide) ?_
        refine J_goto (tgt := 92) d_M_trace_195 (by decide) ?_
        exact ih _ _ _ _ _ _ _ _ h
      · have h := j_ifn c h
        refine J_aload_n d_M_trace_116 rfl ?_
        refine J_get (j := 17) (v := .ref 11) d_M_trace_117 (wM_at0 _ _) rfl in_5 (by decide) ts_333 rfl ?_
        refine J_aload_n d_M_trace_120 rfl ?_
        refine J_get (j := 7) (v := .ref 1) d_M_trace_121 (wM_at0 _ _) rfl in_5 (by decide) ts_274 rfl ?_
        refine J_iload d_M_trace_124 rfl ?_
        obtain ⟨g, h⟩ := jg_some h
        refine J_iald (f := (a 1)) d_M_trace_126 (wM_at1 _ _) (jin_in g) ?_
        obtain ⟨g, h⟩ := jg_some h
        refine J_iald (f := (a 11)) d_M_trace_127 (wM_at11 _ _) (jin_in g) ?_
        refine J_if_lt (tgt := 149) d_M_trace_128 (by decide) (fun c => ?_) (fun c => ?_)
        · have h := j_ifp c h
          refine J_aload_n d_M_trace_149 rfl ?_
          refine J_get (j := 8) (v := .ref 2) d_M_trace_150 (wM_at0 _ _) rfl in_5 (by decide) ts_275 rfl ?_
          refine J_iload d_M_trace_153 rfl ?_
          obtain ⟨g, h⟩ := jg_some h
          refine J_iald (f := (a 2)) d_M_trace_155 (wM_at2 _ _) (jin_in g) ?_
          refine J_if_lt (tgt := 192) d_M_trace_156 (by decide) (fun c => ?_) (fun c => ?_)
          · have h := j_ifp c h
            refine J_iinc (v := (x5 + (-1 : Int32))) d_M_trace_192 rfl (by first | rfl | decide) (by decide) ?_
            refine J_goto (tgt := 92) d_M_trace_195 (by decide) ?_
            exact ih _ _ _ _ _ _ _ _ h
          · have h := j_ifn c h
            refine J_aload_n d_M_trace_159 rfl ?_
            refine J_get (j := 17) (v := .ref 11) d_M_trace_160 (wM_at0 _ _) rfl in_5 (by decide) ts_333 rfl ?_
            refine J_aload_n d_M_trace_163 rfl ?_
            refine J_get (j := 8) (v := .ref 2) d_M_trace_164 (wM_at0 _ _) rfl in_5 (by decide) ts_275 rfl ?_
            refine J_iload d_M_trace_167 rfl ?_
            obtain ⟨g, h⟩ := jg_some h
            refine J_iald (f := (a 2)) d_M_trace_169 (wM_at2 _ _) (jin_in g) ?_
            obtain ⟨g, h⟩ := jg_some h
            refine J_iald (f := (a 11)) d_M_trace_170 (wM_at11 _ _) (jin_in g) ?_
            refine J_if_lt (tgt := 192) d_M_trace_171 (by decide) (fun c => ?_) (fun c => ?_)
            · have h := j_ifp c h
              refine J_iinc (v := (x5 + (-1 : Int32))) d_M_trace_192 rfl (by first | rfl | decide) (by decide) ?_
              refine J_goto (tgt := 92) d_M_trace_195 (by decide) ?_
              exact ih _ _ _ _ _ _ _ _ h
            · have h := j_ifn c h
              refine J_aload_n d_M_trace_174 rfl ?_
              refine J_get (j := 20) (v := .ref 13) d_M_trace_175 (wM_at0 _ _) rfl in_5 (by decide) ts_384 rfl ?_
              refine J_aload_n d_M_trace_178 rfl ?_
              refine J_get (j := 17) (v := .ref 11) d_M_trace_179 (wM_at0 _ _) rfl in_5 (by decide) ts_333 rfl ?_
              refine J_aload_n d_M_trace_182 rfl ?_
              refine J_get (j := 8) (v := .ref 2) d_M_trace_183 (wM_at0 _ _) rfl in_5 (by decide) ts_275 rfl ?_
              refine J_iload d_M_trace_186 rfl ?_
              obtain ⟨g, h⟩ := jg_some h
              refine J_iald (f := (a 2)) d_M_trace_188 (wM_at2 _ _) (jin_in g) ?_
              obtain ⟨g, h⟩ := jg_some h
              refine J_iald (f := (a 11)) d_M_trace_189 (wM_at11 _ _) (jin_in g) ?_
              refine J_iconst (v := (1 : Int32)) d_M_trace_190 (by decide) ?_
              obtain ⟨g, h⟩ := jg_some h
              refine J_zast (f := (a 13)) d_M_trace_191 (wM_at13 _ _) (jin_in g) ?_
              refine J_eq (ws' := wM s (va_up a 13 (upd (a 13) (((a 11) (((a 2) (((a 12) (x5).toNatClampNeg)).toNatClampNeg)).toNatClampNeg)).toNatClampNeg (1 : Int32)))) rfl rfl rfl (wM_ast13 _ _ _) ?_
              refine J_iinc (v := (x5 + (-1 : Int32))) d_M_trace_192 rfl (by first | rfl | decide) (by decide) ?_
              refine J_goto (tgt := 92) d_M_trace_195 (by decide) ?_
              exact ih _ _ _ _ _ _ _ _ h
        · have h := j_ifn c h
          refine J_aload_n d_M_trace_131 rfl ?_
          refine J_get (j := 20) (v := .ref 13) d_M_trace_132 (wM_at0 _ _) rfl in_5 (by decide) ts_384 rfl ?_
          refine J_aload_n d_M_trace_135 rfl ?_
          refine J_get (j := 17) (v := .ref 11) d_M_trace_136 (wM_at0 _ _) rfl in_5 (by decide) ts_333 rfl ?_
          refine J_aload_n d_M_trace_139 rfl ?_
          refine J_get (j := 7) (v := .ref 1) d_M_trace_140 (wM_at0 _ _) rfl in_5 (by decide) ts_274 rfl ?_
          refine J_iload d_M_trace_143 rfl ?_
          obtain ⟨g, h⟩ := jg_some h
          refine J_iald (f := (a 1)) d_M_trace_145 (wM_at1 _ _) (jin_in g) ?_
          obtain ⟨g, h⟩ := jg_some h
          refine J_iald (f := (a 11)) d_M_trace_146 (wM_at11 _ _) (jin_in g) ?_
          refine J_iconst (v := (1 : Int32)) d_M_trace_147 (by decide) ?_
          obtain ⟨g, h⟩ := jg_some h
          refine J_zast (f := (a 13)) d_M_trace_148 (wM_at13 _ _) (jin_in g) ?_
          refine J_eq (ws' := wM s (va_up a 13 (upd (a 13) (((a 11) (((a 1) (((a 12) (x5).toNatClampNeg)).toNatClampNeg)).toNatClampNeg)).toNatClampNeg (1 : Int32)))) rfl rfl rfl (wM_ast13 _ _ _) ?_
          refine J_aload_n d_M_trace_149 rfl ?_
          refine J_get (j := 8) (v := .ref 2) d_M_trace_150 (wM_at0 _ _) rfl in_5 (by decide) ts_275 rfl ?_
          refine J_iload d_M_trace_153 rfl ?_
          obtain ⟨g, h⟩ := jg_some h
          refine J_iald (f := ((va_up a 13 (upd (a 13) (((a 11) (((a 1) (((a 12) (x5).toNatClampNeg)).toNatClampNeg)).toNatClampNeg)).toNatClampNeg (1 : Int32))) 2)) d_M_trace_155 (wM_at2 _ _) (jin_in g) ?_
          refine J_if_lt (tgt := 192) d_M_trace_156 (by decide) (fun c => ?_) (fun c => ?_)
          · have h := j_ifp c h
            refine J_iinc (v := (x5 + (-1 : Int32))) d_M_trace_192 rfl (by first | rfl | decide) (by decide) ?_
            refine J_goto (tgt := 92) d_M_trace_195 (by decide) ?_
            exact ih _ _ _ _ _ _ _ _ h
          · have h := j_ifn c h
            refine J_aload_n d_M_trace_159 rfl ?_
            refine J_get (j := 17) (v := .ref 11) d_M_trace_160 (wM_at0 _ _) rfl in_5 (by decide) ts_333 rfl ?_
            refine J_aload_n d_M_trace_163 rfl ?_
            refine J_get (j := 8) (v := .ref 2) d_M_trace_164 (wM_at0 _ _) rfl in_5 (by decide) ts_275 rfl ?_
            refine J_iload d_M_trace_167 rfl ?_
            obtain ⟨g, h⟩ := jg_some h
            refine J_iald (f := ((va_up a 13 (upd (a 13) (((a 11) (((a 1) (((a 12) (x5).toNatClampNeg)).toNatClampNeg)).toNatClampNeg)).toNatClampNeg (1 : Int32))) 2)) d_M_trace_169 (wM_at2 _ _) (jin_in g) ?_
            obtain ⟨g, h⟩ := jg_some h
            refine J_iald (f := ((va_up a 13 (upd (a 13) (((a 11) (((a 1) (((a 12) (x5).toNatClampNeg)).toNatClampNeg)).toNatClampNeg)).toNatClampNeg (1 : Int32))) 11)) d_M_trace_170 (wM_at11 _ _) (jin_in g) ?_
            refine J_if_lt (tgt := 192) d_M_trace_171 (by decide) (fun c => ?_) (fun c => ?_)
            · have h := j_ifp c h
              refine J_iinc (v := (x5 + (-1 : Int32))) d_M_trace_192 rfl (by first | rfl | decide) (by decide) ?_
              refine J_goto (tgt := 92) d_M_trace_195 (by decide) ?_
              exact ih _ _ _ _ _ _ _ _ h
            · have h := j_ifn c h
              refine J_aload_n d_M_trace_174 rfl ?_
              refine J_get (j := 20) (v := .ref 13) d_M_trace_175 (wM_at0 _ _) rfl in_5 (by decide) ts_384 rfl ?_
              refine J_aload_n d_M_trace_178 rfl ?_
              refine J_get (j := 17) (v := .ref 11) d_M_trace_179 (wM_at0 _ _) rfl in_5 (by decide) ts_333 rfl ?_
              refine J_aload_n d_M_trace_182 rfl ?_
              refine J_get (j := 8) (v := .ref 2) d_M_trace_183 (wM_at0 _ _) rfl in_5 (by decide) ts_275 rfl ?_
              refine J_iload d_M_trace_186 rfl ?_
              obtain ⟨g, h⟩ := jg_some h
              refine J_iald (f := ((va_up a 13 (upd (a 13) (((a 11) (((a 1) (((a 12) (x5).toNatClampNeg)).toNatClampNeg)).toNatClampNeg)).toNatClampNeg (1 : Int32))) 2)) d_M_trace_188 (wM_at2 _ _) (jin_in g) ?_
              obtain ⟨g, h⟩ := jg_some h
              refine J_iald (f := ((va_up a 13 (upd (a 13) (((a 11) (((a 1) (((a 12) (x5).toNatClampNeg)).toNatClampNeg)).toNatClampNeg)).toNatClampNeg (1 : Int32))) 11)) d_M_trace_189 (wM_at11 _ _) (jin_in g) ?_
              refine J_iconst (v := (1 : Int32)) d_M_trace_190 (by decide) ?_
              obtain ⟨g, h⟩ := jg_some h
              refine J_zast (f := (upd (a 13) (((a 11) (((a 1) (((a 12) (x5).toNatClampNeg)).toNatClampNeg)).toNatClampNeg)).toNatClampNeg (1 : Int32))) d_M_trace_191 (wM_at13 _ _) (jin_in g) ?_
              refine J_eq (ws' := wM s (va_up (va_up a 13 (upd (a 13) (((a 11) (((a 1) (((a 12) (x5).toNatClampNeg)).toNatClampNeg)).toNatClampNeg)).toNatClampNeg (1 : Int32))) 13 (upd (upd (a 13) (((a 11) (((a 1) (((a 12) (x5).toNatClampNeg)).toNatClampNeg)).toNatClampNeg)).toNatClampNeg (1 : Int32)) ((((va_up a 13 (upd (a 13) (((a 11) (((a 1) (((a 12) (x5).toNatClampNeg)).toNatClampNeg)).toNatClampNeg)).toNatClampNeg (1 : Int32))) 11) ((((va_up a 13 (upd (a 13) (((a 11) (((a 1) (((a 12) (x5).toNatClampNeg)).toNatClampNeg)).toNatClampNeg)).toNatClampNeg (1 : Int32))) 2) (((a 12) (x5).toNatClampNeg)).toNatClampNeg)).toNatClampNeg)).toNatClampNeg (1 : Int32)))) rfl rfl rfl (wM_ast13 _ _ _) ?_
              refine J_iinc (v := (x5 + (-1 : Int32))) d_M_trace_192 rfl (by first | rfl | decide) (by decide) ?_
              refine J_goto (tgt := 92) d_M_trace_195 (by decide) ?_
              exact ih _ _ _ _ _ _ _ _ h
def L_M_trace_204 (s : jS) (a : jB) (c3 : Int32) (k270 : Unit → Option (Int32 × jS × jB)) : Nat → Int32 → Int32 → Option (Int32 × jS × jB)
  | 0, _, _ => none
  | f + 1, x5, x6 => (if (s 7) ≤ x6 then k270 () else (if c3 < (0 : Int32) then k270 () else jg (jin x6 40) (jg (jin ((a 12) (x6).toNatClampNeg) 40) (jb (some ((a 13) (((a 12) (x6).toNatClampNeg)).toNatClampNeg)) (fun y25 => (if y25 = (0 : Int32) then jb (if y25 = (0 : Int32) then some (0 : Int32) else some (1 : Int32)) (fun b26 => L_M_trace_204 s a c3 k270 f ((x5 - b26)) ((x6 + (1 : Int32)))) else (if x5 = (0 : Int32) then jg (jin x6 40) (some (((a 12) (x6).toNatClampNeg), s, a)) else jb (if y25 = (0 : Int32) then some (0 : Int32) else some (1 : Int32)) (fun b27 => L_M_trace_204 s a c3 k270 f ((x5 - b27)) ((x6 + (1 : Int32)))))))))))
set_option maxRecDepth 100000 in
set_option maxHeartbeats 4000000 in
theorem JL_M_trace_204 (l : Launch) (s : jS) (a : jB) (c3 : Int32) (k270 : Unit → Option (Int32 × jS × jB)) (r : Int32 × jS × jB) (hk270 : ∀ (_ : Unit) (o1 : Option Value) (o2 : Option Value) (o4 : Option Value) (o5 : Option Value) (o6 : Option Value) (o7 : Option Value), k270 () = some r → K_M_trace l 270 [some (.ref 0), o1, o2, some (.int c3), o4, o5, o6, o7] [] (wM s a) (fun v w => v = some (.int r.1) ∧ w = wM r.2.1 r.2.2)) : ∀ (f : Nat), ∀ (x5 : Int32) (x6 : Int32) (o1 : Option Value) (o2 : Option Value) (o4 : Option Value) (o7 : Option Value), L_M_trace_204 s a c3 k270 f x5 x6 = some r → K_M_trace l 204 [some (.ref 0), o1, o2, some (.int c3), o4, some (.int x5), some (.int x6), o7] [] (wM s a) (fun v w => v = some (.int r.1) ∧ w = wM r.2.1 r.2.2) := by
  intro f
  induction f with
  | zero =>
    intro x5 x6 o1 o2 o4 o7 h
    cases h
  | succ f ih =>
    intro x5 x6 o1 o2 o4 o7 h
    rw [L_M_trace_204] at h
    refine J_iload d_M_trace_204 rfl ?_
    refine J_aload_n d_M_trace_206 rfl ?_
    refine J_get (j := 19) (v := .int (s 7)) d_M_trace_207 (wM_at0 _ _) rfl in_5 (by decide) ts_332 rfl ?_
    refine J_icmp_ge (tgt := 270) d_M_trace_210 (by decide) (fun c => ?_) (fun c => ?_)
    · have h := j_ifp c h
      exact hk270 () _ _ _ _ _ _ h
    · have h := j_ifn c h
      refine J_iload_n d_M_trace_213 rfl ?_
      refine J_if_lt (tgt := 270) d_M_trace_214 (by decide) (fun c => ?_) (fun c => ?_)
      · have h := j_ifp c h
        exact hk270 () _ _ _ _ _ _ h
      · have h := j_ifn c h
        refine J_aload_n d_M_trace_217 rfl ?_
        refine J_get (j := 20) (v := .ref 13) d_M_trace_218 (wM_at0 _ _) rfl in_5 (by decide) ts_384 rfl ?_
        refine J_aload_n d_M_trace_221 rfl ?_
        refine J_get (j := 18) (v := .ref 12) d_M_trace_222 (wM_at0 _ _) rfl in_5 (by decide) ts_334 rfl ?_
        refine J_iload d_M_trace_225 rfl ?_
        obtain ⟨g, h⟩ := jg_some h
        refine J_iald (f := (a 12)) d_M_trace_227 (wM_at12 _ _) (jin_in g) ?_
        obtain ⟨g, h⟩ := jg_some h
        refine J_zald (f := (a 13)) d_M_trace_228 (wM_at13 _ _) (jin_in g) ?_
        obtain ⟨y25, qy25, h⟩ := jb_some h
        refine J_topi (Option.some.inj qy25) ?_
        refine J_istore d_M_trace_229 (by decide) ?_
        refine J_iload d_M_trace_231 rfl ?_
        refine J_if_eq (tgt := 249) d_M_trace_233 (by decide) (fun c => ?_) (fun c => ?_)
        · have h := j_ifp c h
          refine J_iload d_M_trace_249 rfl ?_
          refine J_iload d_M_trace_251 rfl ?_
          obtain ⟨b26, hb26, h⟩ := jb_some h
          have kb26 : K_M_trace l 261 [some (.ref 0), o1, o2, some (.int c3), o4, some (.int x5), some (.int x6), some (.int y25)] [.int b26, .int x5] (wM s a) (fun v w => v = some (.int r.1) ∧ w = wM r.2.1 r.2.2) := by
            refine J_isub d_M_trace_261 ?_
            refine J_istore d_M_trace_262 (by decide) ?_
            refine J_iinc (v := (x6 + (1 : Int32))) d_M_trace_264 rfl (by first | rfl | decide) (by decide) ?_
            refine J_goto (tgt := 204) d_M_trace_267 (by decide) ?_
            exact ih _ _ _ _ _ _ h
          clear h
          have h := hb26
          refine J_if_eq (tgt := 260) d_M_trace_253 (by decide) (fun c => ?_) (fun c => ?_)
          · have h := j_ifp c h
            refine J_iconst (v := (0 : Int32)) d_M_trace_260 (by decide) ?_
            cases h
            exact kb26
          · have h := j_ifn c h
            refine J_iconst (v := (1 : Int32)) d_M_trace_256 (by decide) ?_
            refine J_goto (tgt := 261) d_M_trace_257 (by decide) ?_
            cases h
            exact kb26
        · have h := j_ifn c h
          refine J_iload d_M_trace_236 rfl ?_
          refine J_if_ne (tgt := 249) d_M_trace_238 (by decide) (fun c => ?_) (fun c => ?_)
          · have h := j_ifn c h
            refine J_iload d_M_trace_249 rfl ?_
            refine J_iload d_M_trace_251 rfl ?_
            obtain ⟨b27, hb27, h⟩ := jb_some h
            have kb27 : K_M_trace l 261 [some (.ref 0), o1, o2, some (.int c3), o4, some (.int x5), some (.int x6), some (.int y25)] [.int b27, .int x5] (wM s a) (fun v w => v = some (.int r.1) ∧ w = wM r.2.1 r.2.2) := by
              refine J_isub d_M_trace_261 ?_
              refine J_istore d_M_trace_262 (by decide) ?_
              refine J_iinc (v := (x6 + (1 : Int32))) d_M_trace_264 rfl (by first | rfl | decide) (by decide) ?_
              refine J_goto (tgt := 204) d_M_trace_267 (by decide) ?_
              exact ih _ _ _ _ _ _ h
            clear h
            have h := hb27
            refine J_if_eq (tgt := 260) d_M_trace_253 (by decide) (fun c => ?_) (fun c => ?_)
            · have h := j_ifp c h
              refine J_iconst (v := (0 : Int32)) d_M_trace_260 (by decide) ?_
              cases h
              exact kb27
            · have h := j_ifn c h
              refine J_iconst (v := (1 : Int32)) d_M_trace_256 (by decide) ?_
              refine J_goto (tgt := 261) d_M_trace_257 (by decide) ?_
              cases h
              exact kb27
          · have h := j_ifp c h
            refine J_aload_n d_M_trace_241 rfl ?_
            refine J_get (j := 18) (v := .ref 12) d_M_trace_242 (wM_at0 _ _) rfl in_5 (by decide) ts_334 rfl ?_
            refine J_iload d_M_trace_245 rfl ?_
            obtain ⟨g, h⟩ := jg_some h
            refine J_iald (f := (a 12)) d_M_trace_247 (wM_at12 _ _) (jin_in g) ?_
            exact J_iret d_M_trace_248 rfl rfl (by cases h; exact ⟨rfl, rfl⟩)
def m_M_trace (s : jS) (a : jB) (p0 : Int32) (p1 : Int32) (p2 : Int32) : Option (Int32 × jS × jB) := jb (m_M_goalOf s a p1) (fun v2 => jb (m_M_isClass s a p0) (fun v4 => (if v4 = (0 : Int32) then some ((-1 : Int32), s, a) else (if (0 : Int32) ≤ v2 then jb3 (m_M_reasonAlone s a p0 v2) (fun v8 s6 a7 => (if v8 = (1 : Int32) then (if (s6 7) = (0 : Int32) then some ((-6 : Int32), s6, a7) else L_M_trace_46 (fun s9 a10 => jg (jin ((s9 7) - (1 : Int32)) 40) (jg (jin ((a10 12) (((s9 7) - (1 : Int32))).toNatClampNeg) 40) (L_M_trace_92 (fun s17 a18 => L_M_trace_204 (s17) (a18) (p2) (fun _ => some ((-6 : Int32), s17, a18)) jF (p2) ((0 : Int32))) jF (s9) ((va_up a10 13 (upd (a10 13) (((a10 12) (((s9 7) - (1 : Int32))).toNatClampNeg)).toNatClampNeg (1 : Int32)))) (((s9 7) - (1 : Int32)))))) jF (s6) (a7) ((0 : Int32))) else some ((-6 : Int32), s6, a7))) else some ((-1 : Int32), s, a)))))
set_option maxRecDepth 100000 in
set_option maxHeartbeats 4000000 in
theorem c_M_trace (l : Launch) (s : jS) (a : jB) (p0 : Int32) (p1 : Int32) (p2 : Int32) (r : Int32 × jS × jB) (h : m_M_trace s a p0 p1 p2 = some r) : JMet l vwCl NsG (.code y_M_trace prog_7_method_41_code 8 (some .int) :: TsG) y_M_trace rm_M_trace [.ref 0, .int p0, .int p1, .int p2] (wM s a) (fun v w => v = some (.int r.1) ∧ w = wM r.2.1 r.2.2) := by
  refine J_enter (by decide +kernel) rfl (Nat.le_of_ble_eq_true rfl) ?_
  unfold m_M_trace at h
  refine J_eq (ls' := [some (.ref 0), some (.int p0), some (.int p1), some (.int p2), none, none, none, none]) rfl rfl rfl rfl ?_
  refine J_aload_n d_M_trace_0 rfl ?_
  refine J_iload_n d_M_trace_1 rfl ?_
  obtain ⟨v2, e1, h⟩ := jb_some h
  refine J_cVi1 d_M_trace_2 (c_M_goalOf l _ _ _ _ e1) (wM_at0 _ _) rfl ts_327 ts_good rfl rfl ts_278 ts_328 dy_M_goalOf (by decide) (Nat.le_of_ble_eq_true rfl) ts_329 ts_330 ?_
  refine J_istore d_M_trace_5 (by decide) ?_
  refine J_aload_n d_M_trace_7 rfl ?_
  refine J_iload_n d_M_trace_8 rfl ?_
  obtain ⟨v4, e3, h⟩ := jb_some h
  refine J_cVi1 d_M_trace_9 (c_M_isClass l _ _ _ _ e3) (wM_at0 _ _) rfl ts_308 ts_good rfl rfl ts_278 ts_309 dy_M_isClass (by decide) (Nat.le_of_ble_eq_true rfl) ts_310 ts_311 ?_
  refine J_if_eq (tgt := 20) d_M_trace_12 (by decide) (fun c => ?_) (fun c => ?_)
  · have h := j_ifp c h
    refine J_iconst (v := (-1 : Int32)) d_M_trace_20 (by decide) ?_
    exact J_iret d_M_trace_21 rfl rfl (by cases h; exact ⟨rfl, rfl⟩)
  · have h := j_ifn c h
    refine J_iload d_M_trace_15 rfl ?_
    refine J_if_ge (tgt := 22) d_M_trace_17 (by decide) (fun c => ?_) (fun c => ?_)
    · have h := j_ifp c h
      refine J_aload_n d_M_trace_22 rfl ?_
      refine J_iload_n d_M_trace_23 rfl ?_
      refine J_iload d_M_trace_24 rfl ?_
      obtain ⟨v8, s6, a7, e5, h⟩ := jb3_some h
      refine J_cVi2 d_M_trace_26 (c_M_reasonAlone l _ _ _ _ _ e5) (wM_at0 _ _) rfl ts_339 ts_good rfl rfl ts_278 ts_340 dy_M_reasonAlone (by decide) (Nat.le_of_ble_eq_true rfl) ts_341 ts_342 ?_
      refine J_iconst (v := (1 : Int32)) d_M_trace_29 (by decide) ?_
      refine J_icmp_ne (tgt := 40) d_M_trace_30 (by decide) (fun c => ?_) (fun c => ?_)
      · have h := j_ifn c h
        refine J_bipush (v := (-6 : Int32)) d_M_trace_40 (by decide) ?_
        exact J_iret d_M_trace_42 rfl rfl (by cases h; exact ⟨rfl, rfl⟩)
      · have h := j_ifp c h
        refine J_aload_n d_M_trace_33 rfl ?_
        refine J_get (j := 19) (v := .int (s6 7)) d_M_trace_34 (wM_at0 _ _) rfl in_5 (by decide) ts_332 rfl ?_
        refine J_if_ne (tgt := 43) d_M_trace_37 (by decide) (fun c => ?_) (fun c => ?_)
        · have h := j_ifn c h
          refine J_iconst (v := (0 : Int32)) d_M_trace_43 (by decide) ?_
          refine J_istore d_M_trace_44 (by decide) ?_
          refine JL_M_trace_46 l _ _ r (fun s9 a10 o11 o12 o13 o14 o15 o16 h => ?_) jF _ _ _ _ _ _ _ _ h
          refine J_aload_n d_M_trace_67 rfl ?_
          refine J_get (j := 20) (v := .ref 13) d_M_trace_68 (wM_at0 _ _) rfl in_5 (by decide) ts_384 rfl ?_
          refine J_aload_n d_M_trace_71 rfl ?_
          refine J_get (j := 18) (v := .ref 12) d_M_trace_72 (wM_at0 _ _) rfl in_5 (by decide) ts_334 rfl ?_
          refine J_aload_n d_M_trace_75 rfl ?_
          refine J_get (j := 19) (v := .int (s9 7)) d_M_trace_76 (wM_at0 _ _) rfl in_5 (by decide) ts_332 rfl ?_
          refine J_iconst (v := (1 : Int32)) d_M_trace_79 (by decide) ?_
          refine J_isub d_M_trace_80 ?_
          obtain ⟨g, h⟩ := jg_some h
          refine J_iald (f := (a10 12)) d_M_trace_81 (wM_at12 _ _) (jin_in g) ?_
          refine J_iconst (v := (1 : Int32)) d_M_trace_82 (by decide) ?_
          obtain ⟨g, h⟩ := jg_some h
          refine J_zast (f := (a10 13)) d_M_trace_83 (wM_at13 _ _) (jin_in g) ?_
          refine J_eq (ws' := wM s9 (va_up a10 13 (upd (a10 13) (((a10 12) (((s9 7) - (1 : Int32))).toNatClampNeg)).toNatClampNeg (1 : Int32)))) rfl rfl rfl (wM_ast13 _ _ _) ?_
          refine J_aload_n d_M_trace_84 rfl ?_
          refine J_get (j := 19) (v := .int (s9 7)) d_M_trace_85 (wM_at0 _ _) rfl in_5 (by decide) ts_332 rfl ?_
          refine J_iconst (v := (1 : Int32)) d_M_trace_88 (by decide) ?_
          refine J_isub d_M_trace_89 ?_
          refine J_istore d_M_trace_90 (by decide) ?_
          refine JL_M_trace_92 l _ _ r (fun s17 a18 o19 o20 o21 o22 o23 o24 h => ?_) jF _ _ _ _ _ _ _ _ h
          refine J_iload_n d_M_trace_198 rfl ?_
          refine J_istore d_M_trace_199 (by decide) ?_
          refine J_iconst (v := (0 : Int32)) d_M_trace_201 (by decide) ?_
          refine J_istore d_M_trace_202 (by decide) ?_
          refine JL_M_trace_204 l _ _ _ _ r (fun _ o28 o29 o30 o31 o32 o33 h => ?_) jF _ _ _ _ _ _ h
          refine J_bipush (v := (-6 : Int32)) d_M_trace_270 (by decide) ?_
          exact J_iret d_M_trace_272 rfl rfl (by cases h; exact ⟨rfl, rfl⟩)
        · have h := j_ifp c h
          refine J_bipush (v := (-6 : Int32)) d_M_trace_40 (by decide) ?_
          exact J_iret d_M_trace_42 rfl rfl (by cases h; exact ⟨rfl, rfl⟩)
    · have h := j_ifn c h
      refine J_iconst (v := (-1 : Int32)) d_M_trace_20 (by decide) ?_
      exact J_iret d_M_trace_21 rfl rfl (by cases h; exact ⟨rfl, rfl⟩)
abbrev rm_M_count : Room := { frames := 1, cells := 0, slots := 0, locals := 22 }
abbrev K_M_count (l : Launch) := JW l vwCl NsG TsG "ClassifySortModel" prog_7_method_42_code 4 (some .int) rm_M_count
def L_M_count_51 (s : jS) (a : jB) (k82 : Int32 → Option (Int32)) : Nat → Int32 → Int32 → Option (Int32)
  | 0, _, _ => none
  | f + 1, x2, x3 => (if (s 3) ≤ x3 then k82 (x2) else jg (jin x3 40) (jb (if ((a 4) (x3).toNatClampNeg) = (0 : Int32) then some (0 : Int32) else some (1 : Int32)) (fun b1 => L_M_count_51 s a k82 f ((x2 + b1)) ((x3 + (1 : Int32))))))
set_option maxRecDepth 100000 in
set_option maxHeartbeats 4000000 in
theorem JL_M_count_51 (l : Launch) (s : jS) (a : jB) (k82 : Int32 → Option (Int32)) (r : Int32) (hk82 : ∀ (x2 : Int32) (o1 : Option Value) (o3 : Option Value), k82 x2 = some r → K_M_count l 82 [some (.ref 0), o1, some (.int x2), o3] [] (wM s a) (fun v w => v = some (.int r) ∧ w = wM s a)) : ∀ (f : Nat), ∀ (x2 : Int32) (x3 : Int32) (o1 : Option Value), L_M_count_51 s a k82 f x2 x3 = some r → K_M_count l 51 [some (.ref 0), o1, some (.int x2), some (.int x3)] [] (wM s a) (fun v w => v = some (.int r) ∧ w = wM s a) := by
  intro f
  induction f with
  | zero =>
    intro x2 x3 o1 h
    cases h
  | succ f ih =>
    intro x2 x3 o1 h
    rw [L_M_count_51] at h
    refine J_iload_n d_M_count_51 rfl ?_
    refine J_aload_n d_M_count_52 rfl ?_
    refine J_get (j := 3) (v := .int (s 3)) d_M_count_53 (wM_at0 _ _) rfl in_5 (by decide) ts_272 rfl ?_
    refine J_icmp_ge (tgt := 82) d_M_count_56 (by decide) (fun c => ?_) (fun c => ?_)
    · have h := j_ifp c h
      exact hk82 _ _ _ h
    · have h := j_ifn c h
      refine J_iload_n d_M_count_59 rfl ?_
      refine J_aload_n d_M_count_60 rfl ?_
      refine J_get (j := 10) (v := .ref 4) d_M_count_61 (wM_at0 _ _) rfl in_5 (by decide) ts_273 rfl ?_
      refine J_iload_n d_M_count_64 rfl ?_
      obtain ⟨g, h⟩ := jg_some h
      refine J_zald (f := (a 4)) d_M_count_65 (wM_at4 _ _) (jin_in g) ?_
      obtain ⟨b1, hb1, h⟩ := jb_some h
      have kb1 : K_M_count l 74 [some (.ref 0), o1, some (.int x2), some (.int x3)] [.int b1, .int x2] (wM s a) (fun v w => v = some (.int r) ∧ w = wM s a) := by
        refine J_iadd d_M_count_74 ?_
        refine J_istore_n d_M_count_75 (by decide) ?_
        refine J_iinc (v := (x3 + (1 : Int32))) d_M_count_76 rfl (by first | rfl | decide) (by decide) ?_
        refine J_goto (tgt := 51) d_M_count_79 (by decide) ?_
        exact ih _ _ _ h
      clear h
      have h := hb1
      refine J_if_eq (tgt := 73) d_M_count_66 (by decide) (fun c => ?_) (fun c => ?_)
      · have h := j_ifp c h
        refine J_iconst (v := (0 : Int32)) d_M_count_73 (by decide) ?_
        cases h
        exact kb1
      · have h := j_ifn c h
        refine J_iconst (v := (1 : Int32)) d_M_count_69 (by decide) ?_
        refine J_goto (tgt := 74) d_M_count_70 (by decide) ?_
        cases h
        exact kb1
def L_M_count_114 (s : jS) (a : jB) (k152 : Int32 → Option (Int32)) : Nat → Int32 → Int32 → Option (Int32)
  | 0, _, _ => none
  | f + 1, x2, x3 => (if (s 1) ≤ x3 then k152 (x2) else jb (if (s 6) = (0 : Int32) then some (0 : Int32) else jg (jin x3 20) ((if ((a 8) (x3).toNatClampNeg) = (0 : Int32) then some (0 : Int32) else some (1 : Int32)))) (fun b8 => L_M_count_114 s a k152 f ((x2 + b8)) ((x3 + (1 : Int32)))))
set_option maxRecDepth 100000 in
set_option maxHeartbeats 4000000 in
theorem JL_M_count_114 (l : Launch) (s : jS) (a : jB) (k152 : Int32 → Option (Int32)) (r : Int32) (hk152 : ∀ (x2 : Int32) (o1 : Option Value) (o3 : Option Value), k152 x2 = some r → K_M_count l 152 [some (.ref 0), o1, some (.int x2), o3] [] (wM s a) (fun v w => v = some (.int r) ∧ w = wM s a)) : ∀ (f : Nat), ∀ (x2 : Int32) (x3 : Int32) (o1 : Option Value), L_M_count_114 s a k152 f x2 x3 = some r → K_M_count l 114 [some (.ref 0), o1, some (.int x2), some (.int x3)] [] (wM s a) (fun v w => v = some (.int r) ∧ w = wM s a) := by
  intro f
  induction f with
  | zero =>
    intro x2 x3 o1 h
    cases h
  | succ f ih =>
    intro x2 x3 o1 h
    rw [L_M_count_114] at h
    refine J_iload_n d_M_count_114 rfl ?_
    refine J_aload_n d_M_count_115 rfl ?_
    refine J_get (j := 1) (v := .int (s 1)) d_M_count_116 (wM_at0 _ _) rfl in_5 (by decide) ts_270 rfl ?_
    refine J_icmp_ge (tgt := 152) d_M_count_119 (by decide) (fun c => ?_) (fun c => ?_)
    · have h := j_ifp c h
      exact hk152 _ _ _ h
    · have h := j_ifn c h
      refine J_iload_n d_M_count_122 rfl ?_
      refine J_aload_n d_M_count_123 rfl ?_
      refine J_get (j := 6) (v := .int (s 6)) d_M_count_124 (wM_at0 _ _) rfl in_5 (by decide) ts_271 rfl ?_
      obtain ⟨b8, hb8, h⟩ := jb_some h
      have kb8 : K_M_count l 144 [some (.ref 0), o1, some (.int x2), some (.int x3)] [.int b8, .int x2] (wM s a) (fun v w => v = some (.int r) ∧ w = wM s a) := by
        refine J_iadd d_M_count_144 ?_
        refine J_istore_n d_M_count_145 (by decide) ?_
        refine J_iinc (v := (x3 + (1 : Int32))) d_M_count_146 rfl (by first | rfl | decide) (by decide) ?_
        refine J_goto (tgt := 114) d_M_count_149 (by decide) ?_
        exact ih _ _ _ h
      clear h
      have h := hb8
      refine J_if_eq (tgt := 143) d_M_count_127 (by decide) (fun c => ?_) (fun c => ?_)
      · have h := j_ifp c h
        refine J_iconst (v := (0 : Int32)) d_M_count_143 (by decide) ?_
        cases h
        exact kb8
      · have h := j_ifn c h
        refine J_aload_n d_M_count_130 rfl ?_
        refine J_get (j := 14) (v := .ref 8) d_M_count_131 (wM_at0 _ _) rfl in_5 (by decide) ts_344 rfl ?_
        refine J_iload_n d_M_count_134 rfl ?_
        obtain ⟨g, h⟩ := jg_some h
        refine J_zald (f := (a 8)) d_M_count_135 (wM_at8 _ _) (jin_in g) ?_
        refine J_if_eq (tgt := 143) d_M_count_136 (by decide) (fun c => ?_) (fun c => ?_)
        · have h := j_ifp c h
          refine J_iconst (v := (0 : Int32)) d_M_count_143 (by decide) ?_
          cases h
          exact kb8
        · have h := j_ifn c h
          refine J_iconst (v := (1 : Int32)) d_M_count_139 (by decide) ?_
          refine J_goto (tgt := 144) d_M_count_140 (by decide) ?_
          cases h
          exact kb8
def m_M_count (s : jS) (a : jB) (p0 : Int32) : Option (Int32) := (if p0 = (0 : Int32) then some ((s 1)) else (if p0 = (1 : Int32) then L_M_count_51 (s) (a) (fun x2 => some (x2)) jF ((0 : Int32)) ((0 : Int32)) else (if p0 = (2 : Int32) then some ((s 2)) else (if p0 = (3 : Int32) then some ((s 5)) else (if p0 = (4 : Int32) then jb (m_M_openPairs s a) (fun v6 => some (v6)) else (if p0 = (5 : Int32) then jb (if (s 6) = (0 : Int32) then some (0 : Int32) else some (1 : Int32)) (fun b7 => some (b7)) else (if p0 = (6 : Int32) then L_M_count_114 (s) (a) (fun x9 => some (x9)) jF ((0 : Int32)) ((0 : Int32)) else some ((-2 : Int32)))))))))
set_option maxRecDepth 100000 in
set_option maxHeartbeats 4000000 in
theorem c_M_count (l : Launch) (s : jS) (a : jB) (p0 : Int32) (r : Int32) (h : m_M_count s a p0 = some r) : JMet l vwCl NsG (.code y_M_count prog_7_method_42_code 4 (some .int) :: TsG) y_M_count rm_M_count [.ref 0, .int p0] (wM s a) (fun v w => v = some (.int r) ∧ w = wM s a) := by
  refine J_enter (by decide +kernel) rfl (Nat.le_of_ble_eq_true rfl) ?_
  unfold m_M_count at h
  refine J_eq (ls' := [some (.ref 0), some (.int p0), none, none]) rfl rfl rfl rfl ?_
  refine J_iconst (v := (0 : Int32)) d_M_count_0 (by decide) ?_
  refine J_istore_n d_M_count_1 (by decide) ?_
  refine J_iload_n d_M_count_2 rfl ?_
  by_cases c0 : p0 = (0 : Int32)
  · have h := j_ifp c0 h
    refine J_tabIn (k := (0 : Int32)) (tgt := 44) d_M_count_3 c0 (by decide) (by decide) rfl (by decide) ?_
    refine J_aload_n d_M_count_44 rfl ?_
    refine J_get (j := 1) (v := .int (s 1)) d_M_count_45 (wM_at0 _ _) rfl in_5 (by decide) ts_270 rfl ?_
    exact J_iret d_M_count_48 rfl rfl (by cases h; exact ⟨rfl, rfl⟩)
  have h := j_ifn c0 h
  by_cases c1 : p0 = (1 : Int32)
  · have h := j_ifp c1 h
    refine J_tabIn (k := (1 : Int32)) (tgt := 49) d_M_count_3 c1 (by decide) (by decide) rfl (by decide) ?_
    refine J_iconst (v := (0 : Int32)) d_M_count_49 (by decide) ?_
    refine J_istore_n d_M_count_50 (by decide) ?_
    refine JL_M_count_51 l _ _ _ r (fun x2 o3 o4 h => ?_) jF _ _ _ h
    refine J_iload_n d_M_count_82 rfl ?_
    exact J_iret d_M_count_83 rfl rfl (by cases h; exact ⟨rfl, rfl⟩)
  have h := j_ifn c1 h
  by_cases c2 : p0 = (2 : Int32)
  · have h := j_ifp c2 h
    refine J_tabIn (k := (2 : Int32)) (tgt := 84) d_M_count_3 c2 (by decide) (by decide) rfl (by decide) ?_
    refine J_aload_n d_M_count_84 rfl ?_
    refine J_get (j := 2) (v := .int (s 2)) d_M_count_85 (wM_at0 _ _) rfl in_5 (by decide) ts_307 rfl ?_
    exact J_iret d_M_count_88 rfl rfl (by cases h; exact ⟨rfl, rfl⟩)
  have h := j_ifn c2 h
  by_cases c3 : p0 = (3 : Int32)
  · have h := j_ifp c3 h
    refine J_tabIn (k := (3 : Int32)) (tgt := 89) d_M_count_3 c3 (by decide) (by decide) rfl (by decide) ?_
    refine J_aload_n d_M_count_89 rfl ?_
    refine J_get (j := 5) (v := .int (s 5)) d_M_count_90 (wM_at0 _ _) rfl in_5 (by decide) ts_366 rfl ?_
    exact J_iret d_M_count_93 rfl rfl (by cases h; exact ⟨rfl, rfl⟩)
  have h := j_ifn c3 h
  by_cases c4 : p0 = (4 : Int32)
  · have h := j_ifp c4 h
    refine J_tabIn (k := (4 : Int32)) (tgt := 94) d_M_count_3 c4 (by decide) (by decide) rfl (by decide) ?_
    refine J_aload_n d_M_count_94 rfl ?_
    obtain ⟨v6, e5, h⟩ := jb_some h
    refine J_cVi0 d_M_count_95 (c_M_openPairs l _ _ _ e5) (wM_at0 _ _) rfl ts_322 ts_good rfl rfl ts_278 ts_323 dy_M_openPairs (by decide) (Nat.le_of_ble_eq_true rfl) ts_324 ts_325 ?_
    exact J_iret d_M_count_98 rfl rfl (by cases h; exact ⟨rfl, rfl⟩)
  have h := j_ifn c4 h
  by_cases c5 : p0 = (5 : Int32)
  · have h := j_ifp c5 h
    refine J_tabIn (k := (5 : Int32)) (tgt := 99) d_M_count_3 c5 (by decide) (by decide) rfl (by decide) ?_
    refine J_aload_n d_M_count_99 rfl ?_
    refine J_get (j := 6) (v := .int (s 6)) d_M_count_100 (wM_at0 _ _) rfl in_5 (by decide) ts_271 rfl ?_
    obtain ⟨b7, hb7, h⟩ := jb_some h
    have kb7 : K_M_count l 111 [some (.ref 0), some (.int p0), some (.int (0 : Int32)), none] [.int b7] (wM s a) (fun v w => v = some (.int r) ∧ w = wM s a) := by
      exact J_iret d_M_count_111 rfl rfl (by cases h; exact ⟨rfl, rfl⟩)
    clear h
    have h := hb7
    refine J_if_eq (tgt := 110) d_M_count_103 (by decide) (fun c => ?_) (fun c => ?_)
    · have h := j_ifp c h
      refine J_iconst (v := (0 : Int32)) d_M_count_110 (by decide) ?_
      cases h
      exact kb7
    · have h := j_ifn c h
      refine J_iconst (v := (1 : Int32)) d_M_count_106 (by decide) ?_
      refine J_goto (tgt := 111) d_M_count_107 (by decide) ?_
      cases h
      exact kb7
  have h := j_ifn c5 h
  by_cases c6 : p0 = (6 : Int32)
  · have h := j_ifp c6 h
    refine J_tabIn (k := (6 : Int32)) (tgt := 112) d_M_count_3 c6 (by decide) (by decide) rfl (by decide) ?_
    refine J_iconst (v := (0 : Int32)) d_M_count_112 (by decide) ?_
    refine J_istore_n d_M_count_113 (by decide) ?_
    refine JL_M_count_114 l _ _ _ r (fun x9 o10 o11 h => ?_) jF _ _ _ h
    refine J_iload_n d_M_count_152 rfl ?_
    exact J_iret d_M_count_153 rfl rfl (by cases h; exact ⟨rfl, rfl⟩)
  have h := j_ifn c6 h
  refine J_tableOut (tgt := 154) d_M_count_3 (j_out7 c0 c1 c2 c3 c4 c5 c6) (by decide) ?_
  refine J_bipush (v := (-2 : Int32)) d_M_count_154 (by decide) ?_
  exact J_iret d_M_count_156 rfl rfl (by cases h; exact ⟨rfl, rfl⟩)

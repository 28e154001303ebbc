theorem df_X : ∀ j, j < 9 → defaultValue (ty_X j) = vp_V [.null, .null, .null, .null, .null, .int 0, .int 0, .int 0, .int 0] j := by decide +kernel
theorem df_XA : ∀ j, j < 4 → defaultValue (ty_XA j) = vp_V [.null, .null, .int 0, .int 0] j := by decide +kernel
theorem df_XR : ∀ j, j < 5 → defaultValue (ty_XR j) = vp_V [.null, .null, .int 0, .int 0, .int 0] j := by decide +kernel
theorem df_XK : ∀ j, j < 4 → defaultValue (ty_XK j) = vp_V [.null, .null, .null, .null] j := by decide +kernel
theorem df_XO : ∀ j, j < 5 → defaultValue (ty_XO j) = vp_V [.null, .null, .int 0, .int 0, .int 0] j := by decide +kernel
theorem df_M : ∀ j, j < 23 → defaultValue (ty_M j) = vp_V [.int 0, .int 0, .int 0, .int 0, .int 0, .int 0, .int 0, .null, .null, .null, .null, .null, .null, .null, .null, .null, .null, .null, .null, .int 0, .null, .null, .int 0] j := by decide +kernel
set_option maxRecDepth 100000 in
set_option maxHeartbeats 4000000 in
theorem c_XA_init (l : Launch) (D : va_G) (cA : Nat → ClassId) (h0 : Nat) : KMet l vwCl NsG (.code y_XA_init prog_2_method_1_code 1 none :: TsG) y_XA_init { frames := 1, cells := 2, slots := 80, locals := 20 } D cA [.ref h0] [(h0, .inr (1, [.null, .null, .int 0, .int 0]))] (fun w => ∃ q1 q2 : Nat, w = [(h0, .inr (1, [.ref q1, .ref q2, .int 0, .int 0])), (q1, .inl (cA 0, 40, .inl (fun _ => 0))), (q2, .inl (cA 0, 40, .inl (fun _ => 0)))]) 2 80 := by
  refine K_enter (by decide +kernel) rfl rfl (Nat.le_of_ble_eq_true rfl) ?_
  refine K_eq (ls' := [some (.ref h0)]) rfl rfl rfl rfl ?_
  refine K_aload_n d_XA_init_0 rfl ?_
  refine K_objInit d_XA_init_1 ts_385 ts_386 ts_387 (by decide) (Nat.le_of_ble_eq_true rfl) ?_
  refine K_aload_n d_XA_init_4 rfl ?_
  refine K_bipush (v := 40) d_XA_init_5 (by decide) ?_
  refine K_newI (N := 40) d_XA_init_7 ts_388 (by decide) (by decide) (by decide) (by decide) (by decide) (fun q1 => ?_)
  refine K_eq (ws' := [(h0, .inr (1, [.null, .null, .int 0, .int 0])), (q1, .inl (cA 0, 40, .inl (fun _ => 0)))]) rfl rfl rfl rfl ?_
  refine K_putF (q0 := 0) (j := 0) d_XA_init_9 rfl rfl in_1 ty_XA tyok_XA nok_XA (by decide) ts_49 rfl rfl rfl (tyok_XA 0 (by decide)) rfl rfl (Nat.le_of_ble_eq_true rfl) ?_
  refine K_eq (ws' := [(h0, .inr (1, [.ref q1, .null, .int 0, .int 0])), (q1, .inl (cA 0, 40, .inl (fun _ => 0)))]) rfl rfl rfl rfl ?_
  refine K_aload_n d_XA_init_12 rfl ?_
  refine K_bipush (v := 40) d_XA_init_13 (by decide) ?_
  refine K_newI (N := 40) d_XA_init_15 ts_388 (by decide) (by decide) (by decide) (by decide) (by decide) (fun q2 => ?_)
  refine K_eq (ws' := [(h0, .inr (1, [.ref q1, .null, .int 0, .int 0])), (q1, .inl (cA 0, 40, .inl (fun _ => 0))), (q2, .inl (cA 0, 40, .inl (fun _ => 0)))]) rfl rfl rfl rfl ?_
  refine K_putF (q0 := 0) (j := 1) d_XA_init_17 rfl rfl in_1 ty_XA tyok_XA nok_XA (by decide) ts_50 rfl rfl rfl (tyok_XA 1 (by decide)) rfl rfl (Nat.le_of_ble_eq_true rfl) ?_
  refine K_eq (ws' := [(h0, .inr (1, [.ref q1, .ref q2, .int 0, .int 0])), (q1, .inl (cA 0, 40, .inl (fun _ => 0))), (q2, .inl (cA 0, 40, .inl (fun _ => 0)))]) rfl rfl rfl rfl ?_
  refine K_aload_n d_XA_init_20 rfl ?_
  refine K_iconst (v := 0) d_XA_init_21 (by decide) ?_
  refine K_put (q0 := 0) (j := 2) d_XA_init_22 rfl rfl in_1 ty_XA tyok_XA nok_XA (by decide) ts_39 rfl (tyok_XA 2 (by decide)) rfl rfl (Nat.le_of_ble_eq_true rfl) ?_
  refine K_eq (ws' := [(h0, .inr (1, [.ref q1, .ref q2, .int 0, .int 0])), (q1, .inl (cA 0, 40, .inl (fun _ => 0))), (q2, .inl (cA 0, 40, .inl (fun _ => 0)))]) rfl rfl rfl rfl ?_
  refine K_aload_n d_XA_init_25 rfl ?_
  refine K_iconst (v := 0) d_XA_init_26 (by decide) ?_
  refine K_put (q0 := 0) (j := 3) d_XA_init_27 rfl rfl in_1 ty_XA tyok_XA nok_XA (by decide) ts_51 rfl (tyok_XA 3 (by decide)) rfl rfl (Nat.le_of_ble_eq_true rfl) ?_
  refine K_eq (ws' := [(h0, .inr (1, [.ref q1, .ref q2, .int 0, .int 0])), (q1, .inl (cA 0, 40, .inl (fun _ => 0))), (q2, .inl (cA 0, 40, .inl (fun _ => 0)))]) rfl rfl rfl rfl ?_
  exact K_vret d_XA_init_30 rfl ⟨_, _, rfl⟩
set_option maxRecDepth 100000 in
set_option maxHeartbeats 4000000 in
theorem c_XR_init (l : Launch) (D : va_G) (cA : Nat → ClassId) (h0 r1 : Nat) : KMet l vwCl NsG (.code y_XR_init prog_5_method_1_code 2 none :: TsG) y_XR_init { frames := 1, cells := 1, slots := 20, locals := 20 } D cA [.ref h0, .ref r1] [(h0, .inr (2, [.null, .null, .int 0, .int 0, .int 0]))] (fun w => ∃ q1 : Nat, w = [(h0, .inr (2, [.ref r1, .ref q1, .int 20, .int 0, .int 0])), (q1, .inl (cA 0, 20, .inl (fun _ => 0)))]) 1 20 := by
  refine K_enter (by decide +kernel) rfl rfl (Nat.le_of_ble_eq_true rfl) ?_
  refine K_eq (ls' := [some (.ref h0), some (.ref r1)]) rfl rfl rfl rfl ?_
  refine K_aload_n d_XR_init_0 rfl ?_
  refine K_objInit d_XR_init_1 ts_389 ts_386 ts_387 (by decide) (Nat.le_of_ble_eq_true rfl) ?_
  refine K_aload_n d_XR_init_4 rfl ?_
  refine K_bipush (v := 20) d_XR_init_5 (by decide) ?_
  refine K_newI (N := 20) d_XR_init_7 ts_388 (by decide) (by decide) (by decide) (by decide) (by decide) (fun q1 => ?_)
  refine K_eq (ws' := [(h0, .inr (2, [.null, .null, .int 0, .int 0, .int 0])), (q1, .inl (cA 0, 20, .inl (fun _ => 0)))]) rfl rfl rfl rfl ?_
  refine K_putF (q0 := 0) (j := 1) d_XR_init_9 rfl rfl in_2 ty_XR tyok_XR nok_XR (by decide) ts_141 rfl rfl rfl (tyok_XR 1 (by decide)) rfl rfl (Nat.le_of_ble_eq_true rfl) ?_
  refine K_eq (ws' := [(h0, .inr (2, [.null, .ref q1, .int 0, .int 0, .int 0])), (q1, .inl (cA 0, 20, .inl (fun _ => 0)))]) rfl rfl rfl rfl ?_
  refine K_aload_n d_XR_init_12 rfl ?_
  refine K_bipush (v := 20) d_XR_init_13 (by decide) ?_
  refine K_put (q0 := 0) (j := 2) d_XR_init_15 rfl rfl in_2 ty_XR tyok_XR nok_XR (by decide) ts_120 rfl (tyok_XR 2 (by decide)) rfl rfl (Nat.le_of_ble_eq_true rfl) ?_
  refine K_eq (ws' := [(h0, .inr (2, [.null, .ref q1, .int 20, .int 0, .int 0])), (q1, .inl (cA 0, 20, .inl (fun _ => 0)))]) rfl rfl rfl rfl ?_
  refine K_aload_n d_XR_init_18 rfl ?_
  refine K_iconst (v := 0) d_XR_init_19 (by decide) ?_
  refine K_put (q0 := 0) (j := 3) d_XR_init_20 rfl rfl in_2 ty_XR tyok_XR nok_XR (by decide) ts_135 rfl (tyok_XR 3 (by decide)) rfl rfl (Nat.le_of_ble_eq_true rfl) ?_
  refine K_eq (ws' := [(h0, .inr (2, [.null, .ref q1, .int 20, .int 0, .int 0])), (q1, .inl (cA 0, 20, .inl (fun _ => 0)))]) rfl rfl rfl rfl ?_
  refine K_aload_n d_XR_init_23 rfl ?_
  refine K_iconst (v := 0) d_XR_init_24 (by decide) ?_
  refine K_put (q0 := 0) (j := 4) d_XR_init_25 rfl rfl in_2 ty_XR tyok_XR nok_XR (by decide) ts_134 rfl (tyok_XR 4 (by decide)) rfl rfl (Nat.le_of_ble_eq_true rfl) ?_
  refine K_eq (ws' := [(h0, .inr (2, [.null, .ref q1, .int 20, .int 0, .int 0])), (q1, .inl (cA 0, 20, .inl (fun _ => 0)))]) rfl rfl rfl rfl ?_
  refine K_aload_n d_XR_init_28 rfl ?_
  refine K_aload_n d_XR_init_29 rfl ?_
  refine K_putF (q0 := 0) (j := 0) d_XR_init_30 rfl rfl in_2 ty_XR tyok_XR nok_XR (by decide) ts_136 rfl rfl rfl (tyok_XR 0 (by decide)) rfl rfl (Nat.le_of_ble_eq_true rfl) ?_
  refine K_eq (ws' := [(h0, .inr (2, [.ref r1, .ref q1, .int 20, .int 0, .int 0])), (q1, .inl (cA 0, 20, .inl (fun _ => 0)))]) rfl rfl rfl rfl ?_
  exact K_vret d_XR_init_33 rfl ⟨_, rfl⟩
set_option maxRecDepth 100000 in
set_option maxHeartbeats 4000000 in
theorem c_XK_init (l : Launch) (D : va_G) (cA : Nat → ClassId) (h0 : Nat) : KMet l vwCl NsG (.code y_XK_init prog_3_method_1_code 1 none :: TsG) y_XK_init { frames := 1, cells := 4, slots := 84, locals := 20 } D cA [.ref h0] [(h0, .inr (3, [.null, .null, .null, .null]))] (fun w => ∃ q1 q2 q3 q4 : Nat, w = [(h0, .inr (3, [.ref q1, .ref q2, .ref q3, .ref q4])), (q1, .inl (cA 0, 21, .inl (upd (fun _ => 0) 20 ((1 : Int32) <<< ((20 : Int32) &&& 31))))), (q2, .inl (cA 0, 21, .inl (upd (fun _ => 0) 20 ((1 : Int32) <<< ((20 : Int32) &&& 31))))), (q3, .inl (cA 0, 21, .inl (fun _ => 0))), (q4, .inl (cA 0, 21, .inl (fun _ => 0)))]) 4 84 := by
  refine K_enter (by decide +kernel) rfl rfl (Nat.le_of_ble_eq_true rfl) ?_
  refine K_eq (ls' := [some (.ref h0)]) rfl rfl rfl rfl ?_
  refine K_aload_n d_XK_init_0 rfl ?_
  refine K_objInit d_XK_init_1 ts_390 ts_386 ts_387 (by decide) (Nat.le_of_ble_eq_true rfl) ?_
  refine K_aload_n d_XK_init_4 rfl ?_
  refine K_bipush (v := 21) d_XK_init_5 (by decide) ?_
  refine K_newI (N := 21) d_XK_init_7 ts_388 (by decide) (by decide) (by decide) (by decide) (by decide) (fun q1 => ?_)
  refine K_eq (ws' := [(h0, .inr (3, [.null, .null, .null, .null])), (q1, .inl (cA 0, 21, .inl (fun _ => 0)))]) rfl rfl rfl rfl ?_
  refine K_putF (q0 := 0) (j := 0) d_XK_init_9 rfl rfl in_3 ty_XK tyok_XK nok_XK (by decide) ts_2 rfl rfl rfl (tyok_XK 0 (by decide)) rfl rfl (Nat.le_of_ble_eq_true rfl) ?_
  refine K_eq (ws' := [(h0, .inr (3, [.ref q1, .null, .null, .null])), (q1, .inl (cA 0, 21, .inl (fun _ => 0)))]) rfl rfl rfl rfl ?_
  refine K_aload_n d_XK_init_12 rfl ?_
  refine K_bipush (v := 21) d_XK_init_13 (by decide) ?_
  refine K_newI (N := 21) d_XK_init_15 ts_388 (by decide) (by decide) (by decide) (by decide) (by decide) (fun q2 => ?_)
  refine K_eq (ws' := [(h0, .inr (3, [.ref q1, .null, .null, .null])), (q1, .inl (cA 0, 21, .inl (fun _ => 0))), (q2, .inl (cA 0, 21, .inl (fun _ => 0)))]) rfl rfl rfl rfl ?_
  refine K_putF (q0 := 0) (j := 1) d_XK_init_17 rfl rfl in_3 ty_XK tyok_XK nok_XK (by decide) ts_6 rfl rfl rfl (tyok_XK 1 (by decide)) rfl rfl (Nat.le_of_ble_eq_true rfl) ?_
  refine K_eq (ws' := [(h0, .inr (3, [.ref q1, .ref q2, .null, .null])), (q1, .inl (cA 0, 21, .inl (fun _ => 0))), (q2, .inl (cA 0, 21, .inl (fun _ => 0)))]) rfl rfl rfl rfl ?_
  refine K_aload_n d_XK_init_20 rfl ?_
  refine K_bipush (v := 21) d_XK_init_21 (by decide) ?_
  refine K_newI (N := 21) d_XK_init_23 ts_388 (by decide) (by decide) (by decide) (by decide) (by decide) (fun q3 => ?_)
  refine K_eq (ws' := [(h0, .inr (3, [.ref q1, .ref q2, .null, .null])), (q1, .inl (cA 0, 21, .inl (fun _ => 0))), (q2, .inl (cA 0, 21, .inl (fun _ => 0))), (q3, .inl (cA 0, 21, .inl (fun _ => 0)))]) rfl rfl rfl rfl ?_
  refine K_putF (q0 := 0) (j := 2) d_XK_init_25 rfl rfl in_3 ty_XK tyok_XK nok_XK (by decide) ts_15 rfl rfl rfl (tyok_XK 2 (by decide)) rfl rfl (Nat.le_of_ble_eq_true rfl) ?_
  refine K_eq (ws' := [(h0, .inr (3, [.ref q1, .ref q2, .ref q3, .null])), (q1, .inl (cA 0, 21, .inl (fun _ => 0))), (q2, .inl (cA 0, 21, .inl (fun _ => 0))), (q3, .inl (cA 0, 21, .inl (fun _ => 0)))]) rfl rfl rfl rfl ?_
  refine K_aload_n d_XK_init_28 rfl ?_
  refine K_bipush (v := 21) d_XK_init_29 (by decide) ?_
  refine K_newI (N := 21) d_XK_init_31 ts_388 (by decide) (by decide) (by decide) (by decide) (by decide) (fun q4 => ?_)
  refine K_eq (ws' := [(h0, .inr (3, [.ref q1, .ref q2, .ref q3, .null])), (q1, .inl (cA 0, 21, .inl (fun _ => 0))), (q2, .inl (cA 0, 21, .inl (fun _ => 0))), (q3, .inl (cA 0, 21, .inl (fun _ => 0))), (q4, .inl (cA 0, 21, .inl (fun _ => 0)))]) rfl rfl rfl rfl ?_
  refine K_putF (q0 := 0) (j := 3) d_XK_init_33 rfl rfl in_3 ty_XK tyok_XK nok_XK (by decide) ts_19 rfl rfl rfl (tyok_XK 3 (by decide)) rfl rfl (Nat.le_of_ble_eq_true rfl) ?_
  refine K_eq (ws' := [(h0, .inr (3, [.ref q1, .ref q2, .ref q3, .ref q4])), (q1, .inl (cA 0, 21, .inl (fun _ => 0))), (q2, .inl (cA 0, 21, .inl (fun _ => 0))), (q3, .inl (cA 0, 21, .inl (fun _ => 0))), (q4, .inl (cA 0, 21, .inl (fun _ => 0)))]) rfl rfl rfl rfl ?_
  refine K_aload_n d_XK_init_36 rfl ?_
  refine K_get (q0 := 0) (j := 0) (v := .ref q1) d_XK_init_37 rfl rfl in_3 (by decide) ts_2 rfl ?_
  refine K_bipush (v := 20) d_XK_init_40 (by decide) ?_
  refine K_bipush (v := 20) d_XK_init_42 (by decide) ?_
  refine K_callJSN (As := [.int 20]) (ad := id) (wj := []) (wj1 := []) (w2 := [(h0, .inr (3, [.ref q1, .ref q2, .ref q3, .ref q4])), (q1, .inl (cA 0, 21, .inl (fun _ => 0))), (q2, .inl (cA 0, 21, .inl (fun _ => 0))), (q3, .inl (cA 0, 21, .inl (fun _ => 0))), (q4, .inl (cA 0, 21, .inl (fun _ => 0)))]) (st := [.int 20, .ref q1]) d_XK_init_44 (c_X_bit l [] _ _ rfl) rfl ts_3 ts_good rfl rfl ts_4 ns_0 dy_X_bit ts_5 (by decide) rfl (Nat.le_of_ble_eq_true rfl) (by decide) ?_
  refine K_eq (ws' := [(h0, .inr (3, [.ref q1, .ref q2, .ref q3, .ref q4])), (q1, .inl (cA 0, 21, .inl (fun _ => 0))), (q2, .inl (cA 0, 21, .inl (fun _ => 0))), (q3, .inl (cA 0, 21, .inl (fun _ => 0))), (q4, .inl (cA 0, 21, .inl (fun _ => 0)))]) rfl rfl rfl rfl ?_
  refine K_iast (q0 := 1) d_XK_init_47 rfl (jin_in (by decide)) ?_
  refine K_eq (ws' := [(h0, .inr (3, [.ref q1, .ref q2, .ref q3, .ref q4])), (q1, .inl (cA 0, 21, .inl (upd (fun _ => 0) 20 ((1 : Int32) <<< ((20 : Int32) &&& 31))))), (q2, .inl (cA 0, 21, .inl (fun _ => 0))), (q3, .inl (cA 0, 21, .inl (fun _ => 0))), (q4, .inl (cA 0, 21, .inl (fun _ => 0)))]) rfl rfl rfl rfl ?_
  refine K_aload_n d_XK_init_48 rfl ?_
  refine K_get (q0 := 0) (j := 1) (v := .ref q2) d_XK_init_49 rfl rfl in_3 (by decide) ts_6 rfl ?_
  refine K_bipush (v := 20) d_XK_init_52 (by decide) ?_
  refine K_bipush (v := 20) d_XK_init_54 (by decide) ?_
  refine K_callJSN (As := [.int 20]) (ad := id) (wj := []) (wj1 := []) (w2 := [(h0, .inr (3, [.ref q1, .ref q2, .ref q3, .ref q4])), (q1, .inl (cA 0, 21, .inl (upd (fun _ => 0) 20 ((1 : Int32) <<< ((20 : Int32) &&& 31))))), (q2, .inl (cA 0, 21, .inl (fun _ => 0))), (q3, .inl (cA 0, 21, .inl (fun _ => 0))), (q4, .inl (cA 0, 21, .inl (fun _ => 0)))]) (st := [.int 20, .ref q2]) d_XK_init_56 (c_X_bit l [] _ _ rfl) rfl ts_3 ts_good rfl rfl ts_4 ns_0 dy_X_bit ts_5 (by decide) rfl (Nat.le_of_ble_eq_true rfl) (by decide) ?_
  refine K_eq (ws' := [(h0, .inr (3, [.ref q1, .ref q2, .ref q3, .ref q4])), (q1, .inl (cA 0, 21, .inl (upd (fun _ => 0) 20 ((1 : Int32) <<< ((20 : Int32) &&& 31))))), (q2, .inl (cA 0, 21, .inl (fun _ => 0))), (q3, .inl (cA 0, 21, .inl (fun _ => 0))), (q4, .inl (cA 0, 21, .inl (fun _ => 0)))]) rfl rfl rfl rfl ?_
  refine K_iast (q0 := 2) d_XK_init_59 rfl (jin_in (by decide)) ?_
  refine K_eq (ws' := [(h0, .inr (3, [.ref q1, .ref q2, .ref q3, .ref q4])), (q1, .inl (cA 0, 21, .inl (upd (fun _ => 0) 20 ((1 : Int32) <<< ((20 : Int32) &&& 31))))), (q2, .inl (cA 0, 21, .inl (upd (fun _ => 0) 20 ((1 : Int32) <<< ((20 : Int32) &&& 31))))), (q3, .inl (cA 0, 21, .inl (fun _ => 0))), (q4, .inl (cA 0, 21, .inl (fun _ => 0)))]) rfl rfl rfl rfl ?_
  exact K_vret d_XK_init_60 rfl ⟨_, _, _, _, rfl⟩
set_option maxRecDepth 100000 in
set_option maxHeartbeats 4000000 in
theorem c_XO_init (l : Launch) (D : va_G) (cA : Nat → ClassId) (h0 r1 r2 : Nat) : KMet l vwCl NsG (.code y_XO_init prog_4_method_1_code 3 none :: TsG) y_XO_init { frames := 1, cells := 0, slots := 0, locals := 20 } D cA [.ref h0, .ref r1, .ref r2] [(h0, .inr (4, [.null, .null, .int 0, .int 0, .int 0]))] (fun w => w = [(h0, .inr (4, [.ref r1, .ref r2, .int 0, .int 0, .int 0]))]) 0 0 := by
  refine K_enter (by decide +kernel) rfl rfl (Nat.le_of_ble_eq_true rfl) ?_
  refine K_eq (ls' := [some (.ref h0), some (.ref r1), some (.ref r2)]) rfl rfl rfl rfl ?_
  refine K_aload_n d_XO_init_0 rfl ?_
  refine K_objInit d_XO_init_1 ts_391 ts_386 ts_387 (by decide) (Nat.le_of_ble_eq_true rfl) ?_
  refine K_aload_n d_XO_init_4 rfl ?_
  refine K_iconst (v := 0) d_XO_init_5 (by decide) ?_
  refine K_put (q0 := 0) (j := 2) d_XO_init_6 rfl rfl in_4 ty_XO tyok_XO nok_XO (by decide) ts_148 rfl (tyok_XO 2 (by decide)) rfl rfl (Nat.le_of_ble_eq_true rfl) ?_
  refine K_eq (ws' := [(h0, .inr (4, [.null, .null, .int 0, .int 0, .int 0]))]) rfl rfl rfl rfl ?_
  refine K_aload_n d_XO_init_9 rfl ?_
  refine K_iconst (v := 0) d_XO_init_10 (by decide) ?_
  refine K_put (q0 := 0) (j := 3) d_XO_init_11 rfl rfl in_4 ty_XO tyok_XO nok_XO (by decide) ts_149 rfl (tyok_XO 3 (by decide)) rfl rfl (Nat.le_of_ble_eq_true rfl) ?_
  refine K_eq (ws' := [(h0, .inr (4, [.null, .null, .int 0, .int 0, .int 0]))]) rfl rfl rfl rfl ?_
  refine K_aload_n d_XO_init_14 rfl ?_
  refine K_iconst (v := 0) d_XO_init_15 (by decide) ?_
  refine K_put (q0 := 0) (j := 4) d_XO_init_16 rfl rfl in_4 ty_XO tyok_XO nok_XO (by decide) ts_150 rfl (tyok_XO 4 (by decide)) rfl rfl (Nat.le_of_ble_eq_true rfl) ?_
  refine K_eq (ws' := [(h0, .inr (4, [.null, .null, .int 0, .int 0, .int 0]))]) rfl rfl rfl rfl ?_
  refine K_aload_n d_XO_init_19 rfl ?_
  refine K_aload_n d_XO_init_20 rfl ?_
  refine K_putF (q0 := 0) (j := 0) d_XO_init_21 rfl rfl in_4 ty_XO tyok_XO nok_XO (by decide) ts_151 rfl rfl rfl (tyok_XO 0 (by decide)) rfl rfl (Nat.le_of_ble_eq_true rfl) ?_
  refine K_eq (ws' := [(h0, .inr (4, [.ref r1, .null, .int 0, .int 0, .int 0]))]) rfl rfl rfl rfl ?_
  refine K_aload_n d_XO_init_24 rfl ?_
  refine K_aload_n d_XO_init_25 rfl ?_
  refine K_putF (q0 := 0) (j := 1) d_XO_init_26 rfl rfl in_4 ty_XO tyok_XO nok_XO (by decide) ts_153 rfl rfl rfl (tyok_XO 1 (by decide)) rfl rfl (Nat.le_of_ble_eq_true rfl) ?_
  refine K_eq (ws' := [(h0, .inr (4, [.ref r1, .ref r2, .int 0, .int 0, .int 0]))]) rfl rfl rfl rfl ?_
  exact K_vret d_XO_init_29 rfl rfl
set_option maxRecDepth 100000 in
set_option maxHeartbeats 4000000 in
theorem c_X_init (l : Launch) (D : va_G) (cA : Nat → ClassId) (h0 : Nat) : KMet l vwCl NsG (.code y_X_init prog_1_method_1_code 1 none :: TsG) y_X_init { frames := 2, cells := 12, slots := 210, locals := 42 } D cA [.ref h0] [(h0, .inr (0, [.null, .null, .null, .null, .null, .int 0, .int 0, .int 0, .int 0]))] (fun w => ∃ q1 q2 q3 q4 q5 q6 q7 q8 q9 q10 q11 q12 : Nat, w = [(h0, .inr (0, [.ref q1, .ref q4, .ref q6, .ref q11, .ref q12, .int 0, .int 0, .int 0, .int 0])), (q1, .inr (1, [.ref q2, .ref q3, .int 0, .int 0])), (q2, .inl (cA 0, 40, .inl (fun _ => 0))), (q3, .inl (cA 0, 40, .inl (fun _ => 0))), (q4, .inr (2, [.ref q1, .ref q5, .int 20, .int 0, .int 0])), (q5, .inl (cA 0, 20, .inl (fun _ => 0))), (q6, .inr (3, [.ref q7, .ref q8, .ref q9, .ref q10])), (q7, .inl (cA 0, 21, .inl (upd (fun _ => 0) 20 ((1 : Int32) <<< ((20 : Int32) &&& 31))))), (q8, .inl (cA 0, 21, .inl (upd (fun _ => 0) 20 ((1 : Int32) <<< ((20 : Int32) &&& 31))))), (q9, .inl (cA 0, 21, .inl (fun _ => 0))), (q10, .inl (cA 0, 21, .inl (fun _ => 0))), (q11, .inr (4, [.ref q6, .ref q4, .int 0, .int 0, .int 0])), (q12, .inl (cA 0, 8, .inl (fun _ => 0)))]) 12 210 := by
  refine K_enter (by decide +kernel) rfl rfl (Nat.le_of_ble_eq_true rfl) ?_
  refine K_eq (ls' := [some (.ref h0)]) rfl rfl rfl rfl ?_
  refine K_aload_n d_X_init_0 rfl ?_
  refine K_objInit d_X_init_1 ts_392 ts_386 ts_387 (by decide) (Nat.le_of_ble_eq_true rfl) ?_
  refine K_aload_n d_X_init_4 rfl ?_
  refine K_new (fs := [.null, .null, .int 0, .int 0]) d_X_init_5 (ci := 1) rfl in_1 ty_XA tyok_XA ts_393 ts_394 ts_41 df_XA (by decide) (by decide) (fun q1 => ?_)
  refine K_eq (ws' := [(h0, .inr (0, [.null, .null, .null, .null, .null, .int 0, .int 0, .int 0, .int 0])), (q1, .inr (1, [.null, .null, .int 0, .int 0]))]) rfl rfl rfl rfl ?_
  refine K_dup d_X_init_8 rfl ?_
  refine K_callIN (As := []) (st := [.ref q1, .ref h0]) (wc := [(q1, .inr (1, [.null, .null, .int 0, .int 0]))]) (wr := [(h0, .inr (0, [.null, .null, .null, .null, .null, .int 0, .int 0, .int 0, .int 0]))]) [1] [0] d_X_init_9 (c_XA_init l D cA q1) rfl rfl (by decide) (by decide) (by decide) ts_395 ts_good rfl rfl ts_41 ns_8 dy_XA_init rfl ts_396 (by decide) rfl (Nat.le_of_ble_eq_true rfl) (by decide) (fun w1 hw => ?_)
  obtain ⟨q2, q3, rfl⟩ := hw
  refine K_eq (ws' := [(h0, .inr (0, [.null, .null, .null, .null, .null, .int 0, .int 0, .int 0, .int 0])), (q1, .inr (1, [.ref q2, .ref q3, .int 0, .int 0])), (q2, .inl (cA 0, 40, .inl (fun _ => 0))), (q3, .inl (cA 0, 40, .inl (fun _ => 0)))]) rfl rfl rfl rfl ?_
  refine K_putF (q0 := 0) (j := 0) d_X_init_12 rfl rfl in_0 ty_X tyok_X nok_X (by decide) ts_38 rfl rfl rfl (tyok_X 0 (by decide)) rfl rfl (Nat.le_of_ble_eq_true rfl) ?_
  refine K_eq (ws' := [(h0, .inr (0, [.ref q1, .null, .null, .null, .null, .int 0, .int 0, .int 0, .int 0])), (q1, .inr (1, [.ref q2, .ref q3, .int 0, .int 0])), (q2, .inl (cA 0, 40, .inl (fun _ => 0))), (q3, .inl (cA 0, 40, .inl (fun _ => 0)))]) rfl rfl rfl rfl ?_
  refine K_aload_n d_X_init_15 rfl ?_
  refine K_new (fs := [.null, .null, .int 0, .int 0, .int 0]) d_X_init_16 (ci := 2) rfl in_2 ty_XR tyok_XR ts_397 ts_398 ts_122 df_XR (by decide) (by decide) (fun q4 => ?_)
  refine K_eq (ws' := [(h0, .inr (0, [.ref q1, .null, .null, .null, .null, .int 0, .int 0, .int 0, .int 0])), (q1, .inr (1, [.ref q2, .ref q3, .int 0, .int 0])), (q2, .inl (cA 0, 40, .inl (fun _ => 0))), (q3, .inl (cA 0, 40, .inl (fun _ => 0))), (q4, .inr (2, [.null, .null, .int 0, .int 0, .int 0]))]) rfl rfl rfl rfl ?_
  refine K_dup d_X_init_19 rfl ?_
  refine K_aload_n d_X_init_20 rfl ?_
  refine K_get (q0 := 0) (j := 0) (v := .ref q1) d_X_init_21 rfl rfl in_0 (by decide) ts_38 rfl ?_
  refine K_callI (As := [.ref q1]) (st := [.ref q4, .ref h0]) (wc := [(q4, .inr (2, [.null, .null, .int 0, .int 0, .int 0]))]) (wr := [(h0, .inr (0, [.ref q1, .null, .null, .null, .null, .int 0, .int 0, .int 0, .int 0])), (q1, .inr (1, [.ref q2, .ref q3, .int 0, .int 0])), (q2, .inl (cA 0, 40, .inl (fun _ => 0))), (q3, .inl (cA 0, 40, .inl (fun _ => 0)))]) [4] [0, 1, 2, 3] d_X_init_24 (c_XR_init l D cA q4 q1) rfl rfl (by decide) (by decide) (by decide) ts_399 ts_good rfl rfl ts_122 ts_400 dy_XR_init rfl ts_401 (by decide) rfl (Nat.le_of_ble_eq_true rfl) (by decide) (fun w1 hw => ?_)
  obtain ⟨q5, rfl⟩ := hw
  refine K_eq (ws' := [(h0, .inr (0, [.ref q1, .null, .null, .null, .null, .int 0, .int 0, .int 0, .int 0])), (q1, .inr (1, [.ref q2, .ref q3, .int 0, .int 0])), (q2, .inl (cA 0, 40, .inl (fun _ => 0))), (q3, .inl (cA 0, 40, .inl (fun _ => 0))), (q4, .inr (2, [.ref q1, .ref q5, .int 20, .int 0, .int 0])), (q5, .inl (cA 0, 20, .inl (fun _ => 0)))]) rfl rfl rfl rfl ?_
  refine K_putF (q0 := 0) (j := 1) d_X_init_27 rfl rfl in_0 ty_X tyok_X nok_X (by decide) ts_112 rfl rfl rfl (tyok_X 1 (by decide)) rfl rfl (Nat.le_of_ble_eq_true rfl) ?_
  refine K_eq (ws' := [(h0, .inr (0, [.ref q1, .ref q4, .null, .null, .null, .int 0, .int 0, .int 0, .int 0])), (q1, .inr (1, [.ref q2, .ref q3, .int 0, .int 0])), (q2, .inl (cA 0, 40, .inl (fun _ => 0))), (q3, .inl (cA 0, 40, .inl (fun _ => 0))), (q4, .inr (2, [.ref q1, .ref q5, .int 20, .int 0, .int 0])), (q5, .inl (cA 0, 20, .inl (fun _ => 0)))]) rfl rfl rfl rfl ?_
  refine K_aload_n d_X_init_30 rfl ?_
  refine K_new (fs := [.null, .null, .null, .null]) d_X_init_31 (ci := 3) rfl in_3 ty_XK tyok_XK ts_402 ts_403 ts_11 df_XK (by decide) (by decide) (fun q6 => ?_)
  refine K_eq (ws' := [(h0, .inr (0, [.ref q1, .ref q4, .null, .null, .null, .int 0, .int 0, .int 0, .int 0])), (q1, .inr (1, [.ref q2, .ref q3, .int 0, .int 0])), (q2, .inl (cA 0, 40, .inl (fun _ => 0))), (q3, .inl (cA 0, 40, .inl (fun _ => 0))), (q4, .inr (2, [.ref q1, .ref q5, .int 20, .int 0, .int 0])), (q5, .inl (cA 0, 20, .inl (fun _ => 0))), (q6, .inr (3, [.null, .null, .null, .null]))]) rfl rfl rfl rfl ?_
  refine K_dup d_X_init_34 rfl ?_
  refine K_callI (As := []) (st := [.ref q6, .ref h0]) (wc := [(q6, .inr (3, [.null, .null, .null, .null]))]) (wr := [(h0, .inr (0, [.ref q1, .ref q4, .null, .null, .null, .int 0, .int 0, .int 0, .int 0])), (q1, .inr (1, [.ref q2, .ref q3, .int 0, .int 0])), (q2, .inl (cA 0, 40, .inl (fun _ => 0))), (q3, .inl (cA 0, 40, .inl (fun _ => 0))), (q4, .inr (2, [.ref q1, .ref q5, .int 20, .int 0, .int 0])), (q5, .inl (cA 0, 20, .inl (fun _ => 0)))]) [6] [0, 1, 2, 3, 4, 5] d_X_init_35 (c_XK_init l D cA q6) rfl rfl (by decide) (by decide) (by decide) ts_404 ts_good rfl rfl ts_11 ts_405 dy_XK_init rfl ts_406 (by decide) rfl (Nat.le_of_ble_eq_true rfl) (by decide) (fun w1 hw => ?_)
  obtain ⟨q7, q8, q9, q10, rfl⟩ := hw
  refine K_eq (ws' := [(h0, .inr (0, [.ref q1, .ref q4, .null, .null, .null, .int 0, .int 0, .int 0, .int 0])), (q1, .inr (1, [.ref q2, .ref q3, .int 0, .int 0])), (q2, .inl (cA 0, 40, .inl (fun _ => 0))), (q3, .inl (cA 0, 40, .inl (fun _ => 0))), (q4, .inr (2, [.ref q1, .ref q5, .int 20, .int 0, .int 0])), (q5, .inl (cA 0, 20, .inl (fun _ => 0))), (q6, .inr (3, [.ref q7, .ref q8, .ref q9, .ref q10])), (q7, .inl (cA 0, 21, .inl (upd (fun _ => 0) 20 ((1 : Int32) <<< ((20 : Int32) &&& 31))))), (q8, .inl (cA 0, 21, .inl (upd (fun _ => 0) 20 ((1 : Int32) <<< ((20 : Int32) &&& 31))))), (q9, .inl (cA 0, 21, .inl (fun _ => 0))), (q10, .inl (cA 0, 21, .inl (fun _ => 0)))]) rfl rfl rfl rfl ?_
  refine K_putF (q0 := 0) (j := 2) d_X_init_38 rfl rfl in_0 ty_X tyok_X nok_X (by decide) ts_1 rfl rfl rfl (tyok_X 2 (by decide)) rfl rfl (Nat.le_of_ble_eq_true rfl) ?_
  refine K_eq (ws' := [(h0, .inr (0, [.ref q1, .ref q4, .ref q6, .null, .null, .int 0, .int 0, .int 0, .int 0])), (q1, .inr (1, [.ref q2, .ref q3, .int 0, .int 0])), (q2, .inl (cA 0, 40, .inl (fun _ => 0))), (q3, .inl (cA 0, 40, .inl (fun _ => 0))), (q4, .inr (2, [.ref q1, .ref q5, .int 20, .int 0, .int 0])), (q5, .inl (cA 0, 20, .inl (fun _ => 0))), (q6, .inr (3, [.ref q7, .ref q8, .ref q9, .ref q10])), (q7, .inl (cA 0, 21, .inl (upd (fun _ => 0) 20 ((1 : Int32) <<< ((20 : Int32) &&& 31))))), (q8, .inl (cA 0, 21, .inl (upd (fun _ => 0) 20 ((1 : Int32) <<< ((20 : Int32) &&& 31))))), (q9, .inl (cA 0, 21, .inl (fun _ => 0))), (q10, .inl (cA 0, 21, .inl (fun _ => 0)))]) rfl rfl rfl rfl ?_
  refine K_aload_n d_X_init_41 rfl ?_
  refine K_new (fs := [.null, .null, .int 0, .int 0, .int 0]) d_X_init_42 (ci := 4) rfl in_4 ty_XO tyok_XO ts_407 ts_408 ts_160 df_XO (by decide) (by decide) (fun q11 => ?_)
  refine K_eq (ws' := [(h0, .inr (0, [.ref q1, .ref q4, .ref q6, .null, .null, .int 0, .int 0, .int 0, .int 0])), (q1, .inr (1, [.ref q2, .ref q3, .int 0, .int 0])), (q2, .inl (cA 0, 40, .inl (fun _ => 0))), (q3, .inl (cA 0, 40, .inl (fun _ => 0))), (q4, .inr (2, [.ref q1, .ref q5, .int 20, .int 0, .int 0])), (q5, .inl (cA 0, 20, .inl (fun _ => 0))), (q6, .inr (3, [.ref q7, .ref q8, .ref q9, .ref q10])), (q7, .inl (cA 0, 21, .inl (upd (fun _ => 0) 20 ((1 : Int32) <<< ((20 : Int32) &&& 31))))), (q8, .inl (cA 0, 21, .inl (upd (fun _ => 0) 20 ((1 : Int32) <<< ((20 : Int32) &&& 31))))), (q9, .inl (cA 0, 21, .inl (fun _ => 0))), (q10, .inl (cA 0, 21, .inl (fun _ => 0))), (q11, .inr (4, [.null, .null, .int 0, .int 0, .int 0]))]) rfl rfl rfl rfl ?_
  refine K_dup d_X_init_45 rfl ?_
  refine K_aload_n d_X_init_46 rfl ?_
  refine K_get (q0 := 0) (j := 2) (v := .ref q6) d_X_init_47 rfl rfl in_0 (by decide) ts_1 rfl ?_
  refine K_aload_n d_X_init_50 rfl ?_
  refine K_get (q0 := 0) (j := 1) (v := .ref q4) d_X_init_51 rfl rfl in_0 (by decide) ts_112 rfl ?_
  refine K_callI (As := [.ref q6, .ref q4]) (st := [.ref q11, .ref h0]) (wc := [(q11, .inr (4, [.null, .null, .int 0, .int 0, .int 0]))]) (wr := [(h0, .inr (0, [.ref q1, .ref q4, .ref q6, .null, .null, .int 0, .int 0, .int 0, .int 0])), (q1, .inr (1, [.ref q2, .ref q3, .int 0, .int 0])), (q2, .inl (cA 0, 40, .inl (fun _ => 0))), (q3, .inl (cA 0, 40, .inl (fun _ => 0))), (q4, .inr (2, [.ref q1, .ref q5, .int 20, .int 0, .int 0])), (q5, .inl (cA 0, 20, .inl (fun _ => 0))), (q6, .inr (3, [.ref q7, .ref q8, .ref q9, .ref q10])), (q7, .inl (cA 0, 21, .inl (upd (fun _ => 0) 20 ((1 : Int32) <<< ((20 : Int32) &&& 31))))), (q8, .inl (cA 0, 21, .inl (upd (fun _ => 0) 20 ((1 : Int32) <<< ((20 : Int32) &&& 31))))), (q9, .inl (cA 0, 21, .inl (fun _ => 0))), (q10, .inl (cA 0, 21, .inl (fun _ => 0)))]) [11] [0, 1, 2, 3, 4, 5, 6, 7, 8, 9, 10] d_X_init_54 (c_XO_init l D cA q11 q6 q4) rfl rfl (by decide) (by decide) (by decide) ts_409 ts_good rfl rfl ts_160 ts_410 dy_XO_init rfl ts_411 (by decide) rfl (Nat.le_of_ble_eq_true rfl) (by decide) (fun w1 hw => ?_)
  cases hw
  refine K_eq (ws' := [(h0, .inr (0, [.ref q1, .ref q4, .ref q6, .null, .null, .int 0, .int 0, .int 0, .int 0])), (q1, .inr (1, [.ref q2, .ref q3, .int 0, .int 0])), (q2, .inl (cA 0, 40, .inl (fun _ => 0))), (q3, .inl (cA 0, 40, .inl (fun _ => 0))), (q4, .inr (2, [.ref q1, .ref q5, .int 20, .int 0, .int 0])), (q5, .inl (cA 0, 20, .inl (fun _ => 0))), (q6, .inr (3, [.ref q7, .ref q8, .ref q9, .ref q10])), (q7, .inl (cA 0, 21, .inl (upd (fun _ => 0) 20 ((1 : Int32) <<< ((20 : Int32) &&& 31))))), (q8, .inl (cA 0, 21, .inl (upd (fun _ => 0) 20 ((1 : Int32) <<< ((20 : Int32) &&& 31))))), (q9, .inl (cA 0, 21, .inl (fun _ => 0))), (q10, .inl (cA 0, 21, .inl (fun _ => 0))), (q11, .inr (4, [.ref q6, .ref q4, .int 0, .int 0, .int 0]))]) rfl rfl rfl rfl ?_
  refine K_putF (q0 := 0) (j := 3) d_X_init_57 rfl rfl in_0 ty_X tyok_X nok_X (by decide) ts_147 rfl rfl rfl (tyok_X 3 (by decide)) rfl rfl (Nat.le_of_ble_eq_true rfl) ?_
  refine K_eq (ws' := [(h0, .inr (0, [.ref q1, .ref q4, .ref q6, .ref q11, .null, .int 0, .int 0, .int 0, .int 0])), (q1, .inr (1, [.ref q2, .ref q3, .int 0, .int 0])), (q2, .inl (cA 0, 40, .inl (fun _ => 0))), (q3, .inl (cA 0, 40, .inl (fun _ => 0))), (q4, .inr (2, [.ref q1, .ref q5, .int 20, .int 0, .int 0])), (q5, .inl (cA 0, 20, .inl (fun _ => 0))), (q6, .inr (3, [.ref q7, .ref q8, .ref q9, .ref q10])), (q7, .inl (cA 0, 21, .inl (upd (fun _ => 0) 20 ((1 : Int32) <<< ((20 : Int32) &&& 31))))), (q8, .inl (cA 0, 21, .inl (upd (fun _ => 0) 20 ((1 : Int32) <<< ((20 : Int32) &&& 31))))), (q9, .inl (cA 0, 21, .inl (fun _ => 0))), (q10, .inl (cA 0, 21, .inl (fun _ => 0))), (q11, .inr (4, [.ref q6, .ref q4, .int 0, .int 0, .int 0]))]) rfl rfl rfl rfl ?_
  refine K_aload_n d_X_init_60 rfl ?_
  refine K_bipush (v := 8) d_X_init_61 (by decide) ?_
  refine K_newI (N := 8) d_X_init_63 ts_388 (by decide) (by decide) (by decide) (by decide) (by decide) (fun q12 => ?_)
  refine K_eq (ws' := [(h0, .inr (0, [.ref q1, .ref q4, .ref q6, .ref q11, .null, .int 0, .int 0, .int 0, .int 0])), (q1, .inr (1, [.ref q2, .ref q3, .int 0, .int 0])), (q2, .inl (cA 0, 40, .inl (fun _ => 0))), (q3, .inl (cA 0, 40, .inl (fun _ => 0))), (q4, .inr (2, [.ref q1, .ref q5, .int 20, .int 0, .int 0])), (q5, .inl (cA 0, 20, .inl (fun _ => 0))), (q6, .inr (3, [.ref q7, .ref q8, .ref q9, .ref q10])), (q7, .inl (cA 0, 21, .inl (upd (fun _ => 0) 20 ((1 : Int32) <<< ((20 : Int32) &&& 31))))), (q8, .inl (cA 0, 21, .inl (upd (fun _ => 0) 20 ((1 : Int32) <<< ((20 : Int32) &&& 31))))), (q9, .inl (cA 0, 21, .inl (fun _ => 0))), (q10, .inl (cA 0, 21, .inl (fun _ => 0))), (q11, .inr (4, [.ref q6, .ref q4, .int 0, .int 0, .int 0])), (q12, .inl (cA 0, 8, .inl (fun _ => 0)))]) rfl rfl rfl rfl ?_
  refine K_putF (q0 := 0) (j := 4) d_X_init_65 rfl rfl in_0 ty_X tyok_X nok_X (by decide) ts_247 rfl rfl rfl (tyok_X 4 (by decide)) rfl rfl (Nat.le_of_ble_eq_true rfl) ?_
  refine K_eq (ws' := [(h0, .inr (0, [.ref q1, .ref q4, .ref q6, .ref q11, .ref q12, .int 0, .int 0, .int 0, .int 0])), (q1, .inr (1, [.ref q2, .ref q3, .int 0, .int 0])), (q2, .inl (cA 0, 40, .inl (fun _ => 0))), (q3, .inl (cA 0, 40, .inl (fun _ => 0))), (q4, .inr (2, [.ref q1, .ref q5, .int 20, .int 0, .int 0])), (q5, .inl (cA 0, 20, .inl (fun _ => 0))), (q6, .inr (3, [.ref q7, .ref q8, .ref q9, .ref q10])), (q7, .inl (cA 0, 21, .inl (upd (fun _ => 0) 20 ((1 : Int32) <<< ((20 : Int32) &&& 31))))), (q8, .inl (cA 0, 21, .inl (upd (fun _ => 0) 20 ((1 : Int32) <<< ((20 : Int32) &&& 31))))), (q9, .inl (cA 0, 21, .inl (fun _ => 0))), (q10, .inl (cA 0, 21, .inl (fun _ => 0))), (q11, .inr (4, [.ref q6, .ref q4, .int 0, .int 0, .int 0])), (q12, .inl (cA 0, 8, .inl (fun _ => 0)))]) rfl rfl rfl rfl ?_
  refine K_aload_n d_X_init_68 rfl ?_
  refine K_iconst (v := 0) d_X_init_69 (by decide) ?_
  refine K_put (q0 := 0) (j := 5) d_X_init_70 rfl rfl in_0 ty_X tyok_X nok_X (by decide) ts_0 rfl (tyok_X 5 (by decide)) rfl rfl (Nat.le_of_ble_eq_true rfl) ?_
  refine K_eq (ws' := [(h0, .inr (0, [.ref q1, .ref q4, .ref q6, .ref q11, .ref q12, .int 0, .int 0, .int 0, .int 0])), (q1, .inr (1, [.ref q2, .ref q3, .int 0, .int 0])), (q2, .inl (cA 0, 40, .inl (fun _ => 0))), (q3, .inl (cA 0, 40, .inl (fun _ => 0))), (q4, .inr (2, [.ref q1, .ref q5, .int 20, .int 0, .int 0])), (q5, .inl (cA 0, 20, .inl (fun _ => 0))), (q6, .inr (3, [.ref q7, .ref q8, .ref q9, .ref q10])), (q7, .inl (cA 0, 21, .inl (upd (fun _ => 0) 20 ((1 : Int32) <<< ((20 : Int32) &&& 31))))), (q8, .inl (cA 0, 21, .inl (upd (fun _ => 0) 20 ((1 : Int32) <<< ((20 : Int32) &&& 31))))), (q9, .inl (cA 0, 21, .inl (fun _ => 0))), (q10, .inl (cA 0, 21, .inl (fun _ => 0))), (q11, .inr (4, [.ref q6, .ref q4, .int 0, .int 0, .int 0])), (q12, .inl (cA 0, 8, .inl (fun _ => 0)))]) rfl rfl rfl rfl ?_
  refine K_aload_n d_X_init_73 rfl ?_
  refine K_iconst (v := 0) d_X_init_74 (by decide) ?_
  refine K_put (q0 := 0) (j := 6) d_X_init_75 rfl rfl in_0 ty_X tyok_X nok_X (by decide) ts_29 rfl (tyok_X 6 (by decide)) rfl rfl (Nat.le_of_ble_eq_true rfl) ?_
  refine K_eq (ws' := [(h0, .inr (0, [.ref q1, .ref q4, .ref q6, .ref q11, .ref q12, .int 0, .int 0, .int 0, .int 0])), (q1, .inr (1, [.ref q2, .ref q3, .int 0, .int 0])), (q2, .inl (cA 0, 40, .inl (fun _ => 0))), (q3, .inl (cA 0, 40, .inl (fun _ => 0))), (q4, .inr (2, [.ref q1, .ref q5, .int 20, .int 0, .int 0])), (q5, .inl (cA 0, 20, .inl (fun _ => 0))), (q6, .inr (3, [.ref q7, .ref q8, .ref q9, .ref q10])), (q7, .inl (cA 0, 21, .inl (upd (fun _ => 0) 20 ((1 : Int32) <<< ((20 : Int32) &&& 31))))), (q8, .inl (cA 0, 21, .inl (upd (fun _ => 0) 20 ((1 : Int32) <<< ((20 : Int32) &&& 31))))), (q9, .inl (cA 0, 21, .inl (fun _ => 0))), (q10, .inl (cA 0, 21, .inl (fun _ => 0))), (q11, .inr (4, [.ref q6, .ref q4, .int 0, .int 0, .int 0])), (q12, .inl (cA 0, 8, .inl (fun _ => 0)))]) rfl rfl rfl rfl ?_
  refine K_aload_n d_X_init_78 rfl ?_
  refine K_iconst (v := 0) d_X_init_79 (by decide) ?_
  refine K_put (q0 := 0) (j := 7) d_X_init_80 rfl rfl in_0 ty_X tyok_X nok_X (by decide) ts_200 rfl (tyok_X 7 (by decide)) rfl rfl (Nat.le_of_ble_eq_true rfl) ?_
  refine K_eq (ws' := [(h0, .inr (0, [.ref q1, .ref q4, .ref q6, .ref q11, .ref q12, .int 0, .int 0, .int 0, .int 0])), (q1, .inr (1, [.ref q2, .ref q3, .int 0, .int 0])), (q2, .inl (cA 0, 40, .inl (fun _ => 0))), (q3, .inl (cA 0, 40, .inl (fun _ => 0))), (q4, .inr (2, [.ref q1, .ref q5, .int 20, .int 0, .int 0])), (q5, .inl (cA 0, 20, .inl (fun _ => 0))), (q6, .inr (3, [.ref q7, .ref q8, .ref q9, .ref q10])), (q7, .inl (cA 0, 21, .inl (upd (fun _ => 0) 20 ((1 : Int32) <<< ((20 : Int32) &&& 31))))), (q8, .inl (cA 0, 21, .inl (upd (fun _ => 0) 20 ((1 : Int32) <<< ((20 : Int32) &&& 31))))), (q9, .inl (cA 0, 21, .inl (fun _ => 0))), (q10, .inl (cA 0, 21, .inl (fun _ => 0))), (q11, .inr (4, [.ref q6, .ref q4, .int 0, .int 0, .int 0])), (q12, .inl (cA 0, 8, .inl (fun _ => 0)))]) rfl rfl rfl rfl ?_
  refine K_aload_n d_X_init_83 rfl ?_
  refine K_iconst (v := 0) d_X_init_84 (by decide) ?_
  refine K_put (q0 := 0) (j := 8) d_X_init_85 rfl rfl in_0 ty_X tyok_X nok_X (by decide) ts_28 rfl (tyok_X 8 (by decide)) (by decide) (by decide) (Nat.le_of_ble_eq_true rfl) ?_
  refine K_eq (ws' := [(h0, .inr (0, [.ref q1, .ref q4, .ref q6, .ref q11, .ref q12, .int 0, .int 0, .int 0, .int 0])), (q1, .inr (1, [.ref q2, .ref q3, .int 0, .int 0])), (q2, .inl (cA 0, 40, .inl (fun _ => 0))), (q3, .inl (cA 0, 40, .inl (fun _ => 0))), (q4, .inr (2, [.ref q1, .ref q5, .int 20, .int 0, .int 0])), (q5, .inl (cA 0, 20, .inl (fun _ => 0))), (q6, .inr (3, [.ref q7, .ref q8, .ref q9, .ref q10])), (q7, .inl (cA 0, 21, .inl (upd (fun _ => 0) 20 ((1 : Int32) <<< ((20 : Int32) &&& 31))))), (q8, .inl (cA 0, 21, .inl (upd (fun _ => 0) 20 ((1 : Int32) <<< ((20 : Int32) &&& 31))))), (q9, .inl (cA 0, 21, .inl (fun _ => 0))), (q10, .inl (cA 0, 21, .inl (fun _ => 0))), (q11, .inr (4, [.ref q6, .ref q4, .int 0, .int 0, .int 0])), (q12, .inl (cA 0, 8, .inl (fun _ => 0)))]) rfl rfl rfl rfl ?_
  exact K_vret d_X_init_88 rfl ⟨_, _, _, _, _, _, _, _, _, _, _, _, rfl⟩
set_option maxRecDepth 100000 in
set_option maxHeartbeats 4000000 in
theorem kl_M_init (l : Launch) (D : va_G) (cA : Nat → ClassId) (h0 q1 q2 q3 q4 q5 q6 q7 q8 q9 q10 q11 q12 q13 q14 : Nat) : ∀ (d k : Nat) (f : Nat → Int32), k + d = 420 → (∀ j, j < k → f j = 3) → KW l vwCl NsG TsG "ClassifySortModel" "<init>" prog_7_method_1_code 2 none { frames := 1, cells := 14, slots := 1343, locals := 20 } D cA (fun _ _ => True) (kZ vwCl D cA (fun w => ∃ (q1 q2 q3 q4 q5 q6 q7 q8 q9 q10 q11 q12 q13 q14 : Nat) (f : Nat → Int32), (∀ j, j < 420 → f j = 3) ∧ w = [(h0, .inr (5, [.int 0, .int 0, .int 0, .int 0, .int 20, .int 0, .int 0, .ref q1, .ref q2, .ref q3, .ref q4, .ref q5, .ref q6, .ref q7, .ref q8, .ref q9, .ref q10, .ref q11, .ref q12, .int 0, .ref q13, .ref q14, .int 0])), (q1, .inl (cA 0, 40, .inl (fun _ => 0))), (q2, .inl (cA 0, 40, .inl (fun _ => 0))), (q3, .inl (cA 0, 40, .inl (fun _ => 0))), (q4, .inl (cA 1, 40, .inl (fun _ => 0))), (q5, .inl (cA 1, 160, .inl (fun _ => 0))), (q6, .inl (cA 0, 420, .inl f)), (q7, .inl (cA 0, 420, .inl (fun _ => 0))), (q8, .inl (cA 1, 20, .inl (fun _ => 0))), (q9, .inl (cA 1, 20, .inl (fun _ => 0))), (q10, .inl (cA 1, 21, .inl (fun _ => 0))), (q11, .inl (cA 0, 21, .inl (fun _ => 0))), (q12, .inl (cA 0, 40, .inl (fun _ => 0))), (q13, .inl (cA 1, 40, .inl (fun _ => 0))), (q14, .inl (cA 1, 21, .inl (fun _ => 0)))]) 14 1343) 127 [some (.ref h0), some (.int (nI k))] [] [(h0, .inr (5, [.int 0, .int 0, .int 0, .int 0, .int 20, .int 0, .int 0, .ref q1, .ref q2, .ref q3, .ref q4, .ref q5, .ref q6, .ref q7, .ref q8, .ref q9, .ref q10, .ref q11, .ref q12, .int 0, .ref q13, .ref q14, .int 0])), (q1, .inl (cA 0, 40, .inl (fun _ => 0))), (q2, .inl (cA 0, 40, .inl (fun _ => 0))), (q3, .inl (cA 0, 40, .inl (fun _ => 0))), (q4, .inl (cA 1, 40, .inl (fun _ => 0))), (q5, .inl (cA 1, 160, .inl (fun _ => 0))), (q6, .inl (cA 0, 420, .inl f)), (q7, .inl (cA 0, 420, .inl (fun _ => 0))), (q8, .inl (cA 1, 20, .inl (fun _ => 0))), (q9, .inl (cA 1, 20, .inl (fun _ => 0))), (q10, .inl (cA 1, 21, .inl (fun _ => 0))), (q11, .inl (cA 0, 21, .inl (fun _ => 0))), (q12, .inl (cA 0, 40, .inl (fun _ => 0))), (q13, .inl (cA 1, 40, .inl (fun _ => 0))), (q14, .inl (cA 1, 21, .inl (fun _ => 0)))] 14 1343 := by
  intro d
  induction d with
  | zero =>
    intro k f hk hf
    have hk : k = 420 := by omega
    subst hk
    refine K_iload_n d_M_init_127 rfl ?_
    refine K_sipush (v := 420) d_M_init_128 (by decide) ?_
    refine K_icmp_ge (tgt := 147) d_M_init_131 (by decide) (fun c => ?_) (fun c => absurd (by decide) c)
    exact K_vret d_M_init_147 rfl ⟨_, _, _, _, _, _, _, _, _, _, _, _, _, _, _, hf, rfl⟩
  | succ d ih =>
    intro k f hk hf
    refine K_iload_n d_M_init_127 rfl ?_
    refine K_sipush (v := 420) d_M_init_128 (by decide) ?_
    refine K_icmp_ge (tgt := 147) d_M_init_131 (by decide) (fun c => absurd c (show ¬ nI 420 ≤ nI k by rw [nI_leI (by decide) (by omega)]; omega)) (fun c => ?_)
    refine K_aload_n d_M_init_134 rfl ?_
    refine K_get (q0 := 0) (j := 12) (v := .ref q6) d_M_init_135 rfl rfl in_5 (by decide) ts_282 rfl ?_
    refine K_iload_n d_M_init_138 rfl ?_
    refine K_iconst (v := 3) d_M_init_139 (by decide) ?_
    refine K_iast (q0 := 6) d_M_init_140 rfl (vp_in_nI (by omega) (by decide)) ?_
    refine K_iinc (v := nI (k + 1)) d_M_init_141 rfl (nI_1 k) (by decide) ?_
    refine K_goto (tgt := 127) d_M_init_144 (by decide) ?_
    refine ih (k + 1) (upd f (nI k).toNatClampNeg 3) (by omega) (fun j hj => ?_)
    rw [nI_clamp (by omega)]
    unfold upd
    split
    · rfl
    · exact hf j (by omega)
set_option maxRecDepth 100000 in
set_option maxHeartbeats 4000000 in
theorem c_M_init (l : Launch) (D : va_G) (cA : Nat → ClassId) (h0 : Nat) : KMet l vwCl NsG (.code y_M_init prog_7_method_1_code 2 none :: TsG) y_M_init { frames := 1, cells := 14, slots := 1343, locals := 20 } D cA [.ref h0] [(h0, .inr (5, [.int 0, .int 0, .int 0, .int 0, .int 0, .int 0, .int 0, .null, .null, .null, .null, .null, .null, .null, .null, .null, .null, .null, .null, .int 0, .null, .null, .int 0]))] (fun w => ∃ (q1 q2 q3 q4 q5 q6 q7 q8 q9 q10 q11 q12 q13 q14 : Nat) (f : Nat → Int32), (∀ j, j < 420 → f j = 3) ∧ w = [(h0, .inr (5, [.int 0, .int 0, .int 0, .int 0, .int 20, .int 0, .int 0, .ref q1, .ref q2, .ref q3, .ref q4, .ref q5, .ref q6, .ref q7, .ref q8, .ref q9, .ref q10, .ref q11, .ref q12, .int 0, .ref q13, .ref q14, .int 0])), (q1, .inl (cA 0, 40, .inl (fun _ => 0))), (q2, .inl (cA 0, 40, .inl (fun _ => 0))), (q3, .inl (cA 0, 40, .inl (fun _ => 0))), (q4, .inl (cA 1, 40, .inl (fun _ => 0))), (q5, .inl (cA 1, 160, .inl (fun _ => 0))), (q6, .inl (cA 0, 420, .inl f)), (q7, .inl (cA 0, 420, .inl (fun _ => 0))), (q8, .inl (cA 1, 20, .inl (fun _ => 0))), (q9, .inl (cA 1, 20, .inl (fun _ => 0))), (q10, .inl (cA 1, 21, .inl (fun _ => 0))), (q11, .inl (cA 0, 21, .inl (fun _ => 0))), (q12, .inl (cA 0, 40, .inl (fun _ => 0))), (q13, .inl (cA 1, 40, .inl (fun _ => 0))), (q14, .inl (cA 1, 21, .inl (fun _ => 0)))]) 14 1343 := by
  refine K_enter (by decide +kernel) rfl rfl (Nat.le_of_ble_eq_true rfl) ?_
  refine K_eq (ls' := [some (.ref h0), none]) rfl rfl rfl rfl ?_
  refine K_aload_n d_M_init_0 rfl ?_
  refine K_objInit d_M_init_1 ts_412 ts_386 ts_387 (by decide) (Nat.le_of_ble_eq_true rfl) ?_
  refine K_aload_n d_M_init_4 rfl ?_
  refine K_bipush (v := 20) d_M_init_5 (by decide) ?_
  refine K_put (q0 := 0) (j := 4) d_M_init_7 rfl rfl in_5 ty_M tyok_M nok_M (by decide) ts_326 rfl (tyok_M 4 (by decide)) rfl rfl (Nat.le_of_ble_eq_true rfl) ?_
  refine K_eq (ws' := [(h0, .inr (5, [.int 0, .int 0, .int 0, .int 0, .int 20, .int 0, .int 0, .null, .null, .null, .null, .null, .null, .null, .null, .null, .null, .null, .null, .int 0, .null, .null, .int 0]))]) rfl rfl rfl rfl ?_
  refine K_aload_n d_M_init_10 rfl ?_
  refine K_bipush (v := 40) d_M_init_11 (by decide) ?_
  refine K_newI (N := 40) d_M_init_13 ts_388 (by decide) (by decide) (by decide) (by decide) (by decide) (fun q1 => ?_)
  refine K_eq (ws' := [(h0, .inr (5, [.int 0, .int 0, .int 0, .int 0, .int 20, .int 0, .int 0, .null, .null, .null, .null, .null, .null, .null, .null, .null, .null, .null, .null, .int 0, .null, .null, .int 0])), (q1, .inl (cA 0, 40, .inl (fun _ => 0)))]) rfl rfl rfl rfl ?_
  refine K_putF (q0 := 0) (j := 7) d_M_init_15 rfl rfl in_5 ty_M tyok_M nok_M (by decide) ts_274 rfl rfl rfl (tyok_M 7 (by decide)) rfl rfl (Nat.le_of_ble_eq_true rfl) ?_
  refine K_eq (ws' := [(h0, .inr (5, [.int 0, .int 0, .int 0, .int 0, .int 20, .int 0, .int 0, .ref q1, .null, .null, .null, .null, .null, .null, .null, .null, .null, .null, .null, .int 0, .null, .null, .int 0])), (q1, .inl (cA 0, 40, .inl (fun _ => 0)))]) rfl rfl rfl rfl ?_
  refine K_aload_n d_M_init_18 rfl ?_
  refine K_bipush (v := 40) d_M_init_19 (by decide) ?_
  refine K_newI (N := 40) d_M_init_21 ts_388 (by decide) (by decide) (by decide) (by decide) (by decide) (fun q2 => ?_)
  refine K_eq (ws' := [(h0, .inr (5, [.int 0, .int 0, .int 0, .int 0, .int 20, .int 0, .int 0, .ref q1, .null, .null, .null, .null, .null, .null, .null, .null, .null, .null, .null, .int 0, .null, .null, .int 0])), (q1, .inl (cA 0, 40, .inl (fun _ => 0))), (q2, .inl (cA 0, 40, .inl (fun _ => 0)))]) rfl rfl rfl rfl ?_
  refine K_putF (q0 := 0) (j := 8) d_M_init_23 rfl rfl in_5 ty_M tyok_M nok_M (by decide) ts_275 rfl rfl rfl (tyok_M 8 (by decide)) rfl rfl (Nat.le_of_ble_eq_true rfl) ?_
  refine K_eq (ws' := [(h0, .inr (5, [.int 0, .int 0, .int 0, .int 0, .int 20, .int 0, .int 0, .ref q1, .ref q2, .null, .null, .null, .null, .null, .null, .null, .null, .null, .null, .int 0, .null, .null, .int 0])), (q1, .inl (cA 0, 40, .inl (fun _ => 0))), (q2, .inl (cA 0, 40, .inl (fun _ => 0)))]) rfl rfl rfl rfl ?_
  refine K_aload_n d_M_init_26 rfl ?_
  refine K_bipush (v := 40) d_M_init_27 (by decide) ?_
  refine K_newI (N := 40) d_M_init_29 ts_388 (by decide) (by decide) (by decide) (by decide) (by decide) (fun q3 => ?_)
  refine K_eq (ws' := [(h0, .inr (5, [.int 0, .int 0, .int 0, .int 0, .int 20, .int 0, .int 0, .ref q1, .ref q2, .null, .null, .null, .null, .null, .null, .null, .null, .null, .null, .int 0, .null, .null, .int 0])), (q1, .inl (cA 0, 40, .inl (fun _ => 0))), (q2, .inl (cA 0, 40, .inl (fun _ => 0))), (q3, .inl (cA 0, 40, .inl (fun _ => 0)))]) rfl rfl rfl rfl ?_
  refine K_putF (q0 := 0) (j := 9) d_M_init_31 rfl rfl in_5 ty_M tyok_M nok_M (by decide) ts_276 rfl rfl rfl (tyok_M 9 (by decide)) rfl rfl (Nat.le_of_ble_eq_true rfl) ?_
  refine K_eq (ws' := [(h0, .inr (5, [.int 0, .int 0, .int 0, .int 0, .int 20, .int 0, .int 0, .ref q1, .ref q2, .ref q3, .null, .null, .null, .null, .null, .null, .null, .null, .null, .int 0, .null, .null, .int 0])), (q1, .inl (cA 0, 40, .inl (fun _ => 0))), (q2, .inl (cA 0, 40, .inl (fun _ => 0))), (q3, .inl (cA 0, 40, .inl (fun _ => 0)))]) rfl rfl rfl rfl ?_
  refine K_aload_n d_M_init_34 rfl ?_
  refine K_bipush (v := 40) d_M_init_35 (by decide) ?_
  refine K_newZ (N := 40) d_M_init_37 ts_413 (by decide) (by decide) (by decide) (by decide) (by decide) (fun q4 => ?_)
  refine K_eq (ws' := [(h0, .inr (5, [.int 0, .int 0, .int 0, .int 0, .int 20, .int 0, .int 0, .ref q1, .ref q2, .ref q3, .null, .null, .null, .null, .null, .null, .null, .null, .null, .int 0, .null, .null, .int 0])), (q1, .inl (cA 0, 40, .inl (fun _ => 0))), (q2, .inl (cA 0, 40, .inl (fun _ => 0))), (q3, .inl (cA 0, 40, .inl (fun _ => 0))), (q4, .inl (cA 1, 40, .inl (fun _ => 0)))]) rfl rfl rfl rfl ?_
  refine K_putF (q0 := 0) (j := 10) d_M_init_39 rfl rfl in_5 ty_M tyok_M nok_M (by decide) ts_273 rfl rfl rfl (tyok_M 10 (by decide)) rfl rfl (Nat.le_of_ble_eq_true rfl) ?_
  refine K_eq (ws' := [(h0, .inr (5, [.int 0, .int 0, .int 0, .int 0, .int 20, .int 0, .int 0, .ref q1, .ref q2, .ref q3, .ref q4, .null, .null, .null, .null, .null, .null, .null, .null, .int 0, .null, .null, .int 0])), (q1, .inl (cA 0, 40, .inl (fun _ => 0))), (q2, .inl (cA 0, 40, .inl (fun _ => 0))), (q3, .inl (cA 0, 40, .inl (fun _ => 0))), (q4, .inl (cA 1, 40, .inl (fun _ => 0)))]) rfl rfl rfl rfl ?_
  refine K_aload_n d_M_init_42 rfl ?_
  refine K_sipush (v := 160) d_M_init_43 (by decide) ?_
  refine K_newZ (N := 160) d_M_init_46 ts_413 (by decide) (by decide) (by decide) (by decide) (by decide) (fun q5 => ?_)
  refine K_eq (ws' := [(h0, .inr (5, [.int 0, .int 0, .int 0, .int 0, .int 20, .int 0, .int 0, .ref q1, .ref q2, .ref q3, .ref q4, .null, .null, .null, .null, .null, .null, .null, .null, .int 0, .null, .null, .int 0])), (q1, .inl (cA 0, 40, .inl (fun _ => 0))), (q2, .inl (cA 0, 40, .inl (fun _ => 0))), (q3, .inl (cA 0, 40, .inl (fun _ => 0))), (q4, .inl (cA 1, 40, .inl (fun _ => 0))), (q5, .inl (cA 1, 160, .inl (fun _ => 0)))]) rfl rfl rfl rfl ?_
  refine K_putF (q0 := 0) (j := 11) d_M_init_48 rfl rfl in_5 ty_M tyok_M nok_M (by decide) ts_375 rfl rfl rfl (tyok_M 11 (by decide)) rfl rfl (Nat.le_of_ble_eq_true rfl) ?_
  refine K_eq (ws' := [(h0, .inr (5, [.int 0, .int 0, .int 0, .int 0, .int 20, .int 0, .int 0, .ref q1, .ref q2, .ref q3, .ref q4, .ref q5, .null, .null, .null, .null, .null, .null, .null, .int 0, .null, .null, .int 0])), (q1, .inl (cA 0, 40, .inl (fun _ => 0))), (q2, .inl (cA 0, 40, .inl (fun _ => 0))), (q3, .inl (cA 0, 40, .inl (fun _ => 0))), (q4, .inl (cA 1, 40, .inl (fun _ => 0))), (q5, .inl (cA 1, 160, .inl (fun _ => 0)))]) rfl rfl rfl rfl ?_
  refine K_aload_n d_M_init_51 rfl ?_
  refine K_sipush (v := 420) d_M_init_52 (by decide) ?_
  refine K_newI (N := 420) d_M_init_55 ts_388 (by decide) (by decide) (by decide) (by decide) (by decide) (fun q6 => ?_)
  refine K_eq (ws' := [(h0, .inr (5, [.int 0, .int 0, .int 0, .int 0, .int 20, .int 0, .int 0, .ref q1, .ref q2, .ref q3, .ref q4, .ref q5, .null, .null, .null, .null, .null, .null, .null, .int 0, .null, .null, .int 0])), (q1, .inl (cA 0, 40, .inl (fun _ => 0))), (q2, .inl (cA 0, 40, .inl (fun _ => 0))), (q3, .inl (cA 0, 40, .inl (fun _ => 0))), (q4, .inl (cA 1, 40, .inl (fun _ => 0))), (q5, .inl (cA 1, 160, .inl (fun _ => 0))), (q6, .inl (cA 0, 420, .inl (fun _ => 0)))]) rfl rfl rfl rfl ?_
  refine K_putF (q0 := 0) (j := 12) d_M_init_57 rfl rfl in_5 ty_M tyok_M nok_M (by decide) ts_282 rfl rfl rfl (tyok_M 12 (by decide)) rfl rfl (Nat.le_of_ble_eq_true rfl) ?_
  refine K_eq (ws' := [(h0, .inr (5, [.int 0, .int 0, .int 0, .int 0, .int 20, .int 0, .int 0, .ref q1, .ref q2, .ref q3, .ref q4, .ref q5, .ref q6, .null, .null, .null, .null, .null, .null, .int 0, .null, .null, .int 0])), (q1, .inl (cA 0, 40, .inl (fun _ => 0))), (q2, .inl (cA 0, 40, .inl (fun _ => 0))), (q3, .inl (cA 0, 40, .inl (fun _ => 0))), (q4, .inl (cA 1, 40, .inl (fun _ => 0))), (q5, .inl (cA 1, 160, .inl (fun _ => 0))), (q6, .inl (cA 0, 420, .inl (fun _ => 0)))]) rfl rfl rfl rfl ?_
  refine K_aload_n d_M_init_60 rfl ?_
  refine K_sipush (v := 420) d_M_init_61 (by decide) ?_
  refine K_newI (N := 420) d_M_init_64 ts_388 (by decide) (by decide) (by decide) (by decide) (by decide) (fun q7 => ?_)
  refine K_eq (ws' := [(h0, .inr (5, [.int 0, .int 0, .int 0, .int 0, .int 20, .int 0, .int 0, .ref q1, .ref q2, .ref q3, .ref q4, .ref q5, .ref q6, .null, .null, .null, .null, .null, .null, .int 0, .null, .null, .int 0])), (q1, .inl (cA 0, 40, .inl (fun _ => 0))), (q2, .inl (cA 0, 40, .inl (fun _ => 0))), (q3, .inl (cA 0, 40, .inl (fun _ => 0))), (q4, .inl (cA 1, 40, .inl (fun _ => 0))), (q5, .inl (cA 1, 160, .inl (fun _ => 0))), (q6, .inl (cA 0, 420, .inl (fun _ => 0))), (q7, .inl (cA 0, 420, .inl (fun _ => 0)))]) rfl rfl rfl rfl ?_
  refine K_putF (q0 := 0) (j := 13) d_M_init_66 rfl rfl in_5 ty_M tyok_M nok_M (by decide) ts_321 rfl rfl rfl (tyok_M 13 (by decide)) rfl rfl (Nat.le_of_ble_eq_true rfl) ?_
  refine K_eq (ws' := [(h0, .inr (5, [.int 0, .int 0, .int 0, .int 0, .int 20, .int 0, .int 0, .ref q1, .ref q2, .ref q3, .ref q4, .ref q5, .ref q6, .ref q7, .null, .null, .null, .null, .null, .int 0, .null, .null, .int 0])), (q1, .inl (cA 0, 40, .inl (fun _ => 0))), (q2, .inl (cA 0, 40, .inl (fun _ => 0))), (q3, .inl (cA 0, 40, .inl (fun _ => 0))), (q4, .inl (cA 1, 40, .inl (fun _ => 0))), (q5, .inl (cA 1, 160, .inl (fun _ => 0))), (q6, .inl (cA 0, 420, .inl (fun _ => 0))), (q7, .inl (cA 0, 420, .inl (fun _ => 0)))]) rfl rfl rfl rfl ?_
  refine K_aload_n d_M_init_69 rfl ?_
  refine K_bipush (v := 20) d_M_init_70 (by decide) ?_
  refine K_newZ (N := 20) d_M_init_72 ts_413 (by decide) (by decide) (by decide) (by decide) (by decide) (fun q8 => ?_)
  refine K_eq (ws' := [(h0, .inr (5, [.int 0, .int 0, .int 0, .int 0, .int 20, .int 0, .int 0, .ref q1, .ref q2, .ref q3, .ref q4, .ref q5, .ref q6, .ref q7, .null, .null, .null, .null, .null, .int 0, .null, .null, .int 0])), (q1, .inl (cA 0, 40, .inl (fun _ => 0))), (q2, .inl (cA 0, 40, .inl (fun _ => 0))), (q3, .inl (cA 0, 40, .inl (fun _ => 0))), (q4, .inl (cA 1, 40, .inl (fun _ => 0))), (q5, .inl (cA 1, 160, .inl (fun _ => 0))), (q6, .inl (cA 0, 420, .inl (fun _ => 0))), (q7, .inl (cA 0, 420, .inl (fun _ => 0))), (q8, .inl (cA 1, 20, .inl (fun _ => 0)))]) rfl rfl rfl rfl ?_
  refine K_putF (q0 := 0) (j := 14) d_M_init_74 rfl rfl in_5 ty_M tyok_M nok_M (by decide) ts_344 rfl rfl rfl (tyok_M 14 (by decide)) rfl rfl (Nat.le_of_ble_eq_true rfl) ?_
  refine K_eq (ws' := [(h0, .inr (5, [.int 0, .int 0, .int 0, .int 0, .int 20, .int 0, .int 0, .ref q1, .ref q2, .ref q3, .ref q4, .ref q5, .ref q6, .ref q7, .ref q8, .null, .null, .null, .null, .int 0, .null, .null, .int 0])), (q1, .inl (cA 0, 40, .inl (fun _ => 0))), (q2, .inl (cA 0, 40, .inl (fun _ => 0))), (q3, .inl (cA 0, 40, .inl (fun _ => 0))), (q4, .inl (cA 1, 40, .inl (fun _ => 0))), (q5, .inl (cA 1, 160, .inl (fun _ => 0))), (q6, .inl (cA 0, 420, .inl (fun _ => 0))), (q7, .inl (cA 0, 420, .inl (fun _ => 0))), (q8, .inl (cA 1, 20, .inl (fun _ => 0)))]) rfl rfl rfl rfl ?_
  refine K_aload_n d_M_init_77 rfl ?_
  refine K_bipush (v := 20) d_M_init_78 (by decide) ?_
  refine K_newZ (N := 20) d_M_init_80 ts_413 (by decide) (by decide) (by decide) (by decide) (by decide) (fun q9 => ?_)
  refine K_eq (ws' := [(h0, .inr (5, [.int 0, .int 0, .int 0, .int 0, .int 20, .int 0, .int 0, .ref q1, .ref q2, .ref q3, .ref q4, .ref q5, .ref q6, .ref q7, .ref q8, .null, .null, .null, .null, .int 0, .null, .null, .int 0])), (q1, .inl (cA 0, 40, .inl (fun _ => 0))), (q2, .inl (cA 0, 40, .inl (fun _ => 0))), (q3, .inl (cA 0, 40, .inl (fun _ => 0))), (q4, .inl (cA 1, 40, .inl (fun _ => 0))), (q5, .inl (cA 1, 160, .inl (fun _ => 0))), (q6, .inl (cA 0, 420, .inl (fun _ => 0))), (q7, .inl (cA 0, 420, .inl (fun _ => 0))), (q8, .inl (cA 1, 20, .inl (fun _ => 0))), (q9, .inl (cA 1, 20, .inl (fun _ => 0)))]) rfl rfl rfl rfl ?_
  refine K_putF (q0 := 0) (j := 15) d_M_init_82 rfl rfl in_5 ty_M tyok_M nok_M (by decide) ts_349 rfl rfl rfl (tyok_M 15 (by decide)) rfl rfl (Nat.le_of_ble_eq_true rfl) ?_
  refine K_eq (ws' := [(h0, .inr (5, [.int 0, .int 0, .int 0, .int 0, .int 20, .int 0, .int 0, .ref q1, .ref q2, .ref q3, .ref q4, .ref q5, .ref q6, .ref q7, .ref q8, .ref q9, .null, .null, .null, .int 0, .null, .null, .int 0])), (q1, .inl (cA 0, 40, .inl (fun _ => 0))), (q2, .inl (cA 0, 40, .inl (fun _ => 0))), (q3, .inl (cA 0, 40, .inl (fun _ => 0))), (q4, .inl (cA 1, 40, .inl (fun _ => 0))), (q5, .inl (cA 1, 160, .inl (fun _ => 0))), (q6, .inl (cA 0, 420, .inl (fun _ => 0))), (q7, .inl (cA 0, 420, .inl (fun _ => 0))), (q8, .inl (cA 1, 20, .inl (fun _ => 0))), (q9, .inl (cA 1, 20, .inl (fun _ => 0)))]) rfl rfl rfl rfl ?_
  refine K_aload_n d_M_init_85 rfl ?_
  refine K_bipush (v := 21) d_M_init_86 (by decide) ?_
  refine K_newZ (N := 21) d_M_init_88 ts_413 (by decide) (by decide) (by decide) (by decide) (by decide) (fun q10 => ?_)
  refine K_eq (ws' := [(h0, .inr (5, [.int 0, .int 0, .int 0, .int 0, .int 20, .int 0, .int 0, .ref q1, .ref q2, .ref q3, .ref q4, .ref q5, .ref q6, .ref q7, .ref q8, .ref q9, .null, .null, .null, .int 0, .null, .null, .int 0])), (q1, .inl (cA 0, 40, .inl (fun _ => 0))), (q2, .inl (cA 0, 40, .inl (fun _ => 0))), (q3, .inl (cA 0, 40, .inl (fun _ => 0))), (q4, .inl (cA 1, 40, .inl (fun _ => 0))), (q5, .inl (cA 1, 160, .inl (fun _ => 0))), (q6, .inl (cA 0, 420, .inl (fun _ => 0))), (q7, .inl (cA 0, 420, .inl (fun _ => 0))), (q8, .inl (cA 1, 20, .inl (fun _ => 0))), (q9, .inl (cA 1, 20, .inl (fun _ => 0))), (q10, .inl (cA 1, 21, .inl (fun _ => 0)))]) rfl rfl rfl rfl ?_
  refine K_putF (q0 := 0) (j := 16) d_M_init_90 rfl rfl in_5 ty_M tyok_M nok_M (by decide) ts_331 rfl rfl rfl (tyok_M 16 (by decide)) rfl rfl (Nat.le_of_ble_eq_true rfl) ?_
  refine K_eq (ws' := [(h0, .inr (5, [.int 0, .int 0, .int 0, .int 0, .int 20, .int 0, .int 0, .ref q1, .ref q2, .ref q3, .ref q4, .ref q5, .ref q6, .ref q7, .ref q8, .ref q9, .ref q10, .null, .null, .int 0, .null, .null, .int 0])), (q1, .inl (cA 0, 40, .inl (fun _ => 0))), (q2, .inl (cA 0, 40, .inl (fun _ => 0))), (q3, .inl (cA 0, 40, .inl (fun _ => 0))), (q4, .inl (cA 1, 40, .inl (fun _ => 0))), (q5, .inl (cA 1, 160, .inl (fun _ => 0))), (q6, .inl (cA 0, 420, .inl (fun _ => 0))), (q7, .inl (cA 0, 420, .inl (fun _ => 0))), (q8, .inl (cA 1, 20, .inl (fun _ => 0))), (q9, .inl (cA 1, 20, .inl (fun _ => 0))), (q10, .inl (cA 1, 21, .inl (fun _ => 0)))]) rfl rfl rfl rfl ?_
  refine K_aload_n d_M_init_93 rfl ?_
  refine K_bipush (v := 21) d_M_init_94 (by decide) ?_
  refine K_newI (N := 21) d_M_init_96 ts_388 (by decide) (by decide) (by decide) (by decide) (by decide) (fun q11 => ?_)
  refine K_eq (ws' := [(h0, .inr (5, [.int 0, .int 0, .int 0, .int 0, .int 20, .int 0, .int 0, .ref q1, .ref q2, .ref q3, .ref q4, .ref q5, .ref q6, .ref q7, .ref q8, .ref q9, .ref q10, .null, .null, .int 0, .null, .null, .int 0])), (q1, .inl (cA 0, 40, .inl (fun _ => 0))), (q2, .inl (cA 0, 40, .inl (fun _ => 0))), (q3, .inl (cA 0, 40, .inl (fun _ => 0))), (q4, .inl (cA 1, 40, .inl (fun _ => 0))), (q5, .inl (cA 1, 160, .inl (fun _ => 0))), (q6, .inl (cA 0, 420, .inl (fun _ => 0))), (q7, .inl (cA 0, 420, .inl (fun _ => 0))), (q8, .inl (cA 1, 20, .inl (fun _ => 0))), (q9, .inl (cA 1, 20, .inl (fun _ => 0))), (q10, .inl (cA 1, 21, .inl (fun _ => 0))), (q11, .inl (cA 0, 21, .inl (fun _ => 0)))]) rfl rfl rfl rfl ?_
  refine K_putF (q0 := 0) (j := 17) d_M_init_98 rfl rfl in_5 ty_M tyok_M nok_M (by decide) ts_333 rfl rfl rfl (tyok_M 17 (by decide)) rfl rfl (Nat.le_of_ble_eq_true rfl) ?_
  refine K_eq (ws' := [(h0, .inr (5, [.int 0, .int 0, .int 0, .int 0, .int 20, .int 0, .int 0, .ref q1, .ref q2, .ref q3, .ref q4, .ref q5, .ref q6, .ref q7, .ref q8, .ref q9, .ref q10, .ref q11, .null, .int 0, .null, .null, .int 0])), (q1, .inl (cA 0, 40, .inl (fun _ => 0))), (q2, .inl (cA 0, 40, .inl (fun _ => 0))), (q3, .inl (cA 0, 40, .inl (fun _ => 0))), (q4, .inl (cA 1, 40, .inl (fun _ => 0))), (q5, .inl (cA 1, 160, .inl (fun _ => 0))), (q6, .inl (cA 0, 420, .inl (fun _ => 0))), (q7, .inl (cA 0, 420, .inl (fun _ => 0))), (q8, .inl (cA 1, 20, .inl (fun _ => 0))), (q9, .inl (cA 1, 20, .inl (fun _ => 0))), (q10, .inl (cA 1, 21, .inl (fun _ => 0))), (q11, .inl (cA 0, 21, .inl (fun _ => 0)))]) rfl rfl rfl rfl ?_
  refine K_aload_n d_M_init_101 rfl ?_
  refine K_bipush (v := 40) d_M_init_102 (by decide) ?_
  refine K_newI (N := 40) d_M_init_104 ts_388 (by decide) (by decide) (by decide) (by decide) (by decide) (fun q12 => ?_)
  refine K_eq (ws' := [(h0, .inr (5, [.int 0, .int 0, .int 0, .int 0, .int 20, .int 0, .int 0, .ref q1, .ref q2, .ref q3, .ref q4, .ref q5, .ref q6, .ref q7, .ref q8, .ref q9, .ref q10, .ref q11, .null, .int 0, .null, .null, .int 0])), (q1, .inl (cA 0, 40, .inl (fun _ => 0))), (q2, .inl (cA 0, 40, .inl (fun _ => 0))), (q3, .inl (cA 0, 40, .inl (fun _ => 0))), (q4, .inl (cA 1, 40, .inl (fun _ => 0))), (q5, .inl (cA 1, 160, .inl (fun _ => 0))), (q6, .inl (cA 0, 420, .inl (fun _ => 0))), (q7, .inl (cA 0, 420, .inl (fun _ => 0))), (q8, .inl (cA 1, 20, .inl (fun _ => 0))), (q9, .inl (cA 1, 20, .inl (fun _ => 0))), (q10, .inl (cA 1, 21, .inl (fun _ => 0))), (q11, .inl (cA 0, 21, .inl (fun _ => 0))), (q12, .inl (cA 0, 40, .inl (fun _ => 0)))]) rfl rfl rfl rfl ?_
  refine K_putF (q0 := 0) (j := 18) d_M_init_106 rfl rfl in_5 ty_M tyok_M nok_M (by decide) ts_334 rfl rfl rfl (tyok_M 18 (by decide)) rfl rfl (Nat.le_of_ble_eq_true rfl) ?_
  refine K_eq (ws' := [(h0, .inr (5, [.int 0, .int 0, .int 0, .int 0, .int 20, .int 0, .int 0, .ref q1, .ref q2, .ref q3, .ref q4, .ref q5, .ref q6, .ref q7, .ref q8, .ref q9, .ref q10, .ref q11, .ref q12, .int 0, .null, .null, .int 0])), (q1, .inl (cA 0, 40, .inl (fun _ => 0))), (q2, .inl (cA 0, 40, .inl (fun _ => 0))), (q3, .inl (cA 0, 40, .inl (fun _ => 0))), (q4, .inl (cA 1, 40, .inl (fun _ => 0))), (q5, .inl (cA 1, 160, .inl (fun _ => 0))), (q6, .inl (cA 0, 420, .inl (fun _ => 0))), (q7, .inl (cA 0, 420, .inl (fun _ => 0))), (q8, .inl (cA 1, 20, .inl (fun _ => 0))), (q9, .inl (cA 1, 20, .inl (fun _ => 0))), (q10, .inl (cA 1, 21, .inl (fun _ => 0))), (q11, .inl (cA 0, 21, .inl (fun _ => 0))), (q12, .inl (cA 0, 40, .inl (fun _ => 0)))]) rfl rfl rfl rfl ?_
  refine K_aload_n d_M_init_109 rfl ?_
  refine K_bipush (v := 40) d_M_init_110 (by decide) ?_
  refine K_newZ (N := 40) d_M_init_112 ts_413 (by decide) (by decide) (by decide) (by decide) (by decide) (fun q13 => ?_)
  refine K_eq (ws' := [(h0, .inr (5, [.int 0, .int 0, .int 0, .int 0, .int 20, .int 0, .int 0, .ref q1, .ref q2, .ref q3, .ref q4, .ref q5, .ref q6, .ref q7, .ref q8, .ref q9, .ref q10, .ref q11, .ref q12, .int 0, .null, .null, .int 0])), (q1, .inl (cA 0, 40, .inl (fun _ => 0))), (q2, .inl (cA 0, 40, .inl (fun _ => 0))), (q3, .inl (cA 0, 40, .inl (fun _ => 0))), (q4, .inl (cA 1, 40, .inl (fun _ => 0))), (q5, .inl (cA 1, 160, .inl (fun _ => 0))), (q6, .inl (cA 0, 420, .inl (fun _ => 0))), (q7, .inl (cA 0, 420, .inl (fun _ => 0))), (q8, .inl (cA 1, 20, .inl (fun _ => 0))), (q9, .inl (cA 1, 20, .inl (fun _ => 0))), (q10, .inl (cA 1, 21, .inl (fun _ => 0))), (q11, .inl (cA 0, 21, .inl (fun _ => 0))), (q12, .inl (cA 0, 40, .inl (fun _ => 0))), (q13, .inl (cA 1, 40, .inl (fun _ => 0)))]) rfl rfl rfl rfl ?_
  refine K_putF (q0 := 0) (j := 20) d_M_init_114 rfl rfl in_5 ty_M tyok_M nok_M (by decide) ts_384 rfl rfl rfl (tyok_M 20 (by decide)) rfl rfl (Nat.le_of_ble_eq_true rfl) ?_
  refine K_eq (ws' := [(h0, .inr (5, [.int 0, .int 0, .int 0, .int 0, .int 20, .int 0, .int 0, .ref q1, .ref q2, .ref q3, .ref q4, .ref q5, .ref q6, .ref q7, .ref q8, .ref q9, .ref q10, .ref q11, .ref q12, .int 0, .ref q13, .null, .int 0])), (q1, .inl (cA 0, 40, .inl (fun _ => 0))), (q2, .inl (cA 0, 40, .inl (fun _ => 0))), (q3, .inl (cA 0, 40, .inl (fun _ => 0))), (q4, .inl (cA 1, 40, .inl (fun _ => 0))), (q5, .inl (cA 1, 160, .inl (fun _ => 0))), (q6, .inl (cA 0, 420, .inl (fun _ => 0))), (q7, .inl (cA 0, 420, .inl (fun _ => 0))), (q8, .inl (cA 1, 20, .inl (fun _ => 0))), (q9, .inl (cA 1, 20, .inl (fun _ => 0))), (q10, .inl (cA 1, 21, .inl (fun _ => 0))), (q11, .inl (cA 0, 21, .inl (fun _ => 0))), (q12, .inl (cA 0, 40, .inl (fun _ => 0))), (q13, .inl (cA 1, 40, .inl (fun _ => 0)))]) rfl rfl rfl rfl ?_
  refine K_aload_n d_M_init_117 rfl ?_
  refine K_bipush (v := 21) d_M_init_118 (by decide) ?_
  refine K_newZ (N := 21) d_M_init_120 ts_413 (by decide) (by decide) (by decide) (by decide) (by decide) (fun q14 => ?_)
  refine K_eq (ws' := [(h0, .inr (5, [.int 0, .int 0, .int 0, .int 0, .int 20, .int 0, .int 0, .ref q1, .ref q2, .ref q3, .ref q4, .ref q5, .ref q6, .ref q7, .ref q8, .ref q9, .ref q10, .ref q11, .ref q12, .int 0, .ref q13, .null, .int 0])), (q1, .inl (cA 0, 40, .inl (fun _ => 0))), (q2, .inl (cA 0, 40, .inl (fun _ => 0))), (q3, .inl (cA 0, 40, .inl (fun _ => 0))), (q4, .inl (cA 1, 40, .inl (fun _ => 0))), (q5, .inl (cA 1, 160, .inl (fun _ => 0))), (q6, .inl (cA 0, 420, .inl (fun _ => 0))), (q7, .inl (cA 0, 420, .inl (fun _ => 0))), (q8, .inl (cA 1, 20, .inl (fun _ => 0))), (q9, .inl (cA 1, 20, .inl (fun _ => 0))), (q10, .inl (cA 1, 21, .inl (fun _ => 0))), (q11, .inl (cA 0, 21, .inl (fun _ => 0))), (q12, .inl (cA 0, 40, .inl (fun _ => 0))), (q13, .inl (cA 1, 40, .inl (fun _ => 0))), (q14, .inl (cA 1, 21, .inl (fun _ => 0)))]) rfl rfl rfl rfl ?_
  refine K_putF (q0 := 0) (j := 21) d_M_init_122 rfl rfl in_5 ty_M tyok_M nok_M (by decide) ts_312 rfl rfl rfl (tyok_M 21 (by decide)) rfl rfl (Nat.le_of_ble_eq_true rfl) ?_
  refine K_eq (ws' := [(h0, .inr (5, [.int 0, .int 0, .int 0, .int 0, .int 20, .int 0, .int 0, .ref q1, .ref q2, .ref q3, .ref q4, .ref q5, .ref q6, .ref q7, .ref q8, .ref q9, .ref q10, .ref q11, .ref q12, .int 0, .ref q13, .ref q14, .int 0])), (q1, .inl (cA 0, 40, .inl (fun _ => 0))), (q2, .inl (cA 0, 40, .inl (fun _ => 0))), (q3, .inl (cA 0, 40, .inl (fun _ => 0))), (q4, .inl (cA 1, 40, .inl (fun _ => 0))), (q5, .inl (cA 1, 160, .inl (fun _ => 0))), (q6, .inl (cA 0, 420, .inl (fun _ => 0))), (q7, .inl (cA 0, 420, .inl (fun _ => 0))), (q8, .inl (cA 1, 20, .inl (fun _ => 0))), (q9, .inl (cA 1, 20, .inl (fun _ => 0))), (q10, .inl (cA 1, 21, .inl (fun _ => 0))), (q11, .inl (cA 0, 21, .inl (fun _ => 0))), (q12, .inl (cA 0, 40, .inl (fun _ => 0))), (q13, .inl (cA 1, 40, .inl (fun _ => 0))), (q14, .inl (cA 1, 21, .inl (fun _ => 0)))]) rfl rfl rfl rfl ?_
  refine K_iconst (v := 0) d_M_init_125 (by decide) ?_
  refine K_istore_n d_M_init_126 (by decide) ?_
  exact kl_M_init l D cA h0 q1 q2 q3 q4 q5 q6 q7 q8 q9 q10 q11 q12 q13 q14 420 0 (fun _ => 0) rfl (fun j hj => absurd hj (by omega))

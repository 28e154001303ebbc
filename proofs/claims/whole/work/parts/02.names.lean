def T_X : u_T := fun k => match k with
  | 0 => ("ClassifySort", "axioms", "LClassifySort$Axioms;", true)
  | 1 => ("ClassifySort", "reasoner", "LClassifySort$Reasoner;", true)
  | 2 => ("ClassifySort", "knowledge", "LClassifySort$Knowledge;", true)
  | 3 => ("ClassifySort", "order", "LClassifySort$Order;", true)
  | 4 => ("ClassifySort", "toldClasses", "[I", true)
  | 5 => ("ClassifySort", "classes", "I", false)
  | 6 => ("ClassifySort", "things", "I", false)
  | 7 => ("ClassifySort", "questions", "I", false)
  | _ => ("ClassifySort", "sorted", "Z", false)
def ty_X : Nat → FieldType := fun k => match k with
  | 0 => .object "ClassifySort$Axioms"
  | 1 => .object "ClassifySort$Reasoner"
  | 2 => .object "ClassifySort$Knowledge"
  | 3 => .object "ClassifySort$Order"
  | 4 => .array .int
  | 5 => .int
  | 6 => .int
  | 7 => .int
  | _ => .boolean
theorem nok_X : ∀ a, a < 9 → ∀ b, b < 9 → a ≠ b → (T_X a).2.1 ≠ (T_X b).2.1 := by decide +kernel
theorem tyok_X : ∀ k, k < 9 → parseFieldDescriptor (T_X k).2.2.1 = some (ty_X k) := by decide +kernel
def T_XA : u_T := fun k => match k with
  | 0 => ("ClassifySort$Axioms", "lefts", "[I", true)
  | 1 => ("ClassifySort$Axioms", "rights", "[I", true)
  | 2 => ("ClassifySort$Axioms", "made", "I", false)
  | _ => ("ClassifySort$Axioms", "there", "I", false)
def ty_XA : Nat → FieldType := fun k => match k with
  | 0 => .array .int
  | 1 => .array .int
  | 2 => .int
  | _ => .int
theorem nok_XA : ∀ a, a < 4 → ∀ b, b < 4 → a ≠ b → (T_XA a).2.1 ≠ (T_XA b).2.1 := by decide +kernel
theorem tyok_XA : ∀ k, k < 4 → parseFieldDescriptor (T_XA k).2.2.1 = some (ty_XA k) := by decide +kernel
def T_XR : u_T := fun k => match k with
  | 0 => ("ClassifySort$Reasoner", "axioms", "LClassifySort$Axioms;", true)
  | 1 => ("ClassifySort$Reasoner", "fired", "[I", true)
  | 2 => ("ClassifySort$Reasoner", "limit", "I", false)
  | 3 => ("ClassifySort$Reasoner", "steps", "I", false)
  | _ => ("ClassifySort$Reasoner", "facts", "I", false)
def ty_XR : Nat → FieldType := fun k => match k with
  | 0 => .object "ClassifySort$Axioms"
  | 1 => .array .int
  | 2 => .int
  | 3 => .int
  | _ => .int
theorem nok_XR : ∀ a, a < 5 → ∀ b, b < 5 → a ≠ b → (T_XR a).2.1 ≠ (T_XR b).2.1 := by decide +kernel
theorem tyok_XR : ∀ k, k < 5 → parseFieldDescriptor (T_XR k).2.2.1 = some (ty_XR k) := by decide +kernel
def T_XK : u_T := fun k => match k with
  | 0 => ("ClassifySort$Knowledge", "above", "[I", true)
  | 1 => ("ClassifySort$Knowledge", "below", "[I", true)
  | 2 => ("ClassifySort$Knowledge", "notAbove", "[I", true)
  | _ => ("ClassifySort$Knowledge", "undecided", "[I", true)
def ty_XK : Nat → FieldType := fun k => match k with
  | 0 => .array .int
  | 1 => .array .int
  | 2 => .array .int
  | _ => .array .int
theorem nok_XK : ∀ a, a < 4 → ∀ b, b < 4 → a ≠ b → (T_XK a).2.1 ≠ (T_XK b).2.1 := by decide +kernel
theorem tyok_XK : ∀ k, k < 4 → parseFieldDescriptor (T_XK k).2.2.1 = some (ty_XK k) := by decide +kernel
def T_XO : u_T := fun k => match k with
  | 0 => ("ClassifySort$Order", "knowledge", "LClassifySort$Knowledge;", true)
  | 1 => ("ClassifySort$Order", "reasoner", "LClassifySort$Reasoner;", true)
  | 2 => ("ClassifySort$Order", "placed", "I", false)
  | 3 => ("ClassifySort$Order", "empties", "I", false)
  | _ => ("ClassifySort$Order", "asked", "I", false)
def ty_XO : Nat → FieldType := fun k => match k with
  | 0 => .object "ClassifySort$Knowledge"
  | 1 => .object "ClassifySort$Reasoner"
  | 2 => .int
  | 3 => .int
  | _ => .int
theorem nok_XO : ∀ a, a < 5 → ∀ b, b < 5 → a ≠ b → (T_XO a).2.1 ≠ (T_XO b).2.1 := by decide +kernel
theorem tyok_XO : ∀ k, k < 5 → parseFieldDescriptor (T_XO k).2.2.1 = some (ty_XO k) := by decide +kernel
def T_M : u_T := fun k => match k with
  | 0 => ("ClassifySortModel", "thrown", "I", false)
  | 1 => ("ClassifySortModel", "classes", "I", false)
  | 2 => ("ClassifySortModel", "things", "I", false)
  | 3 => ("ClassifySortModel", "axioms", "I", false)
  | 4 => ("ClassifySortModel", "fuel", "I", false)
  | 5 => ("ClassifySortModel", "questions", "I", false)
  | 6 => ("ClassifySortModel", "sorted", "Z", false)
  | 7 => ("ClassifySortModel", "left", "[I", true)
  | 8 => ("ClassifySortModel", "other", "[I", true)
  | 9 => ("ClassifySortModel", "right", "[I", true)
  | 10 => ("ClassifySortModel", "there", "[Z", true)
  | 11 => ("ClassifySortModel", "member", "[Z", true)
  | 12 => ("ClassifySortModel", "state", "[I", true)
  | 13 => ("ClassifySortModel", "before", "[I", true)
  | 14 => ("ClassifySortModel", "placed", "[Z", true)
  | 15 => ("ClassifySortModel", "looked", "[Z", true)
  | 16 => ("ClassifySortModel", "fact", "[Z", true)
  | 17 => ("ClassifySortModel", "maker", "[I", true)
  | 18 => ("ClassifySortModel", "fired", "[I", true)
  | 19 => ("ClassifySortModel", "firedCount", "I", false)
  | 20 => ("ClassifySortModel", "needed", "[Z", true)
  | 21 => ("ClassifySortModel", "module", "[Z", true)
  | _ => ("ClassifySortModel", "asked", "I", false)
def ty_M : Nat → FieldType := fun k => match k with
  | 0 => .int
  | 1 => .int
  | 2 => .int
  | 3 => .int
  | 4 => .int
  | 5 => .int
  | 6 => .boolean
  | 7 => .array .int
  | 8 => .array .int
  | 9 => .array .int
  | 10 => .array .boolean
  | 11 => .array .boolean
  | 12 => .array .int
  | 13 => .array .int
  | 14 => .array .boolean
  | 15 => .array .boolean
  | 16 => .array .boolean
  | 17 => .array .int
  | 18 => .array .int
  | 19 => .int
  | 20 => .array .boolean
  | 21 => .array .boolean
  | _ => .int
theorem nok_M : ∀ a, a < 23 → ∀ b, b < 23 → a ≠ b → (T_M a).2.1 ≠ (T_M b).2.1 := by decide +kernel
theorem tyok_M : ∀ k, k < 23 → parseFieldDescriptor (T_M k).2.2.1 = some (ty_M k) := by decide +kernel
abbrev vwCl : List vw_C := [("ClassifySort", T_X, 9), ("ClassifySort$Axioms", T_XA, 4), ("ClassifySort$Reasoner", T_XR, 5), ("ClassifySort$Knowledge", T_XK, 4), ("ClassifySort$Order", T_XO, 5), ("ClassifySortModel", T_M, 23)]
def y_X_class0 : MethodName := ⟨"ClassifySort", "class0", "()I"⟩
theorem dy_X_class0 : y_X_class0.cls ≠ "java/lang/invoke/MethodHandle" ∧ y_X_class0.cls ≠ "java/lang/invoke/VarHandle" ∧ (parseMethodDescriptor y_X_class0.desc).map (fun d => d.parameters.length) = some 0 := by decide +kernel
def y_XK_addClass : MethodName := ⟨"ClassifySort$Knowledge", "addClass", "(I)V"⟩
theorem dy_XK_addClass : y_XK_addClass.cls ≠ "java/lang/invoke/MethodHandle" ∧ y_XK_addClass.cls ≠ "java/lang/invoke/VarHandle" ∧ (parseMethodDescriptor y_XK_addClass.desc).map (fun d => d.parameters.length) = some 1 := by decide +kernel
def y_X_bit : MethodName := ⟨"ClassifySort", "bit", "(I)I"⟩
theorem dy_X_bit : y_X_bit.cls ≠ "java/lang/invoke/MethodHandle" ∧ y_X_bit.cls ≠ "java/lang/invoke/VarHandle" ∧ (parseMethodDescriptor y_X_bit.desc).map (fun d => d.parameters.length) = some 1 := by decide +kernel
def y_XK_tellYes : MethodName := ⟨"ClassifySort$Knowledge", "tellYes", "(II)V"⟩
theorem dy_XK_tellYes : y_XK_tellYes.cls ≠ "java/lang/invoke/MethodHandle" ∧ y_XK_tellYes.cls ≠ "java/lang/invoke/VarHandle" ∧ (parseMethodDescriptor y_XK_tellYes.desc).map (fun d => d.parameters.length) = some 2 := by decide +kernel
def y_X_has : MethodName := ⟨"ClassifySort", "has", "(II)Z"⟩
theorem dy_X_has : y_X_has.cls ≠ "java/lang/invoke/MethodHandle" ∧ y_X_has.cls ≠ "java/lang/invoke/VarHandle" ∧ (parseMethodDescriptor y_X_has.desc).map (fun d => d.parameters.length) = some 2 := by decide +kernel
def y_XK_close : MethodName := ⟨"ClassifySort$Knowledge", "close", "()V"⟩
theorem dy_XK_close : y_XK_close.cls ≠ "java/lang/invoke/MethodHandle" ∧ y_XK_close.cls ≠ "java/lang/invoke/VarHandle" ∧ (parseMethodDescriptor y_XK_close.desc).map (fun d => d.parameters.length) = some 0 := by decide +kernel
def y_XK_union : MethodName := ⟨"ClassifySort$Knowledge", "union", "([II)I"⟩
theorem dy_XK_union : y_XK_union.cls ≠ "java/lang/invoke/MethodHandle" ∧ y_XK_union.cls ≠ "java/lang/invoke/VarHandle" ∧ (parseMethodDescriptor y_XK_union.desc).map (fun d => d.parameters.length) = some 2 := by decide +kernel
def y_X_thing : MethodName := ⟨"ClassifySort", "thing", "()I"⟩
theorem dy_X_thing : y_X_thing.cls ≠ "java/lang/invoke/MethodHandle" ∧ y_X_thing.cls ≠ "java/lang/invoke/VarHandle" ∧ (parseMethodDescriptor y_X_thing.desc).map (fun d => d.parameters.length) = some 0 := by decide +kernel
def y_X_axiom : MethodName := ⟨"ClassifySort", "axiom", "(III)I"⟩
theorem dy_X_axiom : y_X_axiom.cls ≠ "java/lang/invoke/MethodHandle" ∧ y_X_axiom.cls ≠ "java/lang/invoke/VarHandle" ∧ (parseMethodDescriptor y_X_axiom.desc).map (fun d => d.parameters.length) = some 3 := by decide +kernel
def y_X_isClass : MethodName := ⟨"ClassifySort", "isClass", "(I)Z"⟩
theorem dy_X_isClass : y_X_isClass.cls ≠ "java/lang/invoke/MethodHandle" ∧ y_X_isClass.cls ≠ "java/lang/invoke/VarHandle" ∧ (parseMethodDescriptor y_X_isClass.desc).map (fun d => d.parameters.length) = some 1 := by decide +kernel
def y_X_isGoal : MethodName := ⟨"ClassifySort", "isGoal", "(I)Z"⟩
theorem dy_X_isGoal : y_X_isGoal.cls ≠ "java/lang/invoke/MethodHandle" ∧ y_X_isGoal.cls ≠ "java/lang/invoke/VarHandle" ∧ (parseMethodDescriptor y_X_isGoal.desc).map (fun d => d.parameters.length) = some 1 := by decide +kernel
def y_XA_isFull : MethodName := ⟨"ClassifySort$Axioms", "isFull", "()Z"⟩
theorem dy_XA_isFull : y_XA_isFull.cls ≠ "java/lang/invoke/MethodHandle" ∧ y_XA_isFull.cls ≠ "java/lang/invoke/VarHandle" ∧ (parseMethodDescriptor y_XA_isFull.desc).map (fun d => d.parameters.length) = some 0 := by decide +kernel
def y_X_slot : MethodName := ⟨"ClassifySort", "slot", "(I)I"⟩
theorem dy_X_slot : y_X_slot.cls ≠ "java/lang/invoke/MethodHandle" ∧ y_X_slot.cls ≠ "java/lang/invoke/VarHandle" ∧ (parseMethodDescriptor y_X_slot.desc).map (fun d => d.parameters.length) = some 1 := by decide +kernel
def y_XA_add : MethodName := ⟨"ClassifySort$Axioms", "add", "(II)I"⟩
theorem dy_XA_add : y_XA_add.cls ≠ "java/lang/invoke/MethodHandle" ∧ y_XA_add.cls ≠ "java/lang/invoke/VarHandle" ∧ (parseMethodDescriptor y_XA_add.desc).map (fun d => d.parameters.length) = some 2 := by decide +kernel
def y_XA_touchedBy : MethodName := ⟨"ClassifySort$Axioms", "touchedBy", "(I)I"⟩
theorem dy_XA_touchedBy : y_XA_touchedBy.cls ≠ "java/lang/invoke/MethodHandle" ∧ y_XA_touchedBy.cls ≠ "java/lang/invoke/VarHandle" ∧ (parseMethodDescriptor y_XA_touchedBy.desc).map (fun d => d.parameters.length) = some 1 := by decide +kernel
def y_XA_leftOf : MethodName := ⟨"ClassifySort$Axioms", "leftOf", "(I)I"⟩
theorem dy_XA_leftOf : y_XA_leftOf.cls ≠ "java/lang/invoke/MethodHandle" ∧ y_XA_leftOf.cls ≠ "java/lang/invoke/VarHandle" ∧ (parseMethodDescriptor y_XA_leftOf.desc).map (fun d => d.parameters.length) = some 1 := by decide +kernel
def y_XK_forgetNo : MethodName := ⟨"ClassifySort$Knowledge", "forgetNo", "(I)V"⟩
theorem dy_XK_forgetNo : y_XK_forgetNo.cls ≠ "java/lang/invoke/MethodHandle" ∧ y_XK_forgetNo.cls ≠ "java/lang/invoke/VarHandle" ∧ (parseMethodDescriptor y_XK_forgetNo.desc).map (fun d => d.parameters.length) = some 1 := by decide +kernel
def y_X_tellAxioms : MethodName := ⟨"ClassifySort", "tellAxioms", "()V"⟩
theorem dy_X_tellAxioms : y_X_tellAxioms.cls ≠ "java/lang/invoke/MethodHandle" ∧ y_X_tellAxioms.cls ≠ "java/lang/invoke/VarHandle" ∧ (parseMethodDescriptor y_X_tellAxioms.desc).map (fun d => d.parameters.length) = some 0 := by decide +kernel
def y_JI_bitCount : MethodName := ⟨"java/lang/Integer", "bitCount", "(I)I"⟩
theorem dy_JI_bitCount : y_JI_bitCount.cls ≠ "java/lang/invoke/MethodHandle" ∧ y_JI_bitCount.cls ≠ "java/lang/invoke/VarHandle" ∧ (parseMethodDescriptor y_JI_bitCount.desc).map (fun d => d.parameters.length) = some 1 := by decide +kernel
def y_JI_numberOfTrailingZeros : MethodName := ⟨"java/lang/Integer", "numberOfTrailingZeros", "(I)I"⟩
theorem dy_JI_numberOfTrailingZeros : y_JI_numberOfTrailingZeros.cls ≠ "java/lang/invoke/MethodHandle" ∧ y_JI_numberOfTrailingZeros.cls ≠ "java/lang/invoke/VarHandle" ∧ (parseMethodDescriptor y_JI_numberOfTrailingZeros.desc).map (fun d => d.parameters.length) = some 1 := by decide +kernel
def y_XA_rightOf : MethodName := ⟨"ClassifySort$Axioms", "rightOf", "(I)I"⟩
theorem dy_XA_rightOf : y_XA_rightOf.cls ≠ "java/lang/invoke/MethodHandle" ∧ y_XA_rightOf.cls ≠ "java/lang/invoke/VarHandle" ∧ (parseMethodDescriptor y_XA_rightOf.desc).map (fun d => d.parameters.length) = some 1 := by decide +kernel
def y_X_remove : MethodName := ⟨"ClassifySort", "remove", "(I)I"⟩
theorem dy_X_remove : y_X_remove.cls ≠ "java/lang/invoke/MethodHandle" ∧ y_X_remove.cls ≠ "java/lang/invoke/VarHandle" ∧ (parseMethodDescriptor y_X_remove.desc).map (fun d => d.parameters.length) = some 1 := by decide +kernel
def y_XA_isThere : MethodName := ⟨"ClassifySort$Axioms", "isThere", "(I)Z"⟩
theorem dy_XA_isThere : y_XA_isThere.cls ≠ "java/lang/invoke/MethodHandle" ∧ y_XA_isThere.cls ≠ "java/lang/invoke/VarHandle" ∧ (parseMethodDescriptor y_XA_isThere.desc).map (fun d => d.parameters.length) = some 1 := by decide +kernel
def y_XK_knownPairs : MethodName := ⟨"ClassifySort$Knowledge", "knownPairs", "(I)I"⟩
theorem dy_XK_knownPairs : y_XK_knownPairs.cls ≠ "java/lang/invoke/MethodHandle" ∧ y_XK_knownPairs.cls ≠ "java/lang/invoke/VarHandle" ∧ (parseMethodDescriptor y_XK_knownPairs.desc).map (fun d => d.parameters.length) = some 1 := by decide +kernel
def y_XA_drop : MethodName := ⟨"ClassifySort$Axioms", "drop", "(I)V"⟩
theorem dy_XA_drop : y_XA_drop.cls ≠ "java/lang/invoke/MethodHandle" ∧ y_XA_drop.cls ≠ "java/lang/invoke/VarHandle" ∧ (parseMethodDescriptor y_XA_drop.desc).map (fun d => d.parameters.length) = some 1 := by decide +kernel
def y_XK_forgetYes : MethodName := ⟨"ClassifySort$Knowledge", "forgetYes", "(I)V"⟩
theorem dy_XK_forgetYes : y_XK_forgetYes.cls ≠ "java/lang/invoke/MethodHandle" ∧ y_XK_forgetYes.cls ≠ "java/lang/invoke/VarHandle" ∧ (parseMethodDescriptor y_XK_forgetYes.desc).map (fun d => d.parameters.length) = some 1 := by decide +kernel
def y_X_fuel : MethodName := ⟨"ClassifySort", "fuel", "(I)I"⟩
theorem dy_X_fuel : y_X_fuel.cls ≠ "java/lang/invoke/MethodHandle" ∧ y_X_fuel.cls ≠ "java/lang/invoke/VarHandle" ∧ (parseMethodDescriptor y_X_fuel.desc).map (fun d => d.parameters.length) = some 1 := by decide +kernel
def y_XK_openPairs : MethodName := ⟨"ClassifySort$Knowledge", "openPairs", "(I)I"⟩
theorem dy_XK_openPairs : y_XK_openPairs.cls ≠ "java/lang/invoke/MethodHandle" ∧ y_XK_openPairs.cls ≠ "java/lang/invoke/VarHandle" ∧ (parseMethodDescriptor y_XK_openPairs.desc).map (fun d => d.parameters.length) = some 1 := by decide +kernel
def y_XR_fillUp : MethodName := ⟨"ClassifySort$Reasoner", "fillUp", "(I)V"⟩
theorem dy_XR_fillUp : y_XR_fillUp.cls ≠ "java/lang/invoke/MethodHandle" ∧ y_XR_fillUp.cls ≠ "java/lang/invoke/VarHandle" ∧ (parseMethodDescriptor y_XR_fillUp.desc).map (fun d => d.parameters.length) = some 1 := by decide +kernel
def y_XK_forgetOpen : MethodName := ⟨"ClassifySort$Knowledge", "forgetOpen", "()V"⟩
theorem dy_XK_forgetOpen : y_XK_forgetOpen.cls ≠ "java/lang/invoke/MethodHandle" ∧ y_XK_forgetOpen.cls ≠ "java/lang/invoke/VarHandle" ∧ (parseMethodDescriptor y_XK_forgetOpen.desc).map (fun d => d.parameters.length) = some 0 := by decide +kernel
def y_X_known : MethodName := ⟨"ClassifySort", "known", "(II)I"⟩
theorem dy_X_known : y_X_known.cls ≠ "java/lang/invoke/MethodHandle" ∧ y_X_known.cls ≠ "java/lang/invoke/VarHandle" ∧ (parseMethodDescriptor y_X_known.desc).map (fun d => d.parameters.length) = some 2 := by decide +kernel
def y_XK_of : MethodName := ⟨"ClassifySort$Knowledge", "of", "(II)I"⟩
theorem dy_XK_of : y_XK_of.cls ≠ "java/lang/invoke/MethodHandle" ∧ y_XK_of.cls ≠ "java/lang/invoke/VarHandle" ∧ (parseMethodDescriptor y_XK_of.desc).map (fun d => d.parameters.length) = some 2 := by decide +kernel
def y_X_ask : MethodName := ⟨"ClassifySort", "ask", "(II)I"⟩
theorem dy_X_ask : y_X_ask.cls ≠ "java/lang/invoke/MethodHandle" ∧ y_X_ask.cls ≠ "java/lang/invoke/VarHandle" ∧ (parseMethodDescriptor y_X_ask.desc).map (fun d => d.parameters.length) = some 2 := by decide +kernel
def y_XR_decide : MethodName := ⟨"ClassifySort$Reasoner", "decide", "(II)I"⟩
theorem dy_XR_decide : y_XR_decide.cls ≠ "java/lang/invoke/MethodHandle" ∧ y_XR_decide.cls ≠ "java/lang/invoke/VarHandle" ∧ (parseMethodDescriptor y_XR_decide.desc).map (fun d => d.parameters.length) = some 2 := by decide +kernel
def y_XA_firstThatFires : MethodName := ⟨"ClassifySort$Axioms", "firstThatFires", "(I)I"⟩
theorem dy_XA_firstThatFires : y_XA_firstThatFires.cls ≠ "java/lang/invoke/MethodHandle" ∧ y_XA_firstThatFires.cls ≠ "java/lang/invoke/VarHandle" ∧ (parseMethodDescriptor y_XA_firstThatFires.desc).map (fun d => d.parameters.length) = some 1 := by decide +kernel
def y_X_run : MethodName := ⟨"ClassifySort", "run", "()I"⟩
theorem dy_X_run : y_X_run.cls ≠ "java/lang/invoke/MethodHandle" ∧ y_X_run.cls ≠ "java/lang/invoke/VarHandle" ∧ (parseMethodDescriptor y_X_run.desc).map (fun d => d.parameters.length) = some 0 := by decide +kernel
def y_XO_sort : MethodName := ⟨"ClassifySort$Order", "sort", "(I)I"⟩
theorem dy_XO_sort : y_XO_sort.cls ≠ "java/lang/invoke/MethodHandle" ∧ y_XO_sort.cls ≠ "java/lang/invoke/VarHandle" ∧ (parseMethodDescriptor y_XO_sort.desc).map (fun d => d.parameters.length) = some 1 := by decide +kernel
def y_XO_answer : MethodName := ⟨"ClassifySort$Order", "answer", "(II)I"⟩
theorem dy_XO_answer : y_XO_answer.cls ≠ "java/lang/invoke/MethodHandle" ∧ y_XO_answer.cls ≠ "java/lang/invoke/VarHandle" ∧ (parseMethodDescriptor y_XO_answer.desc).map (fun d => d.parameters.length) = some 2 := by decide +kernel
def y_XK_learn : MethodName := ⟨"ClassifySort$Knowledge", "learn", "(III)V"⟩
theorem dy_XK_learn : y_XK_learn.cls ≠ "java/lang/invoke/MethodHandle" ∧ y_XK_learn.cls ≠ "java/lang/invoke/VarHandle" ∧ (parseMethodDescriptor y_XK_learn.desc).map (fun d => d.parameters.length) = some 3 := by decide +kernel
def y_XO_searchDown : MethodName := ⟨"ClassifySort$Order", "searchDown", "(I)V"⟩
theorem dy_XO_searchDown : y_XO_searchDown.cls ≠ "java/lang/invoke/MethodHandle" ∧ y_XO_searchDown.cls ≠ "java/lang/invoke/VarHandle" ∧ (parseMethodDescriptor y_XO_searchDown.desc).map (fun d => d.parameters.length) = some 1 := by decide +kernel
def y_XO_nextDown : MethodName := ⟨"ClassifySort$Order", "nextDown", "(II)I"⟩
theorem dy_XO_nextDown : y_XO_nextDown.cls ≠ "java/lang/invoke/MethodHandle" ∧ y_XO_nextDown.cls ≠ "java/lang/invoke/VarHandle" ∧ (parseMethodDescriptor y_XO_nextDown.desc).map (fun d => d.parameters.length) = some 2 := by decide +kernel
def y_XK_allAbove : MethodName := ⟨"ClassifySort$Knowledge", "allAbove", "(I)I"⟩
theorem dy_XK_allAbove : y_XK_allAbove.cls ≠ "java/lang/invoke/MethodHandle" ∧ y_XK_allAbove.cls ≠ "java/lang/invoke/VarHandle" ∧ (parseMethodDescriptor y_XK_allAbove.desc).map (fun d => d.parameters.length) = some 1 := by decide +kernel
def y_XK_strictlyAbove : MethodName := ⟨"ClassifySort$Knowledge", "strictlyAbove", "(I)I"⟩
theorem dy_XK_strictlyAbove : y_XK_strictlyAbove.cls ≠ "java/lang/invoke/MethodHandle" ∧ y_XK_strictlyAbove.cls ≠ "java/lang/invoke/VarHandle" ∧ (parseMethodDescriptor y_XK_strictlyAbove.desc).map (fun d => d.parameters.length) = some 1 := by decide +kernel
def y_XO_searchUp : MethodName := ⟨"ClassifySort$Order", "searchUp", "(I)V"⟩
theorem dy_XO_searchUp : y_XO_searchUp.cls ≠ "java/lang/invoke/MethodHandle" ∧ y_XO_searchUp.cls ≠ "java/lang/invoke/VarHandle" ∧ (parseMethodDescriptor y_XO_searchUp.desc).map (fun d => d.parameters.length) = some 1 := by decide +kernel
def y_XO_nextUp : MethodName := ⟨"ClassifySort$Order", "nextUp", "(II)I"⟩
theorem dy_XO_nextUp : y_XO_nextUp.cls ≠ "java/lang/invoke/MethodHandle" ∧ y_XO_nextUp.cls ≠ "java/lang/invoke/VarHandle" ∧ (parseMethodDescriptor y_XO_nextUp.desc).map (fun d => d.parameters.length) = some 2 := by decide +kernel
def y_XK_allBelow : MethodName := ⟨"ClassifySort$Knowledge", "allBelow", "(I)I"⟩
theorem dy_XK_allBelow : y_XK_allBelow.cls ≠ "java/lang/invoke/MethodHandle" ∧ y_XK_allBelow.cls ≠ "java/lang/invoke/VarHandle" ∧ (parseMethodDescriptor y_XK_allBelow.desc).map (fun d => d.parameters.length) = some 1 := by decide +kernel
def y_XK_strictlyBelow : MethodName := ⟨"ClassifySort$Knowledge", "strictlyBelow", "(I)I"⟩
theorem dy_XK_strictlyBelow : y_XK_strictlyBelow.cls ≠ "java/lang/invoke/MethodHandle" ∧ y_XK_strictlyBelow.cls ≠ "java/lang/invoke/VarHandle" ∧ (parseMethodDescriptor y_XK_strictlyBelow.desc).map (fun d => d.parameters.length) = some 1 := by decide +kernel
def y_X_parent : MethodName := ⟨"ClassifySort", "parent", "(II)I"⟩
theorem dy_X_parent : y_X_parent.cls ≠ "java/lang/invoke/MethodHandle" ∧ y_X_parent.cls ≠ "java/lang/invoke/VarHandle" ∧ (parseMethodDescriptor y_X_parent.desc).map (fun d => d.parameters.length) = some 2 := by decide +kernel
def y_XO_isEmptyClass : MethodName := ⟨"ClassifySort$Order", "isEmptyClass", "(I)Z"⟩
theorem dy_XO_isEmptyClass : y_XO_isEmptyClass.cls ≠ "java/lang/invoke/MethodHandle" ∧ y_XO_isEmptyClass.cls ≠ "java/lang/invoke/VarHandle" ∧ (parseMethodDescriptor y_XO_isEmptyClass.desc).map (fun d => d.parameters.length) = some 1 := by decide +kernel
def y_XO_firstOfSame : MethodName := ⟨"ClassifySort$Order", "firstOfSame", "(I)I"⟩
theorem dy_XO_firstOfSame : y_XO_firstOfSame.cls ≠ "java/lang/invoke/MethodHandle" ∧ y_XO_firstOfSame.cls ≠ "java/lang/invoke/VarHandle" ∧ (parseMethodDescriptor y_XO_firstOfSame.desc).map (fun d => d.parameters.length) = some 1 := by decide +kernel
def y_XK_sameAs : MethodName := ⟨"ClassifySort$Knowledge", "sameAs", "(I)I"⟩
theorem dy_XK_sameAs : y_XK_sameAs.cls ≠ "java/lang/invoke/MethodHandle" ∧ y_XK_sameAs.cls ≠ "java/lang/invoke/VarHandle" ∧ (parseMethodDescriptor y_XK_sameAs.desc).map (fun d => d.parameters.length) = some 1 := by decide +kernel
def y_X_pick : MethodName := ⟨"ClassifySort", "pick", "(II)I"⟩
theorem dy_X_pick : y_X_pick.cls ≠ "java/lang/invoke/MethodHandle" ∧ y_X_pick.cls ≠ "java/lang/invoke/VarHandle" ∧ (parseMethodDescriptor y_X_pick.desc).map (fun d => d.parameters.length) = some 2 := by decide +kernel
def y_XO_directlyAbove : MethodName := ⟨"ClassifySort$Order", "directlyAbove", "(I)I"⟩
theorem dy_XO_directlyAbove : y_XO_directlyAbove.cls ≠ "java/lang/invoke/MethodHandle" ∧ y_XO_directlyAbove.cls ≠ "java/lang/invoke/VarHandle" ∧ (parseMethodDescriptor y_XO_directlyAbove.desc).map (fun d => d.parameters.length) = some 1 := by decide +kernel
def y_XO_lowest : MethodName := ⟨"ClassifySort$Order", "lowest", "()I"⟩
theorem dy_XO_lowest : y_XO_lowest.cls ≠ "java/lang/invoke/MethodHandle" ∧ y_XO_lowest.cls ≠ "java/lang/invoke/VarHandle" ∧ (parseMethodDescriptor y_XO_lowest.desc).map (fun d => d.parameters.length) = some 0 := by decide +kernel
def y_XO_lowestAmong : MethodName := ⟨"ClassifySort$Order", "lowestAmong", "(I)I"⟩
theorem dy_XO_lowestAmong : y_XO_lowestAmong.cls ≠ "java/lang/invoke/MethodHandle" ∧ y_XO_lowestAmong.cls ≠ "java/lang/invoke/VarHandle" ∧ (parseMethodDescriptor y_XO_lowestAmong.desc).map (fun d => d.parameters.length) = some 1 := by decide +kernel
def y_XO_directlyBelow : MethodName := ⟨"ClassifySort$Order", "directlyBelow", "(I)I"⟩
theorem dy_XO_directlyBelow : y_XO_directlyBelow.cls ≠ "java/lang/invoke/MethodHandle" ∧ y_XO_directlyBelow.cls ≠ "java/lang/invoke/VarHandle" ∧ (parseMethodDescriptor y_XO_directlyBelow.desc).map (fun d => d.parameters.length) = some 1 := by decide +kernel
def y_X_child : MethodName := ⟨"ClassifySort", "child", "(II)I"⟩
theorem dy_X_child : y_X_child.cls ≠ "java/lang/invoke/MethodHandle" ∧ y_X_child.cls ≠ "java/lang/invoke/VarHandle" ∧ (parseMethodDescriptor y_X_child.desc).map (fun d => d.parameters.length) = some 2 := by decide +kernel
def y_X_equal : MethodName := ⟨"ClassifySort", "equal", "(II)I"⟩
theorem dy_X_equal : y_X_equal.cls ≠ "java/lang/invoke/MethodHandle" ∧ y_X_equal.cls ≠ "java/lang/invoke/VarHandle" ∧ (parseMethodDescriptor y_X_equal.desc).map (fun d => d.parameters.length) = some 2 := by decide +kernel
def y_X_empty : MethodName := ⟨"ClassifySort", "empty", "(I)I"⟩
theorem dy_X_empty : y_X_empty.cls ≠ "java/lang/invoke/MethodHandle" ∧ y_X_empty.cls ≠ "java/lang/invoke/VarHandle" ∧ (parseMethodDescriptor y_X_empty.desc).map (fun d => d.parameters.length) = some 1 := by decide +kernel
def y_XO_emptyClasses : MethodName := ⟨"ClassifySort$Order", "emptyClasses", "()I"⟩
theorem dy_XO_emptyClasses : y_XO_emptyClasses.cls ≠ "java/lang/invoke/MethodHandle" ∧ y_XO_emptyClasses.cls ≠ "java/lang/invoke/VarHandle" ∧ (parseMethodDescriptor y_XO_emptyClasses.desc).map (fun d => d.parameters.length) = some 0 := by decide +kernel
def y_X_open : MethodName := ⟨"ClassifySort", "open", "(I)I"⟩
theorem dy_X_open : y_X_open.cls ≠ "java/lang/invoke/MethodHandle" ∧ y_X_open.cls ≠ "java/lang/invoke/VarHandle" ∧ (parseMethodDescriptor y_X_open.desc).map (fun d => d.parameters.length) = some 1 := by decide +kernel
def y_XK_openOf : MethodName := ⟨"ClassifySort$Knowledge", "openOf", "(I)I"⟩
theorem dy_XK_openOf : y_XK_openOf.cls ≠ "java/lang/invoke/MethodHandle" ∧ y_XK_openOf.cls ≠ "java/lang/invoke/VarHandle" ∧ (parseMethodDescriptor y_XK_openOf.desc).map (fun d => d.parameters.length) = some 1 := by decide +kernel
def y_X_put : MethodName := ⟨"ClassifySort", "put", "(II)I"⟩
theorem dy_X_put : y_X_put.cls ≠ "java/lang/invoke/MethodHandle" ∧ y_X_put.cls ≠ "java/lang/invoke/VarHandle" ∧ (parseMethodDescriptor y_X_put.desc).map (fun d => d.parameters.length) = some 2 := by decide +kernel
def y_X_isThing : MethodName := ⟨"ClassifySort", "isThing", "(I)Z"⟩
theorem dy_X_isThing : y_X_isThing.cls ≠ "java/lang/invoke/MethodHandle" ∧ y_X_isThing.cls ≠ "java/lang/invoke/VarHandle" ∧ (parseMethodDescriptor y_X_isThing.desc).map (fun d => d.parameters.length) = some 1 := by decide +kernel
def y_X_type : MethodName := ⟨"ClassifySort", "type", "(II)I"⟩
theorem dy_X_type : y_X_type.cls ≠ "java/lang/invoke/MethodHandle" ∧ y_X_type.cls ≠ "java/lang/invoke/VarHandle" ∧ (parseMethodDescriptor y_X_type.desc).map (fun d => d.parameters.length) = some 2 := by decide +kernel
def y_XR_facts : MethodName := ⟨"ClassifySort$Reasoner", "facts", "()I"⟩
theorem dy_XR_facts : y_XR_facts.cls ≠ "java/lang/invoke/MethodHandle" ∧ y_XR_facts.cls ≠ "java/lang/invoke/VarHandle" ∧ (parseMethodDescriptor y_XR_facts.desc).map (fun d => d.parameters.length) = some 0 := by decide +kernel
def y_X_trace : MethodName := ⟨"ClassifySort", "trace", "(III)I"⟩
theorem dy_X_trace : y_X_trace.cls ≠ "java/lang/invoke/MethodHandle" ∧ y_X_trace.cls ≠ "java/lang/invoke/VarHandle" ∧ (parseMethodDescriptor y_X_trace.desc).map (fun d => d.parameters.length) = some 3 := by decide +kernel
def y_XR_neededSteps : MethodName := ⟨"ClassifySort$Reasoner", "neededSteps", "()I"⟩
theorem dy_XR_neededSteps : y_XR_neededSteps.cls ≠ "java/lang/invoke/MethodHandle" ∧ y_XR_neededSteps.cls ≠ "java/lang/invoke/VarHandle" ∧ (parseMethodDescriptor y_XR_neededSteps.desc).map (fun d => d.parameters.length) = some 0 := by decide +kernel
def y_XR_firedAt : MethodName := ⟨"ClassifySort$Reasoner", "firedAt", "(I)I"⟩
theorem dy_XR_firedAt : y_XR_firedAt.cls ≠ "java/lang/invoke/MethodHandle" ∧ y_XR_firedAt.cls ≠ "java/lang/invoke/VarHandle" ∧ (parseMethodDescriptor y_XR_firedAt.desc).map (fun d => d.parameters.length) = some 1 := by decide +kernel
def y_X_count : MethodName := ⟨"ClassifySort", "count", "(I)I"⟩
theorem dy_X_count : y_X_count.cls ≠ "java/lang/invoke/MethodHandle" ∧ y_X_count.cls ≠ "java/lang/invoke/VarHandle" ∧ (parseMethodDescriptor y_X_count.desc).map (fun d => d.parameters.length) = some 1 := by decide +kernel
def y_XA_thereNow : MethodName := ⟨"ClassifySort$Axioms", "thereNow", "()I"⟩
theorem dy_XA_thereNow : y_XA_thereNow.cls ≠ "java/lang/invoke/MethodHandle" ∧ y_XA_thereNow.cls ≠ "java/lang/invoke/VarHandle" ∧ (parseMethodDescriptor y_XA_thereNow.desc).map (fun d => d.parameters.length) = some 0 := by decide +kernel
def y_XO_placedClasses : MethodName := ⟨"ClassifySort$Order", "placedClasses", "()I"⟩
theorem dy_XO_placedClasses : y_XO_placedClasses.cls ≠ "java/lang/invoke/MethodHandle" ∧ y_XO_placedClasses.cls ≠ "java/lang/invoke/VarHandle" ∧ (parseMethodDescriptor y_XO_placedClasses.desc).map (fun d => d.parameters.length) = some 0 := by decide +kernel
def y_M_class0 : MethodName := ⟨"ClassifySortModel", "class0", "()I"⟩
theorem dy_M_class0 : y_M_class0.cls ≠ "java/lang/invoke/MethodHandle" ∧ y_M_class0.cls ≠ "java/lang/invoke/VarHandle" ∧ (parseMethodDescriptor y_M_class0.desc).map (fun d => d.parameters.length) = some 0 := by decide +kernel
def y_M_close : MethodName := ⟨"ClassifySortModel", "close", "()V"⟩
theorem dy_M_close : y_M_close.cls ≠ "java/lang/invoke/MethodHandle" ∧ y_M_close.cls ≠ "java/lang/invoke/VarHandle" ∧ (parseMethodDescriptor y_M_close.desc).map (fun d => d.parameters.length) = some 0 := by decide +kernel
def y_M_tellItself : MethodName := ⟨"ClassifySortModel", "tellItself", "()V"⟩
theorem dy_M_tellItself : y_M_tellItself.cls ≠ "java/lang/invoke/MethodHandle" ∧ y_M_tellItself.cls ≠ "java/lang/invoke/VarHandle" ∧ (parseMethodDescriptor y_M_tellItself.desc).map (fun d => d.parameters.length) = some 0 := by decide +kernel
def y_M_isItself : MethodName := ⟨"ClassifySortModel", "isItself", "(II)Z"⟩
theorem dy_M_isItself : y_M_isItself.cls ≠ "java/lang/invoke/MethodHandle" ∧ y_M_isItself.cls ≠ "java/lang/invoke/VarHandle" ∧ (parseMethodDescriptor y_M_isItself.desc).map (fun d => d.parameters.length) = some 2 := by decide +kernel
def y_M_closeOnce : MethodName := ⟨"ClassifySortModel", "closeOnce", "()Z"⟩
theorem dy_M_closeOnce : y_M_closeOnce.cls ≠ "java/lang/invoke/MethodHandle" ∧ y_M_closeOnce.cls ≠ "java/lang/invoke/VarHandle" ∧ (parseMethodDescriptor y_M_closeOnce.desc).map (fun d => d.parameters.length) = some 0 := by decide +kernel
def y_M_isHere : MethodName := ⟨"ClassifySortModel", "isHere", "(I)Z"⟩
theorem dy_M_isHere : y_M_isHere.cls ≠ "java/lang/invoke/MethodHandle" ∧ y_M_isHere.cls ≠ "java/lang/invoke/VarHandle" ∧ (parseMethodDescriptor y_M_isHere.desc).map (fun d => d.parameters.length) = some 1 := by decide +kernel
def y_M_below : MethodName := ⟨"ClassifySortModel", "below", "(II)Z"⟩
theorem dy_M_below : y_M_below.cls ≠ "java/lang/invoke/MethodHandle" ∧ y_M_below.cls ≠ "java/lang/invoke/VarHandle" ∧ (parseMethodDescriptor y_M_below.desc).map (fun d => d.parameters.length) = some 2 := by decide +kernel
def y_M_spreadNo : MethodName := ⟨"ClassifySortModel", "spreadNo", "(II)Z"⟩
theorem dy_M_spreadNo : y_M_spreadNo.cls ≠ "java/lang/invoke/MethodHandle" ∧ y_M_spreadNo.cls ≠ "java/lang/invoke/VarHandle" ∧ (parseMethodDescriptor y_M_spreadNo.desc).map (fun d => d.parameters.length) = some 2 := by decide +kernel
def y_M_thing : MethodName := ⟨"ClassifySortModel", "thing", "()I"⟩
theorem dy_M_thing : y_M_thing.cls ≠ "java/lang/invoke/MethodHandle" ∧ y_M_thing.cls ≠ "java/lang/invoke/VarHandle" ∧ (parseMethodDescriptor y_M_thing.desc).map (fun d => d.parameters.length) = some 0 := by decide +kernel
def y_M_axiom : MethodName := ⟨"ClassifySortModel", "axiom", "(III)I"⟩
theorem dy_M_axiom : y_M_axiom.cls ≠ "java/lang/invoke/MethodHandle" ∧ y_M_axiom.cls ≠ "java/lang/invoke/VarHandle" ∧ (parseMethodDescriptor y_M_axiom.desc).map (fun d => d.parameters.length) = some 3 := by decide +kernel
def y_M_isClass : MethodName := ⟨"ClassifySortModel", "isClass", "(I)Z"⟩
theorem dy_M_isClass : y_M_isClass.cls ≠ "java/lang/invoke/MethodHandle" ∧ y_M_isClass.cls ≠ "java/lang/invoke/VarHandle" ∧ (parseMethodDescriptor y_M_isClass.desc).map (fun d => d.parameters.length) = some 1 := by decide +kernel
def y_M_forget : MethodName := ⟨"ClassifySortModel", "forget", "(II)V"⟩
theorem dy_M_forget : y_M_forget.cls ≠ "java/lang/invoke/MethodHandle" ∧ y_M_forget.cls ≠ "java/lang/invoke/VarHandle" ∧ (parseMethodDescriptor y_M_forget.desc).map (fun d => d.parameters.length) = some 2 := by decide +kernel
def y_M_isTouched : MethodName := ⟨"ClassifySortModel", "isTouched", "(II)Z"⟩
theorem dy_M_isTouched : y_M_isTouched.cls ≠ "java/lang/invoke/MethodHandle" ∧ y_M_isTouched.cls ≠ "java/lang/invoke/VarHandle" ∧ (parseMethodDescriptor y_M_isTouched.desc).map (fun d => d.parameters.length) = some 2 := by decide +kernel
def y_M_remove : MethodName := ⟨"ClassifySortModel", "remove", "(I)I"⟩
theorem dy_M_remove : y_M_remove.cls ≠ "java/lang/invoke/MethodHandle" ∧ y_M_remove.cls ≠ "java/lang/invoke/VarHandle" ∧ (parseMethodDescriptor y_M_remove.desc).map (fun d => d.parameters.length) = some 1 := by decide +kernel
def y_M_fuel : MethodName := ⟨"ClassifySortModel", "fuel", "(I)I"⟩
theorem dy_M_fuel : y_M_fuel.cls ≠ "java/lang/invoke/MethodHandle" ∧ y_M_fuel.cls ≠ "java/lang/invoke/VarHandle" ∧ (parseMethodDescriptor y_M_fuel.desc).map (fun d => d.parameters.length) = some 1 := by decide +kernel
def y_M_openPairs : MethodName := ⟨"ClassifySortModel", "openPairs", "()I"⟩
theorem dy_M_openPairs : y_M_openPairs.cls ≠ "java/lang/invoke/MethodHandle" ∧ y_M_openPairs.cls ≠ "java/lang/invoke/VarHandle" ∧ (parseMethodDescriptor y_M_openPairs.desc).map (fun d => d.parameters.length) = some 0 := by decide +kernel
def y_M_known : MethodName := ⟨"ClassifySortModel", "known", "(II)I"⟩
theorem dy_M_known : y_M_known.cls ≠ "java/lang/invoke/MethodHandle" ∧ y_M_known.cls ≠ "java/lang/invoke/VarHandle" ∧ (parseMethodDescriptor y_M_known.desc).map (fun d => d.parameters.length) = some 2 := by decide +kernel
def y_M_goalOf : MethodName := ⟨"ClassifySortModel", "goalOf", "(I)I"⟩
theorem dy_M_goalOf : y_M_goalOf.cls ≠ "java/lang/invoke/MethodHandle" ∧ y_M_goalOf.cls ≠ "java/lang/invoke/VarHandle" ∧ (parseMethodDescriptor y_M_goalOf.desc).map (fun d => d.parameters.length) = some 1 := by decide +kernel
def y_M_ask : MethodName := ⟨"ClassifySortModel", "ask", "(II)I"⟩
theorem dy_M_ask : y_M_ask.cls ≠ "java/lang/invoke/MethodHandle" ∧ y_M_ask.cls ≠ "java/lang/invoke/VarHandle" ∧ (parseMethodDescriptor y_M_ask.desc).map (fun d => d.parameters.length) = some 2 := by decide +kernel
def y_M_reasonAlone : MethodName := ⟨"ClassifySortModel", "reasonAlone", "(II)I"⟩
theorem dy_M_reasonAlone : y_M_reasonAlone.cls ≠ "java/lang/invoke/MethodHandle" ∧ y_M_reasonAlone.cls ≠ "java/lang/invoke/VarHandle" ∧ (parseMethodDescriptor y_M_reasonAlone.desc).map (fun d => d.parameters.length) = some 2 := by decide +kernel
def y_M_reason : MethodName := ⟨"ClassifySortModel", "reason", "(I)I"⟩
theorem dy_M_reason : y_M_reason.cls ≠ "java/lang/invoke/MethodHandle" ∧ y_M_reason.cls ≠ "java/lang/invoke/VarHandle" ∧ (parseMethodDescriptor y_M_reason.desc).map (fun d => d.parameters.length) = some 1 := by decide +kernel
def y_M_run : MethodName := ⟨"ClassifySortModel", "run", "()I"⟩
theorem dy_M_run : y_M_run.cls ≠ "java/lang/invoke/MethodHandle" ∧ y_M_run.cls ≠ "java/lang/invoke/VarHandle" ∧ (parseMethodDescriptor y_M_run.desc).map (fun d => d.parameters.length) = some 0 := by decide +kernel
def y_M_look : MethodName := ⟨"ClassifySortModel", "look", "(II)Z"⟩
theorem dy_M_look : y_M_look.cls ≠ "java/lang/invoke/MethodHandle" ∧ y_M_look.cls ≠ "java/lang/invoke/VarHandle" ∧ (parseMethodDescriptor y_M_look.desc).map (fun d => d.parameters.length) = some 2 := by decide +kernel
def y_M_go : MethodName := ⟨"ClassifySortModel", "go", "(IZ)V"⟩
theorem dy_M_go : y_M_go.cls ≠ "java/lang/invoke/MethodHandle" ∧ y_M_go.cls ≠ "java/lang/invoke/VarHandle" ∧ (parseMethodDescriptor y_M_go.desc).map (fun d => d.parameters.length) = some 2 := by decide +kernel
def y_M_nextFor : MethodName := ⟨"ClassifySortModel", "nextFor", "(IZ)I"⟩
theorem dy_M_nextFor : y_M_nextFor.cls ≠ "java/lang/invoke/MethodHandle" ∧ y_M_nextFor.cls ≠ "java/lang/invoke/VarHandle" ∧ (parseMethodDescriptor y_M_nextFor.desc).map (fun d => d.parameters.length) = some 2 := by decide +kernel
def y_M_isDirect : MethodName := ⟨"ClassifySortModel", "isDirect", "(II)Z"⟩
theorem dy_M_isDirect : y_M_isDirect.cls ≠ "java/lang/invoke/MethodHandle" ∧ y_M_isDirect.cls ≠ "java/lang/invoke/VarHandle" ∧ (parseMethodDescriptor y_M_isDirect.desc).map (fun d => d.parameters.length) = some 2 := by decide +kernel
def y_M_isUnder : MethodName := ⟨"ClassifySortModel", "isUnder", "(II)Z"⟩
theorem dy_M_isUnder : y_M_isUnder.cls ≠ "java/lang/invoke/MethodHandle" ∧ y_M_isUnder.cls ≠ "java/lang/invoke/VarHandle" ∧ (parseMethodDescriptor y_M_isUnder.desc).map (fun d => d.parameters.length) = some 2 := by decide +kernel
def y_M_parent : MethodName := ⟨"ClassifySortModel", "parent", "(II)I"⟩
theorem dy_M_parent : y_M_parent.cls ≠ "java/lang/invoke/MethodHandle" ∧ y_M_parent.cls ≠ "java/lang/invoke/VarHandle" ∧ (parseMethodDescriptor y_M_parent.desc).map (fun d => d.parameters.length) = some 2 := by decide +kernel
def y_M_isSecond : MethodName := ⟨"ClassifySortModel", "isSecond", "(I)Z"⟩
theorem dy_M_isSecond : y_M_isSecond.cls ≠ "java/lang/invoke/MethodHandle" ∧ y_M_isSecond.cls ≠ "java/lang/invoke/VarHandle" ∧ (parseMethodDescriptor y_M_isSecond.desc).map (fun d => d.parameters.length) = some 1 := by decide +kernel
def y_M_hasBelow : MethodName := ⟨"ClassifySortModel", "hasBelow", "(I)Z"⟩
theorem dy_M_hasBelow : y_M_hasBelow.cls ≠ "java/lang/invoke/MethodHandle" ∧ y_M_hasBelow.cls ≠ "java/lang/invoke/VarHandle" ∧ (parseMethodDescriptor y_M_hasBelow.desc).map (fun d => d.parameters.length) = some 1 := by decide +kernel
def y_M_child : MethodName := ⟨"ClassifySortModel", "child", "(II)I"⟩
theorem dy_M_child : y_M_child.cls ≠ "java/lang/invoke/MethodHandle" ∧ y_M_child.cls ≠ "java/lang/invoke/VarHandle" ∧ (parseMethodDescriptor y_M_child.desc).map (fun d => d.parameters.length) = some 2 := by decide +kernel
def y_M_equal : MethodName := ⟨"ClassifySortModel", "equal", "(II)I"⟩
theorem dy_M_equal : y_M_equal.cls ≠ "java/lang/invoke/MethodHandle" ∧ y_M_equal.cls ≠ "java/lang/invoke/VarHandle" ∧ (parseMethodDescriptor y_M_equal.desc).map (fun d => d.parameters.length) = some 2 := by decide +kernel
def y_M_empty : MethodName := ⟨"ClassifySortModel", "empty", "(I)I"⟩
theorem dy_M_empty : y_M_empty.cls ≠ "java/lang/invoke/MethodHandle" ∧ y_M_empty.cls ≠ "java/lang/invoke/VarHandle" ∧ (parseMethodDescriptor y_M_empty.desc).map (fun d => d.parameters.length) = some 1 := by decide +kernel
def y_M_open : MethodName := ⟨"ClassifySortModel", "open", "(I)I"⟩
theorem dy_M_open : y_M_open.cls ≠ "java/lang/invoke/MethodHandle" ∧ y_M_open.cls ≠ "java/lang/invoke/VarHandle" ∧ (parseMethodDescriptor y_M_open.desc).map (fun d => d.parameters.length) = some 1 := by decide +kernel
def y_M_put : MethodName := ⟨"ClassifySortModel", "put", "(II)I"⟩
theorem dy_M_put : y_M_put.cls ≠ "java/lang/invoke/MethodHandle" ∧ y_M_put.cls ≠ "java/lang/invoke/VarHandle" ∧ (parseMethodDescriptor y_M_put.desc).map (fun d => d.parameters.length) = some 2 := by decide +kernel
def y_M_type : MethodName := ⟨"ClassifySortModel", "type", "(II)I"⟩
theorem dy_M_type : y_M_type.cls ≠ "java/lang/invoke/MethodHandle" ∧ y_M_type.cls ≠ "java/lang/invoke/VarHandle" ∧ (parseMethodDescriptor y_M_type.desc).map (fun d => d.parameters.length) = some 2 := by decide +kernel
def y_M_reasonThing : MethodName := ⟨"ClassifySortModel", "reasonThing", "(II)I"⟩
theorem dy_M_reasonThing : y_M_reasonThing.cls ≠ "java/lang/invoke/MethodHandle" ∧ y_M_reasonThing.cls ≠ "java/lang/invoke/VarHandle" ∧ (parseMethodDescriptor y_M_reasonThing.desc).map (fun d => d.parameters.length) = some 2 := by decide +kernel
def y_M_isIn : MethodName := ⟨"ClassifySortModel", "isIn", "(II)Z"⟩
theorem dy_M_isIn : y_M_isIn.cls ≠ "java/lang/invoke/MethodHandle" ∧ y_M_isIn.cls ≠ "java/lang/invoke/VarHandle" ∧ (parseMethodDescriptor y_M_isIn.desc).map (fun d => d.parameters.length) = some 2 := by decide +kernel
def y_M_trace : MethodName := ⟨"ClassifySortModel", "trace", "(III)I"⟩
theorem dy_M_trace : y_M_trace.cls ≠ "java/lang/invoke/MethodHandle" ∧ y_M_trace.cls ≠ "java/lang/invoke/VarHandle" ∧ (parseMethodDescriptor y_M_trace.desc).map (fun d => d.parameters.length) = some 3 := by decide +kernel
def y_M_count : MethodName := ⟨"ClassifySortModel", "count", "(I)I"⟩
theorem dy_M_count : y_M_count.cls ≠ "java/lang/invoke/MethodHandle" ∧ y_M_count.cls ≠ "java/lang/invoke/VarHandle" ∧ (parseMethodDescriptor y_M_count.desc).map (fun d => d.parameters.length) = some 1 := by decide +kernel
def y_XA_init : MethodName := ⟨"ClassifySort$Axioms", "<init>", "()V"⟩
theorem dy_XA_init : y_XA_init.cls ≠ "java/lang/invoke/MethodHandle" ∧ y_XA_init.cls ≠ "java/lang/invoke/VarHandle" ∧ (parseMethodDescriptor y_XA_init.desc).map (fun d => d.parameters.length) = some 0 := by decide +kernel
def y_XR_init : MethodName := ⟨"ClassifySort$Reasoner", "<init>", "(LClassifySort$Axioms;)V"⟩
theorem dy_XR_init : y_XR_init.cls ≠ "java/lang/invoke/MethodHandle" ∧ y_XR_init.cls ≠ "java/lang/invoke/VarHandle" ∧ (parseMethodDescriptor y_XR_init.desc).map (fun d => d.parameters.length) = some 1 := by decide +kernel
def y_XK_init : MethodName := ⟨"ClassifySort$Knowledge", "<init>", "()V"⟩
theorem dy_XK_init : y_XK_init.cls ≠ "java/lang/invoke/MethodHandle" ∧ y_XK_init.cls ≠ "java/lang/invoke/VarHandle" ∧ (parseMethodDescriptor y_XK_init.desc).map (fun d => d.parameters.length) = some 0 := by decide +kernel
def y_XO_init : MethodName := ⟨"ClassifySort$Order", "<init>", "(LClassifySort$Knowledge;LClassifySort$Reasoner;)V"⟩
theorem dy_XO_init : y_XO_init.cls ≠ "java/lang/invoke/MethodHandle" ∧ y_XO_init.cls ≠ "java/lang/invoke/VarHandle" ∧ (parseMethodDescriptor y_XO_init.desc).map (fun d => d.parameters.length) = some 2 := by decide +kernel
def y_X_init : MethodName := ⟨"ClassifySort", "<init>", "()V"⟩
theorem dy_X_init : y_X_init.cls ≠ "java/lang/invoke/MethodHandle" ∧ y_X_init.cls ≠ "java/lang/invoke/VarHandle" ∧ (parseMethodDescriptor y_X_init.desc).map (fun d => d.parameters.length) = some 0 := by decide +kernel
def y_M_init : MethodName := ⟨"ClassifySortModel", "<init>", "()V"⟩
theorem dy_M_init : y_M_init.cls ≠ "java/lang/invoke/MethodHandle" ∧ y_M_init.cls ≠ "java/lang/invoke/VarHandle" ∧ (parseMethodDescriptor y_M_init.desc).map (fun d => d.parameters.length) = some 0 := by decide +kernel
def y_L_law : MethodName := ⟨"ClassifySortLaw", "law", "([I)Z"⟩
theorem dy_L_law : y_L_law.cls ≠ "java/lang/invoke/MethodHandle" ∧ y_L_law.cls ≠ "java/lang/invoke/VarHandle" ∧ (parseMethodDescriptor y_L_law.desc).map (fun d => d.parameters.length) = some 1 := by decide +kernel
def TsG : List Cond := [.laysFinal "ClassifySort" "ClassifySort" "axioms" "LClassifySort$Axioms;",
  .laysFinal "ClassifySort" "ClassifySort" "reasoner" "LClassifySort$Reasoner;",
  .laysFinal "ClassifySort" "ClassifySort" "knowledge" "LClassifySort$Knowledge;",
  .laysFinal "ClassifySort" "ClassifySort" "order" "LClassifySort$Order;",
  .laysFinal "ClassifySort" "ClassifySort" "toldClasses" "[I",
  .lays "ClassifySort" "ClassifySort" "classes" "I",
  .lays "ClassifySort" "ClassifySort" "things" "I",
  .lays "ClassifySort" "ClassifySort" "questions" "I",
  .lays "ClassifySort" "ClassifySort" "sorted" "Z",
  .laysFinal "ClassifySort$Axioms" "ClassifySort$Axioms" "lefts" "[I",
  .laysFinal "ClassifySort$Axioms" "ClassifySort$Axioms" "rights" "[I",
  .lays "ClassifySort$Axioms" "ClassifySort$Axioms" "made" "I",
  .lays "ClassifySort$Axioms" "ClassifySort$Axioms" "there" "I",
  .laysFinal "ClassifySort$Reasoner" "ClassifySort$Reasoner" "axioms" "LClassifySort$Axioms;",
  .laysFinal "ClassifySort$Reasoner" "ClassifySort$Reasoner" "fired" "[I",
  .lays "ClassifySort$Reasoner" "ClassifySort$Reasoner" "limit" "I",
  .lays "ClassifySort$Reasoner" "ClassifySort$Reasoner" "steps" "I",
  .lays "ClassifySort$Reasoner" "ClassifySort$Reasoner" "facts" "I",
  .laysFinal "ClassifySort$Knowledge" "ClassifySort$Knowledge" "above" "[I",
  .laysFinal "ClassifySort$Knowledge" "ClassifySort$Knowledge" "below" "[I",
  .laysFinal "ClassifySort$Knowledge" "ClassifySort$Knowledge" "notAbove" "[I",
  .laysFinal "ClassifySort$Knowledge" "ClassifySort$Knowledge" "undecided" "[I",
  .laysFinal "ClassifySort$Order" "ClassifySort$Order" "knowledge" "LClassifySort$Knowledge;",
  .laysFinal "ClassifySort$Order" "ClassifySort$Order" "reasoner" "LClassifySort$Reasoner;",
  .lays "ClassifySort$Order" "ClassifySort$Order" "placed" "I",
  .lays "ClassifySort$Order" "ClassifySort$Order" "empties" "I",
  .lays "ClassifySort$Order" "ClassifySort$Order" "asked" "I",
  .lays "ClassifySortModel" "ClassifySortModel" "thrown" "I",
  .lays "ClassifySortModel" "ClassifySortModel" "classes" "I",
  .lays "ClassifySortModel" "ClassifySortModel" "things" "I",
  .lays "ClassifySortModel" "ClassifySortModel" "axioms" "I",
  .lays "ClassifySortModel" "ClassifySortModel" "fuel" "I",
  .lays "ClassifySortModel" "ClassifySortModel" "questions" "I",
  .lays "ClassifySortModel" "ClassifySortModel" "sorted" "Z",
  .laysFinal "ClassifySortModel" "ClassifySortModel" "left" "[I",
  .laysFinal "ClassifySortModel" "ClassifySortModel" "other" "[I",
  .laysFinal "ClassifySortModel" "ClassifySortModel" "right" "[I",
  .laysFinal "ClassifySortModel" "ClassifySortModel" "there" "[Z",
  .laysFinal "ClassifySortModel" "ClassifySortModel" "member" "[Z",
  .laysFinal "ClassifySortModel" "ClassifySortModel" "state" "[I",
  .laysFinal "ClassifySortModel" "ClassifySortModel" "before" "[I",
  .laysFinal "ClassifySortModel" "ClassifySortModel" "placed" "[Z",
  .laysFinal "ClassifySortModel" "ClassifySortModel" "looked" "[Z",
  .laysFinal "ClassifySortModel" "ClassifySortModel" "fact" "[Z",
  .laysFinal "ClassifySortModel" "ClassifySortModel" "maker" "[I",
  .laysFinal "ClassifySortModel" "ClassifySortModel" "fired" "[I",
  .lays "ClassifySortModel" "ClassifySortModel" "firedCount" "I",
  .laysFinal "ClassifySortModel" "ClassifySortModel" "needed" "[Z",
  .laysFinal "ClassifySortModel" "ClassifySortModel" "module" "[Z",
  .lays "ClassifySortModel" "ClassifySortModel" "asked" "I",
  .fieldLink "ClassifySort" 45 "ClassifySort" "classes" "I",
  .fieldLink "ClassifySort" 28 "ClassifySort" "knowledge" "LClassifySort$Knowledge;",
  .fieldLink "ClassifySort$Knowledge" 9 "ClassifySort$Knowledge" "above" "[I",
  .code y_X_bit prog_1_method_24_code 1 (some .int),
  .initialized "ClassifySort",
  .static y_X_bit,
  .fieldLink "ClassifySort$Knowledge" 15 "ClassifySort$Knowledge" "below" "[I",
  .methodLink "ClassifySort" 74 y_X_bit,
  .code y_X_has prog_1_method_25_code 2 (some .boolean),
  .static y_X_has,
  .code y_XK_tellYes prog_3_method_11_code 6 none,
  .initialized "ClassifySort$Knowledge",
  .methodLink "ClassifySort$Knowledge" 28 y_XK_tellYes,
  .instanceMethod y_XK_tellYes,
  .selects "ClassifySort$Knowledge" y_XK_tellYes y_XK_tellYes,
  .fieldLink "ClassifySort$Knowledge" 18 "ClassifySort$Knowledge" "notAbove" "[I",
  .code y_XK_union prog_3_method_18_code 4 (some .int),
  .methodLink "ClassifySort$Knowledge" 39 y_XK_union,
  .static y_XK_union,
  .fieldLink "ClassifySort$Knowledge" 21 "ClassifySort$Knowledge" "undecided" "[I",
  .code y_XK_close prog_3_method_12_code 3 none,
  .methodLink "ClassifySort$Knowledge" 32 y_XK_close,
  .instanceMethod y_XK_close,
  .selects "ClassifySort$Knowledge" y_XK_close y_XK_close,
  .code y_XK_addClass prog_3_method_2_code 2 none,
  .methodLink "ClassifySort" 59 y_XK_addClass,
  .instanceMethod y_XK_addClass,
  .selects "ClassifySort$Knowledge" y_XK_addClass y_XK_addClass,
  .fieldLink "ClassifySort" 55 "ClassifySort" "sorted" "Z",
  .fieldLink "ClassifySort" 49 "ClassifySort" "things" "I",
  .code y_X_isClass prog_1_method_19_code 2 (some .boolean),
  .methodLink "ClassifySort" 63 y_X_isClass,
  .instanceMethod y_X_isClass,
  .selects "ClassifySort" y_X_isClass y_X_isClass,
  .code y_X_isGoal prog_1_method_21_code 2 (some .boolean),
  .methodLink "ClassifySort" 67 y_X_isGoal,
  .instanceMethod y_X_isGoal,
  .selects "ClassifySort" y_X_isGoal y_X_isGoal,
  .fieldLink "ClassifySort" 12 "ClassifySort" "axioms" "LClassifySort$Axioms;",
  .fieldLink "ClassifySort$Axioms" 18 "ClassifySort$Axioms" "made" "I",
  .code y_XA_isFull prog_2_method_2_code 1 (some .boolean),
  .initialized "ClassifySort$Axioms",
  .methodLink "ClassifySort" 70 y_XA_isFull,
  .instanceMethod y_XA_isFull,
  .selects "ClassifySort$Axioms" y_XA_isFull y_XA_isFull,
  .code y_X_slot prog_1_method_23_code 1 (some .int),
  .methodLink "ClassifySort" 78 y_X_slot,
  .static y_X_slot,
  .methodLink "ClassifySort$Axioms" 29 y_XA_isFull,
  .fieldLink "ClassifySort$Axioms" 9 "ClassifySort$Axioms" "lefts" "[I",
  .fieldLink "ClassifySort$Axioms" 15 "ClassifySort$Axioms" "rights" "[I",
  .fieldLink "ClassifySort$Axioms" 22 "ClassifySort$Axioms" "there" "I",
  .code y_XA_add prog_2_method_7_code 3 (some .int),
  .methodLink "ClassifySort" 81 y_XA_add,
  .instanceMethod y_XA_add,
  .selects "ClassifySort$Axioms" y_XA_add y_XA_add,
  .code y_XA_leftOf prog_2_method_5_code 2 (some .int),
  .methodLink "ClassifySort$Axioms" 25 y_XA_leftOf,
  .instanceMethod y_XA_leftOf,
  .selects "ClassifySort$Axioms" y_XA_leftOf y_XA_leftOf,
  .code y_XA_touchedBy prog_2_method_10_code 6 (some .int),
  .methodLink "ClassifySort" 85 y_XA_touchedBy,
  .instanceMethod y_XA_touchedBy,
  .selects "ClassifySort$Axioms" y_XA_touchedBy y_XA_touchedBy,
  .code y_XK_forgetNo prog_3_method_13_code 3 none,
  .methodLink "ClassifySort" 88 y_XK_forgetNo,
  .instanceMethod y_XK_forgetNo,
  .selects "ClassifySort$Knowledge" y_XK_forgetNo y_XK_forgetNo,
  .methodLink "ClassifySort" 182 y_XA_leftOf,
  .constant "java/lang/Integer" 265 (1431655765 : Int32),
  .constant "java/lang/Integer" 266 (858993459 : Int32),
  .constant "java/lang/Integer" 267 (252645135 : Int32),
  .code y_JI_bitCount prog_8_method_49_code 1 (some .int),
  .initialized "java/lang/Integer",
  .methodLink "ClassifySort" 152 y_JI_bitCount,
  .static y_JI_bitCount,
  .constant "java/lang/Integer" 264 (65536 : Int32),
  .code y_JI_numberOfTrailingZeros prog_8_method_48_code 2 (some .int),
  .methodLink "ClassifySort" 185 y_JI_numberOfTrailingZeros,
  .static y_JI_numberOfTrailingZeros,
  .code y_XA_rightOf prog_2_method_6_code 2 (some .int),
  .methodLink "ClassifySort" 188 y_XA_rightOf,
  .instanceMethod y_XA_rightOf,
  .selects "ClassifySort$Axioms" y_XA_rightOf y_XA_rightOf,
  .methodLink "ClassifySort" 191 y_XK_tellYes,
  .methodLink "ClassifySort" 195 y_XK_close,
  .code y_X_tellAxioms prog_1_method_22_code 3 none,
  .methodLink "ClassifySort" 91 y_X_tellAxioms,
  .instanceMethod y_X_tellAxioms,
  .selects "ClassifySort" y_X_tellAxioms y_X_tellAxioms,
  .code y_XA_isThere prog_2_method_3_code 2 (some .boolean),
  .methodLink "ClassifySort" 94 y_XA_isThere,
  .instanceMethod y_XA_isThere,
  .selects "ClassifySort$Axioms" y_XA_isThere y_XA_isThere,
  .methodLink "ClassifySort$Knowledge" 43 y_JI_bitCount,
  .code y_XK_knownPairs prog_3_method_16_code 4 (some .int),
  .methodLink "ClassifySort" 97 y_XK_knownPairs,
  .instanceMethod y_XK_knownPairs,
  .selects "ClassifySort$Knowledge" y_XK_knownPairs y_XK_knownPairs,
  .methodLink "ClassifySort$Axioms" 33 y_XA_isThere,
  .code y_XA_drop prog_2_method_8_code 2 none,
  .methodLink "ClassifySort" 100 y_XA_drop,
  .instanceMethod y_XA_drop,
  .selects "ClassifySort$Axioms" y_XA_drop y_XA_drop,
  .code y_XK_forgetYes prog_3_method_14_code 3 none,
  .methodLink "ClassifySort" 103 y_XK_forgetYes,
  .instanceMethod y_XK_forgetYes,
  .selects "ClassifySort$Knowledge" y_XK_forgetYes y_XK_forgetYes,
  .code y_XK_openPairs prog_3_method_17_code 4 (some .int),
  .methodLink "ClassifySort" 106 y_XK_openPairs,
  .instanceMethod y_XK_openPairs,
  .selects "ClassifySort$Knowledge" y_XK_openPairs y_XK_openPairs,
  .fieldLink "ClassifySort" 21 "ClassifySort" "reasoner" "LClassifySort$Reasoner;",
  .methodLink "ClassifySort$Reasoner" 29 Lib.Math.min.name,
  .static Lib.Math.min.name,
  .initialized "java/lang/Math",
  .code Lib.Math.min.name Lib.Math.min.code 2 (some .int),
  .methodLink "ClassifySort$Reasoner" 35 Lib.Math.max.name,
  .static Lib.Math.max.name,
  .code Lib.Math.max.name Lib.Math.max.code 2 (some .int),
  .fieldLink "ClassifySort$Reasoner" 15 "ClassifySort$Reasoner" "limit" "I",
  .code y_XR_fillUp prog_5_method_2_code 2 none,
  .initialized "ClassifySort$Reasoner",
  .methodLink "ClassifySort" 109 y_XR_fillUp,
  .instanceMethod y_XR_fillUp,
  .selects "ClassifySort$Reasoner" y_XR_fillUp y_XR_fillUp,
  .code y_XK_forgetOpen prog_3_method_15_code 2 none,
  .methodLink "ClassifySort" 112 y_XK_forgetOpen,
  .instanceMethod y_XK_forgetOpen,
  .selects "ClassifySort$Knowledge" y_XK_forgetOpen y_XK_forgetOpen,
  .code y_XK_of prog_3_method_3_code 3 (some .int),
  .methodLink "ClassifySort" 115 y_XK_of,
  .instanceMethod y_XK_of,
  .selects "ClassifySort$Knowledge" y_XK_of y_XK_of,
  .fieldLink "ClassifySort$Reasoner" 22 "ClassifySort$Reasoner" "facts" "I",
  .fieldLink "ClassifySort$Reasoner" 19 "ClassifySort$Reasoner" "steps" "I",
  .fieldLink "ClassifySort$Reasoner" 25 "ClassifySort$Reasoner" "axioms" "LClassifySort$Axioms;",
  .code y_XA_firstThatFires prog_2_method_9_code 4 (some .int),
  .methodLink "ClassifySort$Reasoner" 42 y_XA_firstThatFires,
  .instanceMethod y_XA_firstThatFires,
  .selects "ClassifySort$Axioms" y_XA_firstThatFires y_XA_firstThatFires,
  .fieldLink "ClassifySort$Reasoner" 9 "ClassifySort$Reasoner" "fired" "[I",
  .methodLink "ClassifySort$Reasoner" 47 y_XA_rightOf,
  .code y_XR_decide prog_5_method_5_code 6 (some .int),
  .methodLink "ClassifySort" 118 y_XR_decide,
  .instanceMethod y_XR_decide,
  .selects "ClassifySort$Reasoner" y_XR_decide y_XR_decide,
  .fieldLink "ClassifySort" 37 "ClassifySort" "order" "LClassifySort$Order;",
  .fieldLink "ClassifySort$Order" 9 "ClassifySort$Order" "placed" "I",
  .fieldLink "ClassifySort$Order" 15 "ClassifySort$Order" "empties" "I",
  .fieldLink "ClassifySort$Order" 18 "ClassifySort$Order" "asked" "I",
  .fieldLink "ClassifySort$Order" 21 "ClassifySort$Order" "knowledge" "LClassifySort$Knowledge;",
  .methodLink "ClassifySort$Order" 48 y_XK_of,
  .fieldLink "ClassifySort$Order" 25 "ClassifySort$Order" "reasoner" "LClassifySort$Reasoner;",
  .methodLink "ClassifySort$Order" 53 y_XR_decide,
  .code y_XK_learn prog_3_method_10_code 4 none,
  .methodLink "ClassifySort$Order" 58 y_XK_learn,
  .instanceMethod y_XK_learn,
  .selects "ClassifySort$Knowledge" y_XK_learn y_XK_learn,
  .code y_XO_answer prog_4_method_6_code 3 (some .int),
  .initialized "ClassifySort$Order",
  .methodLink "ClassifySort$Order" 33 y_XO_answer,
  .instanceMethod y_XO_answer,
  .selects "ClassifySort$Order" y_XO_answer y_XO_answer,
  .code y_XK_allAbove prog_3_method_4_code 2 (some .int),
  .methodLink "ClassifySort$Order" 68 y_XK_allAbove,
  .instanceMethod y_XK_allAbove,
  .selects "ClassifySort$Knowledge" y_XK_allAbove y_XK_allAbove,
  .code y_XK_strictlyAbove prog_3_method_6_code 2 (some .int),
  .methodLink "ClassifySort$Order" 71 y_XK_strictlyAbove,
  .instanceMethod y_XK_strictlyAbove,
  .selects "ClassifySort$Knowledge" y_XK_strictlyAbove y_XK_strictlyAbove,
  .code y_XO_nextDown prog_4_method_9_code 5 (some .int),
  .methodLink "ClassifySort$Order" 62 y_XO_nextDown,
  .instanceMethod y_XO_nextDown,
  .selects "ClassifySort$Order" y_XO_nextDown y_XO_nextDown,
  .code y_XO_searchDown prog_4_method_7_code 5 none,
  .methodLink "ClassifySort$Order" 41 y_XO_searchDown,
  .instanceMethod y_XO_searchDown,
  .selects "ClassifySort$Order" y_XO_searchDown y_XO_searchDown,
  .code y_XK_allBelow prog_3_method_5_code 2 (some .int),
  .methodLink "ClassifySort$Order" 74 y_XK_allBelow,
  .instanceMethod y_XK_allBelow,
  .selects "ClassifySort$Knowledge" y_XK_allBelow y_XK_allBelow,
  .code y_XK_strictlyBelow prog_3_method_7_code 2 (some .int),
  .methodLink "ClassifySort$Order" 77 y_XK_strictlyBelow,
  .instanceMethod y_XK_strictlyBelow,
  .selects "ClassifySort$Knowledge" y_XK_strictlyBelow y_XK_strictlyBelow,
  .code y_XO_nextUp prog_4_method_10_code 6 (some .int),
  .methodLink "ClassifySort$Order" 65 y_XO_nextUp,
  .instanceMethod y_XO_nextUp,
  .selects "ClassifySort$Order" y_XO_nextUp y_XO_nextUp,
  .code y_XO_searchUp prog_4_method_8_code 5 none,
  .methodLink "ClassifySort$Order" 45 y_XO_searchUp,
  .instanceMethod y_XO_searchUp,
  .selects "ClassifySort$Order" y_XO_searchUp y_XO_searchUp,
  .code y_XO_sort prog_4_method_5_code 3 (some .int),
  .methodLink "ClassifySort" 121 y_XO_sort,
  .instanceMethod y_XO_sort,
  .selects "ClassifySort$Order" y_XO_sort y_XO_sort,
  .fieldLink "ClassifySort" 52 "ClassifySort" "questions" "I",
  .code y_XO_isEmptyClass prog_4_method_4_code 2 (some .boolean),
  .methodLink "ClassifySort" 124 y_XO_isEmptyClass,
  .instanceMethod y_XO_isEmptyClass,
  .selects "ClassifySort$Order" y_XO_isEmptyClass y_XO_isEmptyClass,
  .code y_XK_sameAs prog_3_method_8_code 2 (some .int),
  .methodLink "ClassifySort$Order" 86 y_XK_sameAs,
  .instanceMethod y_XK_sameAs,
  .selects "ClassifySort$Knowledge" y_XK_sameAs y_XK_sameAs,
  .code y_XO_firstOfSame prog_4_method_15_code 4 (some .int),
  .methodLink "ClassifySort" 134 y_XO_firstOfSame,
  .instanceMethod y_XO_firstOfSame,
  .selects "ClassifySort$Order" y_XO_firstOfSame y_XO_firstOfSame,
  .methodLink "ClassifySort" 160 y_X_has,
  .code y_X_pick prog_1_method_26_code 4 (some .int),
  .methodLink "ClassifySort" 137 y_X_pick,
  .static y_X_pick,
  .code y_XO_directlyAbove prog_4_method_11_code 5 (some .int),
  .methodLink "ClassifySort" 131 y_XO_directlyAbove,
  .instanceMethod y_XO_directlyAbove,
  .selects "ClassifySort$Order" y_XO_directlyAbove y_XO_directlyAbove,
  .code y_XO_directlyBelow prog_4_method_12_code 5 (some .int),
  .methodLink "ClassifySort$Order" 83 y_XO_directlyBelow,
  .instanceMethod y_XO_directlyBelow,
  .selects "ClassifySort$Order" y_XO_directlyBelow y_XO_directlyBelow,
  .code y_XO_lowestAmong prog_4_method_14_code 4 (some .int),
  .methodLink "ClassifySort$Order" 80 y_XO_lowestAmong,
  .instanceMethod y_XO_lowestAmong,
  .selects "ClassifySort$Order" y_XO_lowestAmong y_XO_lowestAmong,
  .code y_XO_lowest prog_4_method_13_code 1 (some .int),
  .methodLink "ClassifySort" 127 y_XO_lowest,
  .instanceMethod y_XO_lowest,
  .selects "ClassifySort$Order" y_XO_lowest y_XO_lowest,
  .methodLink "ClassifySort" 140 y_XO_directlyBelow,
  .methodLink "ClassifySort" 143 y_XK_sameAs,
  .code y_XO_emptyClasses prog_4_method_3_code 1 (some .int),
  .methodLink "ClassifySort" 146 y_XO_emptyClasses,
  .instanceMethod y_XO_emptyClasses,
  .selects "ClassifySort$Order" y_XO_emptyClasses y_XO_emptyClasses,
  .code y_XK_openOf prog_3_method_9_code 2 (some .int),
  .methodLink "ClassifySort" 149 y_XK_openOf,
  .instanceMethod y_XK_openOf,
  .selects "ClassifySort$Knowledge" y_XK_openOf y_XK_openOf,
  .code y_X_isThing prog_1_method_20_code 2 (some .boolean),
  .methodLink "ClassifySort" 157 y_X_isThing,
  .instanceMethod y_X_isThing,
  .selects "ClassifySort" y_X_isThing y_X_isThing,
  .fieldLink "ClassifySort" 41 "ClassifySort" "toldClasses" "[I",
  .code y_XR_facts prog_5_method_3_code 1 (some .int),
  .methodLink "ClassifySort" 164 y_XR_facts,
  .instanceMethod y_XR_facts,
  .selects "ClassifySort$Reasoner" y_XR_facts y_XR_facts,
  .methodLink "ClassifySort" 167 y_XO_lowestAmong,
  .methodLink "ClassifySort$Reasoner" 54 y_XA_leftOf,
  .code y_XR_neededSteps prog_5_method_6_code 4 (some .int),
  .methodLink "ClassifySort" 170 y_XR_neededSteps,
  .instanceMethod y_XR_neededSteps,
  .selects "ClassifySort$Reasoner" y_XR_neededSteps y_XR_neededSteps,
  .code y_XR_firedAt prog_5_method_4_code 2 (some .int),
  .methodLink "ClassifySort" 173 y_XR_firedAt,
  .instanceMethod y_XR_firedAt,
  .selects "ClassifySort$Reasoner" y_XR_firedAt y_XR_firedAt,
  .code y_XA_thereNow prog_2_method_4_code 1 (some .int),
  .methodLink "ClassifySort" 176 y_XA_thereNow,
  .instanceMethod y_XA_thereNow,
  .selects "ClassifySort$Axioms" y_XA_thereNow y_XA_thereNow,
  .code y_XO_placedClasses prog_4_method_2_code 1 (some .int),
  .methodLink "ClassifySort" 179 y_XO_placedClasses,
  .instanceMethod y_XO_placedClasses,
  .selects "ClassifySort$Order" y_XO_placedClasses y_XO_placedClasses,
  .fieldLink "ClassifySortModel" 60 "ClassifySortModel" "classes" "I",
  .fieldLink "ClassifySortModel" 97 "ClassifySortModel" "sorted" "Z",
  .fieldLink "ClassifySortModel" 67 "ClassifySortModel" "axioms" "I",
  .fieldLink "ClassifySortModel" 23 "ClassifySortModel" "there" "[Z",
  .fieldLink "ClassifySortModel" 13 "ClassifySortModel" "left" "[I",
  .fieldLink "ClassifySortModel" 17 "ClassifySortModel" "other" "[I",
  .fieldLink "ClassifySortModel" 20 "ClassifySortModel" "right" "[I",
  .code y_M_isItself prog_7_method_6_code 5 (some .boolean),
  .initialized "ClassifySortModel",
  .methodLink "ClassifySortModel" 70 y_M_isItself,
  .instanceMethod y_M_isItself,
  .selects "ClassifySortModel" y_M_isItself y_M_isItself,
  .fieldLink "ClassifySortModel" 30 "ClassifySortModel" "state" "[I",
  .code y_M_tellItself prog_7_method_7_code 3 none,
  .methodLink "ClassifySortModel" 83 y_M_tellItself,
  .instanceMethod y_M_tellItself,
  .selects "ClassifySortModel" y_M_tellItself y_M_tellItself,
  .code y_M_isHere prog_7_method_8_code 2 (some .boolean),
  .methodLink "ClassifySortModel" 74 y_M_isHere,
  .instanceMethod y_M_isHere,
  .selects "ClassifySortModel" y_M_isHere y_M_isHere,
  .code y_M_below prog_7_method_5_code 3 (some .boolean),
  .methodLink "ClassifySortModel" 77 y_M_below,
  .instanceMethod y_M_below,
  .selects "ClassifySortModel" y_M_below y_M_below,
  .code y_M_spreadNo prog_7_method_10_code 7 (some .boolean),
  .methodLink "ClassifySortModel" 80 y_M_spreadNo,
  .instanceMethod y_M_spreadNo,
  .selects "ClassifySortModel" y_M_spreadNo y_M_spreadNo,
  .code y_M_closeOnce prog_7_method_9_code 5 (some .boolean),
  .methodLink "ClassifySortModel" 86 y_M_closeOnce,
  .instanceMethod y_M_closeOnce,
  .selects "ClassifySortModel" y_M_closeOnce y_M_closeOnce,
  .code y_M_close prog_7_method_11_code 2 none,
  .methodLink "ClassifySortModel" 101 y_M_close,
  .instanceMethod y_M_close,
  .selects "ClassifySortModel" y_M_close y_M_close,
  .fieldLink "ClassifySortModel" 104 "ClassifySortModel" "things" "I",
  .code y_M_isClass prog_7_method_3_code 2 (some .boolean),
  .methodLink "ClassifySortModel" 63 y_M_isClass,
  .instanceMethod y_M_isClass,
  .selects "ClassifySortModel" y_M_isClass y_M_isClass,
  .fieldLink "ClassifySortModel" 54 "ClassifySortModel" "module" "[Z",
  .code y_M_isTouched prog_7_method_17_code 7 (some .boolean),
  .methodLink "ClassifySortModel" 107 y_M_isTouched,
  .instanceMethod y_M_isTouched,
  .selects "ClassifySortModel" y_M_isTouched y_M_isTouched,
  .code y_M_forget prog_7_method_18_code 6 none,
  .methodLink "ClassifySortModel" 110 y_M_forget,
  .instanceMethod y_M_forget,
  .selects "ClassifySortModel" y_M_forget y_M_forget,
  .fieldLink "ClassifySortModel" 33 "ClassifySortModel" "before" "[I",
  .code y_M_openPairs prog_7_method_21_code 3 (some .int),
  .methodLink "ClassifySortModel" 114 y_M_openPairs,
  .instanceMethod y_M_openPairs,
  .selects "ClassifySortModel" y_M_openPairs y_M_openPairs,
  .fieldLink "ClassifySortModel" 7 "ClassifySortModel" "fuel" "I",
  .code y_M_goalOf prog_7_method_4_code 2 (some .int),
  .methodLink "ClassifySortModel" 118 y_M_goalOf,
  .instanceMethod y_M_goalOf,
  .selects "ClassifySortModel" y_M_goalOf y_M_goalOf,
  .fieldLink "ClassifySortModel" 42 "ClassifySortModel" "fact" "[Z",
  .fieldLink "ClassifySortModel" 90 "ClassifySortModel" "firedCount" "I",
  .fieldLink "ClassifySortModel" 45 "ClassifySortModel" "maker" "[I",
  .fieldLink "ClassifySortModel" 48 "ClassifySortModel" "fired" "[I",
  .code y_M_reason prog_7_method_12_code 5 (some .int),
  .methodLink "ClassifySortModel" 93 y_M_reason,
  .instanceMethod y_M_reason,
  .selects "ClassifySortModel" y_M_reason y_M_reason,
  .code y_M_reasonAlone prog_7_method_13_code 4 (some .int),
  .methodLink "ClassifySortModel" 121 y_M_reasonAlone,
  .instanceMethod y_M_reasonAlone,
  .selects "ClassifySortModel" y_M_reasonAlone y_M_reasonAlone,
  .fieldLink "ClassifySortModel" 125 "ClassifySortModel" "asked" "I",
  .fieldLink "ClassifySortModel" 36 "ClassifySortModel" "placed" "[Z",
  .code y_M_look prog_7_method_25_code 3 (some .boolean),
  .methodLink "ClassifySortModel" 138 y_M_look,
  .instanceMethod y_M_look,
  .selects "ClassifySortModel" y_M_look y_M_look,
  .fieldLink "ClassifySortModel" 39 "ClassifySortModel" "looked" "[Z",
  .code y_M_isUnder prog_7_method_26_code 3 (some .boolean),
  .methodLink "ClassifySortModel" 128 y_M_isUnder,
  .instanceMethod y_M_isUnder,
  .selects "ClassifySortModel" y_M_isUnder y_M_isUnder,
  .code y_M_isDirect prog_7_method_27_code 5 (some .boolean),
  .methodLink "ClassifySortModel" 131 y_M_isDirect,
  .instanceMethod y_M_isDirect,
  .selects "ClassifySortModel" y_M_isDirect y_M_isDirect,
  .code y_M_nextFor prog_7_method_28_code 7 (some .int),
  .methodLink "ClassifySortModel" 134 y_M_nextFor,
  .instanceMethod y_M_nextFor,
  .selects "ClassifySortModel" y_M_nextFor y_M_nextFor,
  .code y_M_go prog_7_method_29_code 5 none,
  .methodLink "ClassifySortModel" 141 y_M_go,
  .instanceMethod y_M_go,
  .selects "ClassifySortModel" y_M_go y_M_go,
  .fieldLink "ClassifySortModel" 145 "ClassifySortModel" "questions" "I",
  .code y_M_isSecond prog_7_method_31_code 4 (some .boolean),
  .methodLink "ClassifySortModel" 148 y_M_isSecond,
  .instanceMethod y_M_isSecond,
  .selects "ClassifySortModel" y_M_isSecond y_M_isSecond,
  .code y_M_hasBelow prog_7_method_32_code 4 (some .boolean),
  .methodLink "ClassifySortModel" 151 y_M_hasBelow,
  .instanceMethod y_M_hasBelow,
  .selects "ClassifySortModel" y_M_hasBelow y_M_hasBelow,
  .fieldLink "ClassifySortModel" 27 "ClassifySortModel" "member" "[Z",
  .code y_M_reasonThing prog_7_method_14_code 4 (some .int),
  .methodLink "ClassifySortModel" 154 y_M_reasonThing,
  .instanceMethod y_M_reasonThing,
  .selects "ClassifySortModel" y_M_reasonThing y_M_reasonThing,
  .code y_M_isIn prog_7_method_39_code 3 (some .boolean),
  .methodLink "ClassifySortModel" 157 y_M_isIn,
  .instanceMethod y_M_isIn,
  .selects "ClassifySortModel" y_M_isIn y_M_isIn,
  .fieldLink "ClassifySortModel" 51 "ClassifySortModel" "needed" "[Z",
  .methodLink "ClassifySort$Axioms" 3 Lib.objectInit,
  .instanceMethod Lib.objectInit,
  .code Lib.objectInit ⟨#[0xb1]⟩ 1 none,
  .arrayClass .int,
  .methodLink "ClassifySort$Reasoner" 3 Lib.objectInit,
  .methodLink "ClassifySort$Knowledge" 3 Lib.objectInit,
  .methodLink "ClassifySort$Order" 3 Lib.objectInit,
  .methodLink "ClassifySort" 3 Lib.objectInit,
  .classLink "ClassifySort" 9 "ClassifySort$Axioms",
  .instantiable "ClassifySort$Axioms" 4,
  .code y_XA_init prog_2_method_1_code 1 none,
  .instanceMethod y_XA_init,
  .classLink "ClassifySort" 16 "ClassifySort$Reasoner",
  .instantiable "ClassifySort$Reasoner" 5,
  .code y_XR_init prog_5_method_1_code 2 none,
  .methodLink "ClassifySort" 18 y_XR_init,
  .instanceMethod y_XR_init,
  .classLink "ClassifySort" 25 "ClassifySort$Knowledge",
  .instantiable "ClassifySort$Knowledge" 4,
  .code y_XK_init prog_3_method_1_code 1 none,
  .methodLink "ClassifySort" 27 y_XK_init,
  .instanceMethod y_XK_init,
  .classLink "ClassifySort" 32 "ClassifySort$Order",
  .instantiable "ClassifySort$Order" 5,
  .code y_XO_init prog_4_method_1_code 3 none,
  .methodLink "ClassifySort" 34 y_XO_init,
  .instanceMethod y_XO_init,
  .methodLink "ClassifySortModel" 1 Lib.objectInit,
  .arrayClass .boolean,
  .code y_X_class0 prog_1_method_2_code 1 (some .int),
  .methodLink "ClassifySortLaw" 13 y_X_class0,
  .instanceMethod y_X_class0,
  .selects "ClassifySort" y_X_class0 y_X_class0,
  .code y_M_class0 prog_7_method_15_code 1 (some .int),
  .methodLink "ClassifySortLaw" 17 y_M_class0,
  .instanceMethod y_M_class0,
  .selects "ClassifySortModel" y_M_class0 y_M_class0,
  .code y_X_thing prog_1_method_3_code 1 (some .int),
  .methodLink "ClassifySortLaw" 18 y_X_thing,
  .instanceMethod y_X_thing,
  .selects "ClassifySort" y_X_thing y_X_thing,
  .code y_M_thing prog_7_method_16_code 1 (some .int),
  .methodLink "ClassifySortLaw" 21 y_M_thing,
  .instanceMethod y_M_thing,
  .selects "ClassifySortModel" y_M_thing y_M_thing,
  .code y_X_axiom prog_1_method_4_code 6 (some .int),
  .methodLink "ClassifySortLaw" 22 y_X_axiom,
  .instanceMethod y_X_axiom,
  .selects "ClassifySort" y_X_axiom y_X_axiom,
  .code y_M_axiom prog_7_method_19_code 4 (some .int),
  .methodLink "ClassifySortLaw" 26 y_M_axiom,
  .instanceMethod y_M_axiom,
  .selects "ClassifySortModel" y_M_axiom y_M_axiom,
  .code y_X_remove prog_1_method_5_code 4 (some .int),
  .methodLink "ClassifySortLaw" 27 y_X_remove,
  .instanceMethod y_X_remove,
  .selects "ClassifySort" y_X_remove y_X_remove,
  .code y_M_remove prog_7_method_20_code 4 (some .int),
  .methodLink "ClassifySortLaw" 31 y_M_remove,
  .instanceMethod y_M_remove,
  .selects "ClassifySortModel" y_M_remove y_M_remove,
  .code y_X_fuel prog_1_method_6_code 3 (some .int),
  .methodLink "ClassifySortLaw" 32 y_X_fuel,
  .instanceMethod y_X_fuel,
  .selects "ClassifySort" y_X_fuel y_X_fuel,
  .code y_M_fuel prog_7_method_22_code 4 (some .int),
  .methodLink "ClassifySortLaw" 35 y_M_fuel,
  .instanceMethod y_M_fuel,
  .selects "ClassifySortModel" y_M_fuel y_M_fuel,
  .code y_X_known prog_1_method_7_code 3 (some .int),
  .methodLink "ClassifySortLaw" 36 y_X_known,
  .instanceMethod y_X_known,
  .selects "ClassifySort" y_X_known y_X_known,
  .code y_M_known prog_7_method_23_code 4 (some .int),
  .methodLink "ClassifySortLaw" 40 y_M_known,
  .instanceMethod y_M_known,
  .selects "ClassifySortModel" y_M_known y_M_known,
  .code y_X_ask prog_1_method_8_code 3 (some .int),
  .methodLink "ClassifySortLaw" 41 y_X_ask,
  .instanceMethod y_X_ask,
  .selects "ClassifySort" y_X_ask y_X_ask,
  .code y_M_ask prog_7_method_24_code 4 (some .int),
  .methodLink "ClassifySortLaw" 44 y_M_ask,
  .instanceMethod y_M_ask,
  .selects "ClassifySortModel" y_M_ask y_M_ask,
  .code y_X_run prog_1_method_9_code 2 (some .int),
  .methodLink "ClassifySortLaw" 45 y_X_run,
  .instanceMethod y_X_run,
  .selects "ClassifySort" y_X_run y_X_run,
  .code y_M_run prog_7_method_30_code 2 (some .int),
  .methodLink "ClassifySortLaw" 48 y_M_run,
  .instanceMethod y_M_run,
  .selects "ClassifySortModel" y_M_run y_M_run,
  .code y_X_parent prog_1_method_10_code 4 (some .int),
  .methodLink "ClassifySortLaw" 49 y_X_parent,
  .instanceMethod y_X_parent,
  .selects "ClassifySort" y_X_parent y_X_parent,
  .code y_M_parent prog_7_method_33_code 6 (some .int),
  .methodLink "ClassifySortLaw" 52 y_M_parent,
  .instanceMethod y_M_parent,
  .selects "ClassifySortModel" y_M_parent y_M_parent,
  .code y_X_child prog_1_method_11_code 4 (some .int),
  .methodLink "ClassifySortLaw" 53 y_X_child,
  .instanceMethod y_X_child,
  .selects "ClassifySort" y_X_child y_X_child,
  .code y_M_child prog_7_method_34_code 6 (some .int),
  .methodLink "ClassifySortLaw" 56 y_M_child,
  .instanceMethod y_M_child,
  .selects "ClassifySortModel" y_M_child y_M_child,
  .code y_X_equal prog_1_method_12_code 3 (some .int),
  .methodLink "ClassifySortLaw" 57 y_X_equal,
  .instanceMethod y_X_equal,
  .selects "ClassifySort" y_X_equal y_X_equal,
  .code y_M_equal prog_7_method_35_code 6 (some .int),
  .methodLink "ClassifySortLaw" 60 y_M_equal,
  .instanceMethod y_M_equal,
  .selects "ClassifySortModel" y_M_equal y_M_equal,
  .code y_X_empty prog_1_method_13_code 2 (some .int),
  .methodLink "ClassifySortLaw" 61 y_X_empty,
  .instanceMethod y_X_empty,
  .selects "ClassifySort" y_X_empty y_X_empty,
  .code y_M_empty prog_7_method_36_code 4 (some .int),
  .methodLink "ClassifySortLaw" 64 y_M_empty,
  .instanceMethod y_M_empty,
  .selects "ClassifySortModel" y_M_empty y_M_empty,
  .code y_X_open prog_1_method_14_code 6 (some .int),
  .methodLink "ClassifySortLaw" 65 y_X_open,
  .instanceMethod y_X_open,
  .selects "ClassifySort" y_X_open y_X_open,
  .code y_M_open prog_7_method_37_code 5 (some .int),
  .methodLink "ClassifySortLaw" 68 y_M_open,
  .instanceMethod y_M_open,
  .selects "ClassifySortModel" y_M_open y_M_open,
  .code y_X_put prog_1_method_15_code 3 (some .int),
  .methodLink "ClassifySortLaw" 69 y_X_put,
  .instanceMethod y_X_put,
  .selects "ClassifySort" y_X_put y_X_put,
  .code y_M_put prog_7_method_38_code 4 (some .int),
  .methodLink "ClassifySortLaw" 72 y_M_put,
  .instanceMethod y_M_put,
  .selects "ClassifySortModel" y_M_put y_M_put,
  .code y_X_type prog_1_method_16_code 3 (some .int),
  .methodLink "ClassifySortLaw" 73 y_X_type,
  .instanceMethod y_X_type,
  .selects "ClassifySort" y_X_type y_X_type,
  .code y_M_type prog_7_method_40_code 7 (some .int),
  .methodLink "ClassifySortLaw" 76 y_M_type,
  .instanceMethod y_M_type,
  .selects "ClassifySortModel" y_M_type y_M_type,
  .code y_X_trace prog_1_method_17_code 5 (some .int),
  .methodLink "ClassifySortLaw" 77 y_X_trace,
  .instanceMethod y_X_trace,
  .selects "ClassifySort" y_X_trace y_X_trace,
  .code y_M_trace prog_7_method_41_code 8 (some .int),
  .methodLink "ClassifySortLaw" 80 y_M_trace,
  .instanceMethod y_M_trace,
  .selects "ClassifySortModel" y_M_trace y_M_trace,
  .code y_X_count prog_1_method_18_code 2 (some .int),
  .methodLink "ClassifySortLaw" 81 y_X_count,
  .instanceMethod y_X_count,
  .selects "ClassifySort" y_X_count y_X_count,
  .code y_M_count prog_7_method_42_code 4 (some .int),
  .methodLink "ClassifySortLaw" 84 y_M_count,
  .instanceMethod y_M_count,
  .selects "ClassifySortModel" y_M_count y_M_count,
  .classLink "ClassifySortLaw" 7 "ClassifySort",
  .instantiable "ClassifySort" 9,
  .code y_X_init prog_1_method_1_code 1 none,
  .methodLink "ClassifySortLaw" 9 y_X_init,
  .instanceMethod y_X_init,
  .classLink "ClassifySortLaw" 10 "ClassifySortModel",
  .instantiable "ClassifySortModel" 23,
  .code y_M_init prog_7_method_1_code 2 none,
  .methodLink "ClassifySortLaw" 12 y_M_init,
  .instanceMethod y_M_init]
def NsG : jNt := [("ClassifySort$Knowledge", 24, y_X_bit, "ClassifySort"),
  ("ClassifySort$Knowledge", 35, y_X_has, "ClassifySort"),
  ("ClassifySort$Axioms", 41, y_X_bit, "ClassifySort"),
  ("ClassifySort$Reasoner", 38, y_X_bit, "ClassifySort"),
  ("ClassifySort$Axioms", 37, y_X_has, "ClassifySort"),
  ("ClassifySort$Order", 37, y_X_bit, "ClassifySort"),
  ("ClassifySort$Order", 29, y_X_has, "ClassifySort"),
  ("ClassifySort$Reasoner", 50, y_X_has, "ClassifySort"),
  ("ClassifySort", 11, y_XA_init, "ClassifySort")]
theorem ns_0 : (("ClassifySort$Knowledge", 24, y_X_bit, "ClassifySort") : String × Nat × MethodName × String) ∈ NsG := List.mem_of_getElem? (i := 0) rfl
theorem ns_1 : (("ClassifySort$Knowledge", 35, y_X_has, "ClassifySort") : String × Nat × MethodName × String) ∈ NsG := List.mem_of_getElem? (i := 1) rfl
theorem ns_2 : (("ClassifySort$Axioms", 41, y_X_bit, "ClassifySort") : String × Nat × MethodName × String) ∈ NsG := List.mem_of_getElem? (i := 2) rfl
theorem ns_3 : (("ClassifySort$Reasoner", 38, y_X_bit, "ClassifySort") : String × Nat × MethodName × String) ∈ NsG := List.mem_of_getElem? (i := 3) rfl
theorem ns_4 : (("ClassifySort$Axioms", 37, y_X_has, "ClassifySort") : String × Nat × MethodName × String) ∈ NsG := List.mem_of_getElem? (i := 4) rfl
theorem ns_5 : (("ClassifySort$Order", 37, y_X_bit, "ClassifySort") : String × Nat × MethodName × String) ∈ NsG := List.mem_of_getElem? (i := 5) rfl
theorem ns_6 : (("ClassifySort$Order", 29, y_X_has, "ClassifySort") : String × Nat × MethodName × String) ∈ NsG := List.mem_of_getElem? (i := 6) rfl
theorem ns_7 : (("ClassifySort$Reasoner", 50, y_X_has, "ClassifySort") : String × Nat × MethodName × String) ∈ NsG := List.mem_of_getElem? (i := 7) rfl
theorem ns_8 : (("ClassifySort", 11, y_XA_init, "ClassifySort") : String × Nat × MethodName × String) ∈ NsG := List.mem_of_getElem? (i := 8) rfl
theorem ts_good : ∀ w ∈ TsG, (w.onTables && w.keeps) = true ∨ ∃ ty, w = .arrayClass ty := fun w hw => good_of_word (List.all_eq_true.mp (by decide +kernel : TsG.all goodWord = true) w hw)
theorem ts_0 : Cond.fieldLink "ClassifySort" 45 "ClassifySort" "classes" "I" ∈ TsG := List.mem_of_getElem? (i := 50) rfl
theorem ts_1 : Cond.fieldLink "ClassifySort" 28 "ClassifySort" "knowledge" "LClassifySort$Knowledge;" ∈ TsG := List.mem_of_getElem? (i := 51) rfl
theorem ts_2 : Cond.fieldLink "ClassifySort$Knowledge" 9 "ClassifySort$Knowledge" "above" "[I" ∈ TsG := List.mem_of_getElem? (i := 52) rfl
theorem ts_3 : Cond.code y_X_bit prog_1_method_24_code 1 (some .int) ∈ TsG := List.mem_of_getElem? (i := 53) rfl
theorem ts_4 : Cond.initialized "ClassifySort" ∈ TsG := List.mem_of_getElem? (i := 54) rfl
theorem ts_5 : Cond.static y_X_bit ∈ TsG := List.mem_of_getElem? (i := 55) rfl
theorem ts_6 : Cond.fieldLink "ClassifySort$Knowledge" 15 "ClassifySort$Knowledge" "below" "[I" ∈ TsG := List.mem_of_getElem? (i := 56) rfl
theorem ts_7 : Cond.methodLink "ClassifySort" 74 y_X_bit ∈ TsG := List.mem_of_getElem? (i := 57) rfl
theorem ts_8 : Cond.code y_X_has prog_1_method_25_code 2 (some .boolean) ∈ TsG := List.mem_of_getElem? (i := 58) rfl
theorem ts_9 : Cond.static y_X_has ∈ TsG := List.mem_of_getElem? (i := 59) rfl
theorem ts_10 : Cond.code y_XK_tellYes prog_3_method_11_code 6 none ∈ TsG := List.mem_of_getElem? (i := 60) rfl
theorem ts_11 : Cond.initialized "ClassifySort$Knowledge" ∈ TsG := List.mem_of_getElem? (i := 61) rfl
theorem ts_12 : Cond.methodLink "ClassifySort$Knowledge" 28 y_XK_tellYes ∈ TsG := List.mem_of_getElem? (i := 62) rfl
theorem ts_13 : Cond.instanceMethod y_XK_tellYes ∈ TsG := List.mem_of_getElem? (i := 63) rfl
theorem ts_14 : Cond.selects "ClassifySort$Knowledge" y_XK_tellYes y_XK_tellYes ∈ TsG := List.mem_of_getElem? (i := 64) rfl
theorem ts_15 : Cond.fieldLink "ClassifySort$Knowledge" 18 "ClassifySort$Knowledge" "notAbove" "[I" ∈ TsG := List.mem_of_getElem? (i := 65) rfl
theorem ts_16 : Cond.code y_XK_union prog_3_method_18_code 4 (some .int) ∈ TsG := List.mem_of_getElem? (i := 66) rfl
theorem ts_17 : Cond.methodLink "ClassifySort$Knowledge" 39 y_XK_union ∈ TsG := List.mem_of_getElem? (i := 67) rfl
theorem ts_18 : Cond.static y_XK_union ∈ TsG := List.mem_of_getElem? (i := 68) rfl
theorem ts_19 : Cond.fieldLink "ClassifySort$Knowledge" 21 "ClassifySort$Knowledge" "undecided" "[I" ∈ TsG := List.mem_of_getElem? (i := 69) rfl
theorem ts_20 : Cond.code y_XK_close prog_3_method_12_code 3 none ∈ TsG := List.mem_of_getElem? (i := 70) rfl
theorem ts_21 : Cond.methodLink "ClassifySort$Knowledge" 32 y_XK_close ∈ TsG := List.mem_of_getElem? (i := 71) rfl
theorem ts_22 : Cond.instanceMethod y_XK_close ∈ TsG := List.mem_of_getElem? (i := 72) rfl
theorem ts_23 : Cond.selects "ClassifySort$Knowledge" y_XK_close y_XK_close ∈ TsG := List.mem_of_getElem? (i := 73) rfl
theorem ts_24 : Cond.code y_XK_addClass prog_3_method_2_code 2 none ∈ TsG := List.mem_of_getElem? (i := 74) rfl
theorem ts_25 : Cond.methodLink "ClassifySort" 59 y_XK_addClass ∈ TsG := List.mem_of_getElem? (i := 75) rfl
theorem ts_26 : Cond.instanceMethod y_XK_addClass ∈ TsG := List.mem_of_getElem? (i := 76) rfl
theorem ts_27 : Cond.selects "ClassifySort$Knowledge" y_XK_addClass y_XK_addClass ∈ TsG := List.mem_of_getElem? (i := 77) rfl
theorem ts_28 : Cond.fieldLink "ClassifySort" 55 "ClassifySort" "sorted" "Z" ∈ TsG := List.mem_of_getElem? (i := 78) rfl
theorem ts_29 : Cond.fieldLink "ClassifySort" 49 "ClassifySort" "things" "I" ∈ TsG := List.mem_of_getElem? (i := 79) rfl
theorem ts_30 : Cond.code y_X_isClass prog_1_method_19_code 2 (some .boolean) ∈ TsG := List.mem_of_getElem? (i := 80) rfl
theorem ts_31 : Cond.methodLink "ClassifySort" 63 y_X_isClass ∈ TsG := List.mem_of_getElem? (i := 81) rfl
theorem ts_32 : Cond.instanceMethod y_X_isClass ∈ TsG := List.mem_of_getElem? (i := 82) rfl
theorem ts_33 : Cond.selects "ClassifySort" y_X_isClass y_X_isClass ∈ TsG := List.mem_of_getElem? (i := 83) rfl
theorem ts_34 : Cond.code y_X_isGoal prog_1_method_21_code 2 (some .boolean) ∈ TsG := List.mem_of_getElem? (i := 84) rfl
theorem ts_35 : Cond.methodLink "ClassifySort" 67 y_X_isGoal ∈ TsG := List.mem_of_getElem? (i := 85) rfl
theorem ts_36 : Cond.instanceMethod y_X_isGoal ∈ TsG := List.mem_of_getElem? (i := 86) rfl
theorem ts_37 : Cond.selects "ClassifySort" y_X_isGoal y_X_isGoal ∈ TsG := List.mem_of_getElem? (i := 87) rfl
theorem ts_38 : Cond.fieldLink "ClassifySort" 12 "ClassifySort" "axioms" "LClassifySort$Axioms;" ∈ TsG := List.mem_of_getElem? (i := 88) rfl
theorem ts_39 : Cond.fieldLink "ClassifySort$Axioms" 18 "ClassifySort$Axioms" "made" "I" ∈ TsG := List.mem_of_getElem? (i := 89) rfl
theorem ts_40 : Cond.code y_XA_isFull prog_2_method_2_code 1 (some .boolean) ∈ TsG := List.mem_of_getElem? (i := 90) rfl
theorem ts_41 : Cond.initialized "ClassifySort$Axioms" ∈ TsG := List.mem_of_getElem? (i := 91) rfl
theorem ts_42 : Cond.methodLink "ClassifySort" 70 y_XA_isFull ∈ TsG := List.mem_of_getElem? (i := 92) rfl
theorem ts_43 : Cond.instanceMethod y_XA_isFull ∈ TsG := List.mem_of_getElem? (i := 93) rfl
theorem ts_44 : Cond.selects "ClassifySort$Axioms" y_XA_isFull y_XA_isFull ∈ TsG := List.mem_of_getElem? (i := 94) rfl
theorem ts_45 : Cond.code y_X_slot prog_1_method_23_code 1 (some .int) ∈ TsG := List.mem_of_getElem? (i := 95) rfl
theorem ts_46 : Cond.methodLink "ClassifySort" 78 y_X_slot ∈ TsG := List.mem_of_getElem? (i := 96) rfl
theorem ts_47 : Cond.static y_X_slot ∈ TsG := List.mem_of_getElem? (i := 97) rfl
theorem ts_48 : Cond.methodLink "ClassifySort$Axioms" 29 y_XA_isFull ∈ TsG := List.mem_of_getElem? (i := 98) rfl
theorem ts_49 : Cond.fieldLink "ClassifySort$Axioms" 9 "ClassifySort$Axioms" "lefts" "[I" ∈ TsG := List.mem_of_getElem? (i := 99) rfl
theorem ts_50 : Cond.fieldLink "ClassifySort$Axioms" 15 "ClassifySort$Axioms" "rights" "[I" ∈ TsG := List.mem_of_getElem? (i := 100) rfl
theorem ts_51 : Cond.fieldLink "ClassifySort$Axioms" 22 "ClassifySort$Axioms" "there" "I" ∈ TsG := List.mem_of_getElem? (i := 101) rfl
theorem ts_52 : Cond.code y_XA_add prog_2_method_7_code 3 (some .int) ∈ TsG := List.mem_of_getElem? (i := 102) rfl
theorem ts_53 : Cond.methodLink "ClassifySort" 81 y_XA_add ∈ TsG := List.mem_of_getElem? (i := 103) rfl
theorem ts_54 : Cond.instanceMethod y_XA_add ∈ TsG := List.mem_of_getElem? (i := 104) rfl
theorem ts_55 : Cond.selects "ClassifySort$Axioms" y_XA_add y_XA_add ∈ TsG := List.mem_of_getElem? (i := 105) rfl
theorem ts_56 : Cond.code y_XA_leftOf prog_2_method_5_code 2 (some .int) ∈ TsG := List.mem_of_getElem? (i := 106) rfl
theorem ts_57 : Cond.methodLink "ClassifySort$Axioms" 25 y_XA_leftOf ∈ TsG := List.mem_of_getElem? (i := 107) rfl
theorem ts_58 : Cond.instanceMethod y_XA_leftOf ∈ TsG := List.mem_of_getElem? (i := 108) rfl
theorem ts_59 : Cond.selects "ClassifySort$Axioms" y_XA_leftOf y_XA_leftOf ∈ TsG := List.mem_of_getElem? (i := 109) rfl
theorem ts_60 : Cond.code y_XA_touchedBy prog_2_method_10_code 6 (some .int) ∈ TsG := List.mem_of_getElem? (i := 110) rfl
theorem ts_61 : Cond.methodLink "ClassifySort" 85 y_XA_touchedBy ∈ TsG := List.mem_of_getElem? (i := 111) rfl
theorem ts_62 : Cond.instanceMethod y_XA_touchedBy ∈ TsG := List.mem_of_getElem? (i := 112) rfl
theorem ts_63 : Cond.selects "ClassifySort$Axioms" y_XA_touchedBy y_XA_touchedBy ∈ TsG := List.mem_of_getElem? (i := 113) rfl
theorem ts_64 : Cond.code y_XK_forgetNo prog_3_method_13_code 3 none ∈ TsG := List.mem_of_getElem? (i := 114) rfl
theorem ts_65 : Cond.methodLink "ClassifySort" 88 y_XK_forgetNo ∈ TsG := List.mem_of_getElem? (i := 115) rfl
theorem ts_66 : Cond.instanceMethod y_XK_forgetNo ∈ TsG := List.mem_of_getElem? (i := 116) rfl
theorem ts_67 : Cond.selects "ClassifySort$Knowledge" y_XK_forgetNo y_XK_forgetNo ∈ TsG := List.mem_of_getElem? (i := 117) rfl
theorem ts_68 : Cond.methodLink "ClassifySort" 182 y_XA_leftOf ∈ TsG := List.mem_of_getElem? (i := 118) rfl
theorem ts_69 : Cond.constant "java/lang/Integer" 265 (1431655765 : Int32) ∈ TsG := List.mem_of_getElem? (i := 119) rfl
theorem ts_70 : Cond.constant "java/lang/Integer" 266 (858993459 : Int32) ∈ TsG := List.mem_of_getElem? (i := 120) rfl
theorem ts_71 : Cond.constant "java/lang/Integer" 267 (252645135 : Int32) ∈ TsG := List.mem_of_getElem? (i := 121) rfl
theorem ts_72 : Cond.code y_JI_bitCount prog_8_method_49_code 1 (some .int) ∈ TsG := List.mem_of_getElem? (i := 122) rfl
theorem ts_73 : Cond.initialized "java/lang/Integer" ∈ TsG := List.mem_of_getElem? (i := 123) rfl
theorem ts_74 : Cond.methodLink "ClassifySort" 152 y_JI_bitCount ∈ TsG := List.mem_of_getElem? (i := 124) rfl
theorem ts_75 : Cond.static y_JI_bitCount ∈ TsG := List.mem_of_getElem? (i := 125) rfl
theorem ts_76 : Cond.constant "java/lang/Integer" 264 (65536 : Int32) ∈ TsG := List.mem_of_getElem? (i := 126) rfl
theorem ts_77 : Cond.code y_JI_numberOfTrailingZeros prog_8_method_48_code 2 (some .int) ∈ TsG := List.mem_of_getElem? (i := 127) rfl
theorem ts_78 : Cond.methodLink "ClassifySort" 185 y_JI_numberOfTrailingZeros ∈ TsG := List.mem_of_getElem? (i := 128) rfl
theorem ts_79 : Cond.static y_JI_numberOfTrailingZeros ∈ TsG := List.mem_of_getElem? (i := 129) rfl
theorem ts_80 : Cond.code y_XA_rightOf prog_2_method_6_code 2 (some .int) ∈ TsG := List.mem_of_getElem? (i := 130) rfl
theorem ts_81 : Cond.methodLink "ClassifySort" 188 y_XA_rightOf ∈ TsG := List.mem_of_getElem? (i := 131) rfl
theorem ts_82 : Cond.instanceMethod y_XA_rightOf ∈ TsG := List.mem_of_getElem? (i := 132) rfl
theorem ts_83 : Cond.selects "ClassifySort$Axioms" y_XA_rightOf y_XA_rightOf ∈ TsG := List.mem_of_getElem? (i := 133) rfl
theorem ts_84 : Cond.methodLink "ClassifySort" 191 y_XK_tellYes ∈ TsG := List.mem_of_getElem? (i := 134) rfl
theorem ts_85 : Cond.methodLink "ClassifySort" 195 y_XK_close ∈ TsG := List.mem_of_getElem? (i := 135) rfl
theorem ts_86 : Cond.code y_X_tellAxioms prog_1_method_22_code 3 none ∈ TsG := List.mem_of_getElem? (i := 136) rfl
theorem ts_87 : Cond.methodLink "ClassifySort" 91 y_X_tellAxioms ∈ TsG := List.mem_of_getElem? (i := 137) rfl
theorem ts_88 : Cond.instanceMethod y_X_tellAxioms ∈ TsG := List.mem_of_getElem? (i := 138) rfl
theorem ts_89 : Cond.selects "ClassifySort" y_X_tellAxioms y_X_tellAxioms ∈ TsG := List.mem_of_getElem? (i := 139) rfl
theorem ts_90 : Cond.code y_XA_isThere prog_2_method_3_code 2 (some .boolean) ∈ TsG := List.mem_of_getElem? (i := 140) rfl
theorem ts_91 : Cond.methodLink "ClassifySort" 94 y_XA_isThere ∈ TsG := List.mem_of_getElem? (i := 141) rfl
theorem ts_92 : Cond.instanceMethod y_XA_isThere ∈ TsG := List.mem_of_getElem? (i := 142) rfl
theorem ts_93 : Cond.selects "ClassifySort$Axioms" y_XA_isThere y_XA_isThere ∈ TsG := List.mem_of_getElem? (i := 143) rfl
theorem ts_94 : Cond.methodLink "ClassifySort$Knowledge" 43 y_JI_bitCount ∈ TsG := List.mem_of_getElem? (i := 144) rfl
theorem ts_95 : Cond.code y_XK_knownPairs prog_3_method_16_code 4 (some .int) ∈ TsG := List.mem_of_getElem? (i := 145) rfl
theorem ts_96 : Cond.methodLink "ClassifySort" 97 y_XK_knownPairs ∈ TsG := List.mem_of_getElem? (i := 146) rfl
theorem ts_97 : Cond.instanceMethod y_XK_knownPairs ∈ TsG := List.mem_of_getElem? (i := 147) rfl
theorem ts_98 : Cond.selects "ClassifySort$Knowledge" y_XK_knownPairs y_XK_knownPairs ∈ TsG := List.mem_of_getElem? (i := 148) rfl
theorem ts_99 : Cond.methodLink "ClassifySort$Axioms" 33 y_XA_isThere ∈ TsG := List.mem_of_getElem? (i := 149) rfl
theorem ts_100 : Cond.code y_XA_drop prog_2_method_8_code 2 none ∈ TsG := List.mem_of_getElem? (i := 150) rfl
theorem ts_101 : Cond.methodLink "ClassifySort" 100 y_XA_drop ∈ TsG := List.mem_of_getElem? (i := 151) rfl
theorem ts_102 : Cond.instanceMethod y_XA_drop ∈ TsG := List.mem_of_getElem? (i := 152) rfl
theorem ts_103 : Cond.selects "ClassifySort$Axioms" y_XA_drop y_XA_drop ∈ TsG := List.mem_of_getElem? (i := 153) rfl
theorem ts_104 : Cond.code y_XK_forgetYes prog_3_method_14_code 3 none ∈ TsG := List.mem_of_getElem? (i := 154) rfl
theorem ts_105 : Cond.methodLink "ClassifySort" 103 y_XK_forgetYes ∈ TsG := List.mem_of_getElem? (i := 155) rfl
theorem ts_106 : Cond.instanceMethod y_XK_forgetYes ∈ TsG := List.mem_of_getElem? (i := 156) rfl
theorem ts_107 : Cond.selects "ClassifySort$Knowledge" y_XK_forgetYes y_XK_forgetYes ∈ TsG := List.mem_of_getElem? (i := 157) rfl
theorem ts_108 : Cond.code y_XK_openPairs prog_3_method_17_code 4 (some .int) ∈ TsG := List.mem_of_getElem? (i := 158) rfl
theorem ts_109 : Cond.methodLink "ClassifySort" 106 y_XK_openPairs ∈ TsG := List.mem_of_getElem? (i := 159) rfl
theorem ts_110 : Cond.instanceMethod y_XK_openPairs ∈ TsG := List.mem_of_getElem? (i := 160) rfl
theorem ts_111 : Cond.selects "ClassifySort$Knowledge" y_XK_openPairs y_XK_openPairs ∈ TsG := List.mem_of_getElem? (i := 161) rfl
theorem ts_112 : Cond.fieldLink "ClassifySort" 21 "ClassifySort" "reasoner" "LClassifySort$Reasoner;" ∈ TsG := List.mem_of_getElem? (i := 162) rfl
theorem ts_113 : Cond.methodLink "ClassifySort$Reasoner" 29 Lib.Math.min.name ∈ TsG := List.mem_of_getElem? (i := 163) rfl
theorem ts_114 : Cond.static Lib.Math.min.name ∈ TsG := List.mem_of_getElem? (i := 164) rfl
theorem ts_115 : Cond.initialized "java/lang/Math" ∈ TsG := List.mem_of_getElem? (i := 165) rfl
theorem ts_116 : Cond.code Lib.Math.min.name Lib.Math.min.code 2 (some .int) ∈ TsG := List.mem_of_getElem? (i := 166) rfl
theorem ts_117 : Cond.methodLink "ClassifySort$Reasoner" 35 Lib.Math.max.name ∈ TsG := List.mem_of_getElem? (i := 167) rfl
theorem ts_118 : Cond.static Lib.Math.max.name ∈ TsG := List.mem_of_getElem? (i := 168) rfl
theorem ts_119 : Cond.code Lib.Math.max.name Lib.Math.max.code 2 (some .int) ∈ TsG := List.mem_of_getElem? (i := 169) rfl
theorem ts_120 : Cond.fieldLink "ClassifySort$Reasoner" 15 "ClassifySort$Reasoner" "limit" "I" ∈ TsG := List.mem_of_getElem? (i := 170) rfl
theorem ts_121 : Cond.code y_XR_fillUp prog_5_method_2_code 2 none ∈ TsG := List.mem_of_getElem? (i := 171) rfl
theorem ts_122 : Cond.initialized "ClassifySort$Reasoner" ∈ TsG := List.mem_of_getElem? (i := 172) rfl
theorem ts_123 : Cond.methodLink "ClassifySort" 109 y_XR_fillUp ∈ TsG := List.mem_of_getElem? (i := 173) rfl
theorem ts_124 : Cond.instanceMethod y_XR_fillUp ∈ TsG := List.mem_of_getElem? (i := 174) rfl
theorem ts_125 : Cond.selects "ClassifySort$Reasoner" y_XR_fillUp y_XR_fillUp ∈ TsG := List.mem_of_getElem? (i := 175) rfl
theorem ts_126 : Cond.code y_XK_forgetOpen prog_3_method_15_code 2 none ∈ TsG := List.mem_of_getElem? (i := 176) rfl
theorem ts_127 : Cond.methodLink "ClassifySort" 112 y_XK_forgetOpen ∈ TsG := List.mem_of_getElem? (i := 177) rfl
theorem ts_128 : Cond.instanceMethod y_XK_forgetOpen ∈ TsG := List.mem_of_getElem? (i := 178) rfl
theorem ts_129 : Cond.selects "ClassifySort$Knowledge" y_XK_forgetOpen y_XK_forgetOpen ∈ TsG := List.mem_of_getElem? (i := 179) rfl
theorem ts_130 : Cond.code y_XK_of prog_3_method_3_code 3 (some .int) ∈ TsG := List.mem_of_getElem? (i := 180) rfl
theorem ts_131 : Cond.methodLink "ClassifySort" 115 y_XK_of ∈ TsG := List.mem_of_getElem? (i := 181) rfl
theorem ts_132 : Cond.instanceMethod y_XK_of ∈ TsG := List.mem_of_getElem? (i := 182) rfl
theorem ts_133 : Cond.selects "ClassifySort$Knowledge" y_XK_of y_XK_of ∈ TsG := List.mem_of_getElem? (i := 183) rfl
theorem ts_134 : Cond.fieldLink "ClassifySort$Reasoner" 22 "ClassifySort$Reasoner" "facts" "I" ∈ TsG := List.mem_of_getElem? (i := 184) rfl
theorem ts_135 : Cond.fieldLink "ClassifySort$Reasoner" 19 "ClassifySort$Reasoner" "steps" "I" ∈ TsG := List.mem_of_getElem? (i := 185) rfl
theorem ts_136 : Cond.fieldLink "ClassifySort$Reasoner" 25 "ClassifySort$Reasoner" "axioms" "LClassifySort$Axioms;" ∈ TsG := List.mem_of_getElem? (i := 186) rfl
theorem ts_137 : Cond.code y_XA_firstThatFires prog_2_method_9_code 4 (some .int) ∈ TsG := List.mem_of_getElem? (i := 187) rfl
theorem ts_138 : Cond.methodLink "ClassifySort$Reasoner" 42 y_XA_firstThatFires ∈ TsG := List.mem_of_getElem? (i := 188) rfl
theorem ts_139 : Cond.instanceMethod y_XA_firstThatFires ∈ TsG := List.mem_of_getElem? (i := 189) rfl
theorem ts_140 : Cond.selects "ClassifySort$Axioms" y_XA_firstThatFires y_XA_firstThatFires ∈ TsG := List.mem_of_getElem? (i := 190) rfl
theorem ts_141 : Cond.fieldLink "ClassifySort$Reasoner" 9 "ClassifySort$Reasoner" "fired" "[I" ∈ TsG := List.mem_of_getElem? (i := 191) rfl
theorem ts_142 : Cond.methodLink "ClassifySort$Reasoner" 47 y_XA_rightOf ∈ TsG := List.mem_of_getElem? (i := 192) rfl
theorem ts_143 : Cond.code y_XR_decide prog_5_method_5_code 6 (some .int) ∈ TsG := List.mem_of_getElem? (i := 193) rfl
theorem ts_144 : Cond.methodLink "ClassifySort" 118 y_XR_decide ∈ TsG := List.mem_of_getElem? (i := 194) rfl
theorem ts_145 : Cond.instanceMethod y_XR_decide ∈ TsG := List.mem_of_getElem? (i := 195) rfl
theorem ts_146 : Cond.selects "ClassifySort$Reasoner" y_XR_decide y_XR_decide ∈ TsG := List.mem_of_getElem? (i := 196) rfl
theorem ts_147 : Cond.fieldLink "ClassifySort" 37 "ClassifySort" "order" "LClassifySort$Order;" ∈ TsG := List.mem_of_getElem? (i := 197) rfl
theorem ts_148 : Cond.fieldLink "ClassifySort$Order" 9 "ClassifySort$Order" "placed" "I" ∈ TsG := List.mem_of_getElem? (i := 198) rfl
theorem ts_149 : Cond.fieldLink "ClassifySort$Order" 15 "ClassifySort$Order" "empties" "I" ∈ TsG := List.mem_of_getElem? (i := 199) rfl
theorem ts_150 : Cond.fieldLink "ClassifySort$Order" 18 "ClassifySort$Order" "asked" "I" ∈ TsG := List.mem_of_getElem? (i := 200) rfl
theorem ts_151 : Cond.fieldLink "ClassifySort$Order" 21 "ClassifySort$Order" "knowledge" "LClassifySort$Knowledge;" ∈ TsG := List.mem_of_getElem? (i := 201) rfl
theorem ts_152 : Cond.methodLink "ClassifySort$Order" 48 y_XK_of ∈ TsG := List.mem_of_getElem? (i := 202) rfl
theorem ts_153 : Cond.fieldLink "ClassifySort$Order" 25 "ClassifySort$Order" "reasoner" "LClassifySort$Reasoner;" ∈ TsG := List.mem_of_getElem? (i := 203) rfl
theorem ts_154 : Cond.methodLink "ClassifySort$Order" 53 y_XR_decide ∈ TsG := List.mem_of_getElem? (i := 204) rfl
theorem ts_155 : Cond.code y_XK_learn prog_3_method_10_code 4 none ∈ TsG := List.mem_of_getElem? (i := 205) rfl
theorem ts_156 : Cond.methodLink "ClassifySort$Order" 58 y_XK_learn ∈ TsG := List.mem_of_getElem? (i := 206) rfl
theorem ts_157 : Cond.instanceMethod y_XK_learn ∈ TsG := List.mem_of_getElem? (i := 207) rfl
theorem ts_158 : Cond.selects "ClassifySort$Knowledge" y_XK_learn y_XK_learn ∈ TsG := List.mem_of_getElem? (i := 208) rfl
theorem ts_159 : Cond.code y_XO_answer prog_4_method_6_code 3 (some .int) ∈ TsG := List.mem_of_getElem? (i := 209) rfl
theorem ts_160 : Cond.initialized "ClassifySort$Order" ∈ TsG := List.mem_of_getElem? (i := 210) rfl
theorem ts_161 : Cond.methodLink "ClassifySort$Order" 33 y_XO_answer ∈ TsG := List.mem_of_getElem? (i := 211) rfl
theorem ts_162 : Cond.instanceMethod y_XO_answer ∈ TsG := List.mem_of_getElem? (i := 212) rfl
theorem ts_163 : Cond.selects "ClassifySort$Order" y_XO_answer y_XO_answer ∈ TsG := List.mem_of_getElem? (i := 213) rfl
theorem ts_164 : Cond.code y_XK_allAbove prog_3_method_4_code 2 (some .int) ∈ TsG := List.mem_of_getElem? (i := 214) rfl
theorem ts_165 : Cond.methodLink "ClassifySort$Order" 68 y_XK_allAbove ∈ TsG := List.mem_of_getElem? (i := 215) rfl
theorem ts_166 : Cond.instanceMethod y_XK_allAbove ∈ TsG := List.mem_of_getElem? (i := 216) rfl
theorem ts_167 : Cond.selects "ClassifySort$Knowledge" y_XK_allAbove y_XK_allAbove ∈ TsG := List.mem_of_getElem? (i := 217) rfl
theorem ts_168 : Cond.code y_XK_strictlyAbove prog_3_method_6_code 2 (some .int) ∈ TsG := List.mem_of_getElem? (i := 218) rfl
theorem ts_169 : Cond.methodLink "ClassifySort$Order" 71 y_XK_strictlyAbove ∈ TsG := List.mem_of_getElem? (i := 219) rfl
theorem ts_170 : Cond.instanceMethod y_XK_strictlyAbove ∈ TsG := List.mem_of_getElem? (i := 220) rfl
theorem ts_171 : Cond.selects "ClassifySort$Knowledge" y_XK_strictlyAbove y_XK_strictlyAbove ∈ TsG := List.mem_of_getElem? (i := 221) rfl
theorem ts_172 : Cond.code y_XO_nextDown prog_4_method_9_code 5 (some .int) ∈ TsG := List.mem_of_getElem? (i := 222) rfl
theorem ts_173 : Cond.methodLink "ClassifySort$Order" 62 y_XO_nextDown ∈ TsG := List.mem_of_getElem? (i := 223) rfl
theorem ts_174 : Cond.instanceMethod y_XO_nextDown ∈ TsG := List.mem_of_getElem? (i := 224) rfl
theorem ts_175 : Cond.selects "ClassifySort$Order" y_XO_nextDown y_XO_nextDown ∈ TsG := List.mem_of_getElem? (i := 225) rfl
theorem ts_176 : Cond.code y_XO_searchDown prog_4_method_7_code 5 none ∈ TsG := List.mem_of_getElem? (i := 226) rfl
theorem ts_177 : Cond.methodLink "ClassifySort$Order" 41 y_XO_searchDown ∈ TsG := List.mem_of_getElem? (i := 227) rfl
theorem ts_178 : Cond.instanceMethod y_XO_searchDown ∈ TsG := List.mem_of_getElem? (i := 228) rfl
theorem ts_179 : Cond.selects "ClassifySort$Order" y_XO_searchDown y_XO_searchDown ∈ TsG := List.mem_of_getElem? (i := 229) rfl
theorem ts_180 : Cond.code y_XK_allBelow prog_3_method_5_code 2 (some .int) ∈ TsG := List.mem_of_getElem? (i := 230) rfl
theorem ts_181 : Cond.methodLink "ClassifySort$Order" 74 y_XK_allBelow ∈ TsG := List.mem_of_getElem? (i := 231) rfl
theorem ts_182 : Cond.instanceMethod y_XK_allBelow ∈ TsG := List.mem_of_getElem? (i := 232) rfl
theorem ts_183 : Cond.selects "ClassifySort$Knowledge" y_XK_allBelow y_XK_allBelow ∈ TsG := List.mem_of_getElem? (i := 233) rfl
theorem ts_184 : Cond.code y_XK_strictlyBelow prog_3_method_7_code 2 (some .int) ∈ TsG := List.mem_of_getElem? (i := 234) rfl
theorem ts_185 : Cond.methodLink "ClassifySort$Order" 77 y_XK_strictlyBelow ∈ TsG := List.mem_of_getElem? (i := 235) rfl
theorem ts_186 : Cond.instanceMethod y_XK_strictlyBelow ∈ TsG := List.mem_of_getElem? (i := 236) rfl
theorem ts_187 : Cond.selects "ClassifySort$Knowledge" y_XK_strictlyBelow y_XK_strictlyBelow ∈ TsG := List.mem_of_getElem? (i := 237) rfl
theorem ts_188 : Cond.code y_XO_nextUp prog_4_method_10_code 6 (some .int) ∈ TsG := List.mem_of_getElem? (i := 238) rfl
theorem ts_189 : Cond.methodLink "ClassifySort$Order" 65 y_XO_nextUp ∈ TsG := List.mem_of_getElem? (i := 239) rfl
theorem ts_190 : Cond.instanceMethod y_XO_nextUp ∈ TsG := List.mem_of_getElem? (i := 240) rfl
theorem ts_191 : Cond.selects "ClassifySort$Order" y_XO_nextUp y_XO_nextUp ∈ TsG := List.mem_of_getElem? (i := 241) rfl
theorem ts_192 : Cond.code y_XO_searchUp prog_4_method_8_code 5 none ∈ TsG := List.mem_of_getElem? (i := 242) rfl
theorem ts_193 : Cond.methodLink "ClassifySort$Order" 45 y_XO_searchUp ∈ TsG := List.mem_of_getElem? (i := 243) rfl
theorem ts_194 : Cond.instanceMethod y_XO_searchUp ∈ TsG := List.mem_of_getElem? (i := 244) rfl
theorem ts_195 : Cond.selects "ClassifySort$Order" y_XO_searchUp y_XO_searchUp ∈ TsG := List.mem_of_getElem? (i := 245) rfl
theorem ts_196 : Cond.code y_XO_sort prog_4_method_5_code 3 (some .int) ∈ TsG := List.mem_of_getElem? (i := 246) rfl
theorem ts_197 : Cond.methodLink "ClassifySort" 121 y_XO_sort ∈ TsG := List.mem_of_getElem? (i := 247) rfl
theorem ts_198 : Cond.instanceMethod y_XO_sort ∈ TsG := List.mem_of_getElem? (i := 248) rfl
theorem ts_199 : Cond.selects "ClassifySort$Order" y_XO_sort y_XO_sort ∈ TsG := List.mem_of_getElem? (i := 249) rfl
theorem ts_200 : Cond.fieldLink "ClassifySort" 52 "ClassifySort" "questions" "I" ∈ TsG := List.mem_of_getElem? (i := 250) rfl
theorem ts_201 : Cond.code y_XO_isEmptyClass prog_4_method_4_code 2 (some .boolean) ∈ TsG := List.mem_of_getElem? (i := 251) rfl
theorem ts_202 : Cond.methodLink "ClassifySort" 124 y_XO_isEmptyClass ∈ TsG := List.mem_of_getElem? (i := 252) rfl
theorem ts_203 : Cond.instanceMethod y_XO_isEmptyClass ∈ TsG := List.mem_of_getElem? (i := 253) rfl
theorem ts_204 : Cond.selects "ClassifySort$Order" y_XO_isEmptyClass y_XO_isEmptyClass ∈ TsG := List.mem_of_getElem? (i := 254) rfl
theorem ts_205 : Cond.code y_XK_sameAs prog_3_method_8_code 2 (some .int) ∈ TsG := List.mem_of_getElem? (i := 255) rfl
theorem ts_206 : Cond.methodLink "ClassifySort$Order" 86 y_XK_sameAs ∈ TsG := List.mem_of_getElem? (i := 256) rfl
theorem ts_207 : Cond.instanceMethod y_XK_sameAs ∈ TsG := List.mem_of_getElem? (i := 257) rfl
theorem ts_208 : Cond.selects "ClassifySort$Knowledge" y_XK_sameAs y_XK_sameAs ∈ TsG := List.mem_of_getElem? (i := 258) rfl
theorem ts_209 : Cond.code y_XO_firstOfSame prog_4_method_15_code 4 (some .int) ∈ TsG := List.mem_of_getElem? (i := 259) rfl
theorem ts_210 : Cond.methodLink "ClassifySort" 134 y_XO_firstOfSame ∈ TsG := List.mem_of_getElem? (i := 260) rfl
theorem ts_211 : Cond.instanceMethod y_XO_firstOfSame ∈ TsG := List.mem_of_getElem? (i := 261) rfl
theorem ts_212 : Cond.selects "ClassifySort$Order" y_XO_firstOfSame y_XO_firstOfSame ∈ TsG := List.mem_of_getElem? (i := 262) rfl
theorem ts_213 : Cond.methodLink "ClassifySort" 160 y_X_has ∈ TsG := List.mem_of_getElem? (i := 263) rfl
theorem ts_214 : Cond.code y_X_pick prog_1_method_26_code 4 (some .int) ∈ TsG := List.mem_of_getElem? (i := 264) rfl
theorem ts_215 : Cond.methodLink "ClassifySort" 137 y_X_pick ∈ TsG := List.mem_of_getElem? (i := 265) rfl
theorem ts_216 : Cond.static y_X_pick ∈ TsG := List.mem_of_getElem? (i := 266) rfl
theorem ts_217 : Cond.code y_XO_directlyAbove prog_4_method_11_code 5 (some .int) ∈ TsG := List.mem_of_getElem? (i := 267) rfl
theorem ts_218 : Cond.methodLink "ClassifySort" 131 y_XO_directlyAbove ∈ TsG := List.mem_of_getElem? (i := 268) rfl
theorem ts_219 : Cond.instanceMethod y_XO_directlyAbove ∈ TsG := List.mem_of_getElem? (i := 269) rfl
theorem ts_220 : Cond.selects "ClassifySort$Order" y_XO_directlyAbove y_XO_directlyAbove ∈ TsG := List.mem_of_getElem? (i := 270) rfl
theorem ts_221 : Cond.code y_XO_directlyBelow prog_4_method_12_code 5 (some .int) ∈ TsG := List.mem_of_getElem? (i := 271) rfl
theorem ts_222 : Cond.methodLink "ClassifySort$Order" 83 y_XO_directlyBelow ∈ TsG := List.mem_of_getElem? (i := 272) rfl
theorem ts_223 : Cond.instanceMethod y_XO_directlyBelow ∈ TsG := List.mem_of_getElem? (i := 273) rfl
theorem ts_224 : Cond.selects "ClassifySort$Order" y_XO_directlyBelow y_XO_directlyBelow ∈ TsG := List.mem_of_getElem? (i := 274) rfl
theorem ts_225 : Cond.code y_XO_lowestAmong prog_4_method_14_code 4 (some .int) ∈ TsG := List.mem_of_getElem? (i := 275) rfl
theorem ts_226 : Cond.methodLink "ClassifySort$Order" 80 y_XO_lowestAmong ∈ TsG := List.mem_of_getElem? (i := 276) rfl
theorem ts_227 : Cond.instanceMethod y_XO_lowestAmong ∈ TsG := List.mem_of_getElem? (i := 277) rfl
theorem ts_228 : Cond.selects "ClassifySort$Order" y_XO_lowestAmong y_XO_lowestAmong ∈ TsG := List.mem_of_getElem? (i := 278) rfl
theorem ts_229 : Cond.code y_XO_lowest prog_4_method_13_code 1 (some .int) ∈ TsG := List.mem_of_getElem? (i := 279) rfl
theorem ts_230 : Cond.methodLink "ClassifySort" 127 y_XO_lowest ∈ TsG := List.mem_of_getElem? (i := 280) rfl
theorem ts_231 : Cond.instanceMethod y_XO_lowest ∈ TsG := List.mem_of_getElem? (i := 281) rfl
theorem ts_232 : Cond.selects "ClassifySort$Order" y_XO_lowest y_XO_lowest ∈ TsG := List.mem_of_getElem? (i := 282) rfl
theorem ts_233 : Cond.methodLink "ClassifySort" 140 y_XO_directlyBelow ∈ TsG := List.mem_of_getElem? (i := 283) rfl
theorem ts_234 : Cond.methodLink "ClassifySort" 143 y_XK_sameAs ∈ TsG := List.mem_of_getElem? (i := 284) rfl
theorem ts_235 : Cond.code y_XO_emptyClasses prog_4_method_3_code 1 (some .int) ∈ TsG := List.mem_of_getElem? (i := 285) rfl
theorem ts_236 : Cond.methodLink "ClassifySort" 146 y_XO_emptyClasses ∈ TsG := List.mem_of_getElem? (i := 286) rfl
theorem ts_237 : Cond.instanceMethod y_XO_emptyClasses ∈ TsG := List.mem_of_getElem? (i := 287) rfl
theorem ts_238 : Cond.selects "ClassifySort$Order" y_XO_emptyClasses y_XO_emptyClasses ∈ TsG := List.mem_of_getElem? (i := 288) rfl
theorem ts_239 : Cond.code y_XK_openOf prog_3_method_9_code 2 (some .int) ∈ TsG := List.mem_of_getElem? (i := 289) rfl
theorem ts_240 : Cond.methodLink "ClassifySort" 149 y_XK_openOf ∈ TsG := List.mem_of_getElem? (i := 290) rfl
theorem ts_241 : Cond.instanceMethod y_XK_openOf ∈ TsG := List.mem_of_getElem? (i := 291) rfl
theorem ts_242 : Cond.selects "ClassifySort$Knowledge" y_XK_openOf y_XK_openOf ∈ TsG := List.mem_of_getElem? (i := 292) rfl
theorem ts_243 : Cond.code y_X_isThing prog_1_method_20_code 2 (some .boolean) ∈ TsG := List.mem_of_getElem? (i := 293) rfl
theorem ts_244 : Cond.methodLink "ClassifySort" 157 y_X_isThing ∈ TsG := List.mem_of_getElem? (i := 294) rfl
theorem ts_245 : Cond.instanceMethod y_X_isThing ∈ TsG := List.mem_of_getElem? (i := 295) rfl
theorem ts_246 : Cond.selects "ClassifySort" y_X_isThing y_X_isThing ∈ TsG := List.mem_of_getElem? (i := 296) rfl
theorem ts_247 : Cond.fieldLink "ClassifySort" 41 "ClassifySort" "toldClasses" "[I" ∈ TsG := List.mem_of_getElem? (i := 297) rfl
theorem ts_248 : Cond.code y_XR_facts prog_5_method_3_code 1 (some .int) ∈ TsG := List.mem_of_getElem? (i := 298) rfl
theorem ts_249 : Cond.methodLink "ClassifySort" 164 y_XR_facts ∈ TsG := List.mem_of_getElem? (i := 299) rfl
theorem ts_250 : Cond.instanceMethod y_XR_facts ∈ TsG := List.mem_of_getElem? (i := 300) rfl
theorem ts_251 : Cond.selects "ClassifySort$Reasoner" y_XR_facts y_XR_facts ∈ TsG := List.mem_of_getElem? (i := 301) rfl
theorem ts_252 : Cond.methodLink "ClassifySort" 167 y_XO_lowestAmong ∈ TsG := List.mem_of_getElem? (i := 302) rfl
theorem ts_253 : Cond.methodLink "ClassifySort$Reasoner" 54 y_XA_leftOf ∈ TsG := List.mem_of_getElem? (i := 303) rfl
theorem ts_254 : Cond.code y_XR_neededSteps prog_5_method_6_code 4 (some .int) ∈ TsG := List.mem_of_getElem? (i := 304) rfl
theorem ts_255 : Cond.methodLink "ClassifySort" 170 y_XR_neededSteps ∈ TsG := List.mem_of_getElem? (i := 305) rfl
theorem ts_256 : Cond.instanceMethod y_XR_neededSteps ∈ TsG := List.mem_of_getElem? (i := 306) rfl
theorem ts_257 : Cond.selects "ClassifySort$Reasoner" y_XR_neededSteps y_XR_neededSteps ∈ TsG := List.mem_of_getElem? (i := 307) rfl
theorem ts_258 : Cond.code y_XR_firedAt prog_5_method_4_code 2 (some .int) ∈ TsG := List.mem_of_getElem? (i := 308) rfl
theorem ts_259 : Cond.methodLink "ClassifySort" 173 y_XR_firedAt ∈ TsG := List.mem_of_getElem? (i := 309) rfl
theorem ts_260 : Cond.instanceMethod y_XR_firedAt ∈ TsG := List.mem_of_getElem? (i := 310) rfl
theorem ts_261 : Cond.selects "ClassifySort$Reasoner" y_XR_firedAt y_XR_firedAt ∈ TsG := List.mem_of_getElem? (i := 311) rfl
theorem ts_262 : Cond.code y_XA_thereNow prog_2_method_4_code 1 (some .int) ∈ TsG := List.mem_of_getElem? (i := 312) rfl
theorem ts_263 : Cond.methodLink "ClassifySort" 176 y_XA_thereNow ∈ TsG := List.mem_of_getElem? (i := 313) rfl
theorem ts_264 : Cond.instanceMethod y_XA_thereNow ∈ TsG := List.mem_of_getElem? (i := 314) rfl
theorem ts_265 : Cond.selects "ClassifySort$Axioms" y_XA_thereNow y_XA_thereNow ∈ TsG := List.mem_of_getElem? (i := 315) rfl
theorem ts_266 : Cond.code y_XO_placedClasses prog_4_method_2_code 1 (some .int) ∈ TsG := List.mem_of_getElem? (i := 316) rfl
theorem ts_267 : Cond.methodLink "ClassifySort" 179 y_XO_placedClasses ∈ TsG := List.mem_of_getElem? (i := 317) rfl
theorem ts_268 : Cond.instanceMethod y_XO_placedClasses ∈ TsG := List.mem_of_getElem? (i := 318) rfl
theorem ts_269 : Cond.selects "ClassifySort$Order" y_XO_placedClasses y_XO_placedClasses ∈ TsG := List.mem_of_getElem? (i := 319) rfl
theorem ts_270 : Cond.fieldLink "ClassifySortModel" 60 "ClassifySortModel" "classes" "I" ∈ TsG := List.mem_of_getElem? (i := 320) rfl
theorem ts_271 : Cond.fieldLink "ClassifySortModel" 97 "ClassifySortModel" "sorted" "Z" ∈ TsG := List.mem_of_getElem? (i := 321) rfl
theorem ts_272 : Cond.fieldLink "ClassifySortModel" 67 "ClassifySortModel" "axioms" "I" ∈ TsG := List.mem_of_getElem? (i := 322) rfl
theorem ts_273 : Cond.fieldLink "ClassifySortModel" 23 "ClassifySortModel" "there" "[Z" ∈ TsG := List.mem_of_getElem? (i := 323) rfl
theorem ts_274 : Cond.fieldLink "ClassifySortModel" 13 "ClassifySortModel" "left" "[I" ∈ TsG := List.mem_of_getElem? (i := 324) rfl
theorem ts_275 : Cond.fieldLink "ClassifySortModel" 17 "ClassifySortModel" "other" "[I" ∈ TsG := List.mem_of_getElem? (i := 325) rfl
theorem ts_276 : Cond.fieldLink "ClassifySortModel" 20 "ClassifySortModel" "right" "[I" ∈ TsG := List.mem_of_getElem? (i := 326) rfl
theorem ts_277 : Cond.code y_M_isItself prog_7_method_6_code 5 (some .boolean) ∈ TsG := List.mem_of_getElem? (i := 327) rfl
theorem ts_278 : Cond.initialized "ClassifySortModel" ∈ TsG := List.mem_of_getElem? (i := 328) rfl
theorem ts_279 : Cond.methodLink "ClassifySortModel" 70 y_M_isItself ∈ TsG := List.mem_of_getElem? (i := 329) rfl
theorem ts_280 : Cond.instanceMethod y_M_isItself ∈ TsG := List.mem_of_getElem? (i := 330) rfl
theorem ts_281 : Cond.selects "ClassifySortModel" y_M_isItself y_M_isItself ∈ TsG := List.mem_of_getElem? (i := 331) rfl
theorem ts_282 : Cond.fieldLink "ClassifySortModel" 30 "ClassifySortModel" "state" "[I" ∈ TsG := List.mem_of_getElem? (i := 332) rfl
theorem ts_283 : Cond.code y_M_tellItself prog_7_method_7_code 3 none ∈ TsG := List.mem_of_getElem? (i := 333) rfl
theorem ts_284 : Cond.methodLink "ClassifySortModel" 83 y_M_tellItself ∈ TsG := List.mem_of_getElem? (i := 334) rfl
theorem ts_285 : Cond.instanceMethod y_M_tellItself ∈ TsG := List.mem_of_getElem? (i := 335) rfl
theorem ts_286 : Cond.selects "ClassifySortModel" y_M_tellItself y_M_tellItself ∈ TsG := List.mem_of_getElem? (i := 336) rfl
theorem ts_287 : Cond.code y_M_isHere prog_7_method_8_code 2 (some .boolean) ∈ TsG := List.mem_of_getElem? (i := 337) rfl
theorem ts_288 : Cond.methodLink "ClassifySortModel" 74 y_M_isHere ∈ TsG := List.mem_of_getElem? (i := 338) rfl
theorem ts_289 : Cond.instanceMethod y_M_isHere ∈ TsG := List.mem_of_getElem? (i := 339) rfl
theorem ts_290 : Cond.selects "ClassifySortModel" y_M_isHere y_M_isHere ∈ TsG := List.mem_of_getElem? (i := 340) rfl
theorem ts_291 : Cond.code y_M_below prog_7_method_5_code 3 (some .boolean) ∈ TsG := List.mem_of_getElem? (i := 341) rfl
theorem ts_292 : Cond.methodLink "ClassifySortModel" 77 y_M_below ∈ TsG := List.mem_of_getElem? (i := 342) rfl
theorem ts_293 : Cond.instanceMethod y_M_below ∈ TsG := List.mem_of_getElem? (i := 343) rfl
theorem ts_294 : Cond.selects "ClassifySortModel" y_M_below y_M_below ∈ TsG := List.mem_of_getElem? (i := 344) rfl
theorem ts_295 : Cond.code y_M_spreadNo prog_7_method_10_code 7 (some .boolean) ∈ TsG := List.mem_of_getElem? (i := 345) rfl
theorem ts_296 : Cond.methodLink "ClassifySortModel" 80 y_M_spreadNo ∈ TsG := List.mem_of_getElem? (i := 346) rfl
theorem ts_297 : Cond.instanceMethod y_M_spreadNo ∈ TsG := List.mem_of_getElem? (i := 347) rfl
theorem ts_298 : Cond.selects "ClassifySortModel" y_M_spreadNo y_M_spreadNo ∈ TsG := List.mem_of_getElem? (i := 348) rfl
theorem ts_299 : Cond.code y_M_closeOnce prog_7_method_9_code 5 (some .boolean) ∈ TsG := List.mem_of_getElem? (i := 349) rfl
theorem ts_300 : Cond.methodLink "ClassifySortModel" 86 y_M_closeOnce ∈ TsG := List.mem_of_getElem? (i := 350) rfl
theorem ts_301 : Cond.instanceMethod y_M_closeOnce ∈ TsG := List.mem_of_getElem? (i := 351) rfl
theorem ts_302 : Cond.selects "ClassifySortModel" y_M_closeOnce y_M_closeOnce ∈ TsG := List.mem_of_getElem? (i := 352) rfl
theorem ts_303 : Cond.code y_M_close prog_7_method_11_code 2 none ∈ TsG := List.mem_of_getElem? (i := 353) rfl
theorem ts_304 : Cond.methodLink "ClassifySortModel" 101 y_M_close ∈ TsG := List.mem_of_getElem? (i := 354) rfl
theorem ts_305 : Cond.instanceMethod y_M_close ∈ TsG := List.mem_of_getElem? (i := 355) rfl
theorem ts_306 : Cond.selects "ClassifySortModel" y_M_close y_M_close ∈ TsG := List.mem_of_getElem? (i := 356) rfl
theorem ts_307 : Cond.fieldLink "ClassifySortModel" 104 "ClassifySortModel" "things" "I" ∈ TsG := List.mem_of_getElem? (i := 357) rfl
theorem ts_308 : Cond.code y_M_isClass prog_7_method_3_code 2 (some .boolean) ∈ TsG := List.mem_of_getElem? (i := 358) rfl
theorem ts_309 : Cond.methodLink "ClassifySortModel" 63 y_M_isClass ∈ TsG := List.mem_of_getElem? (i := 359) rfl
theorem ts_310 : Cond.instanceMethod y_M_isClass ∈ TsG := List.mem_of_getElem? (i := 360) rfl
theorem ts_311 : Cond.selects "ClassifySortModel" y_M_isClass y_M_isClass ∈ TsG := List.mem_of_getElem? (i := 361) rfl
theorem ts_312 : Cond.fieldLink "ClassifySortModel" 54 "ClassifySortModel" "module" "[Z" ∈ TsG := List.mem_of_getElem? (i := 362) rfl
theorem ts_313 : Cond.code y_M_isTouched prog_7_method_17_code 7 (some .boolean) ∈ TsG := List.mem_of_getElem? (i := 363) rfl
theorem ts_314 : Cond.methodLink "ClassifySortModel" 107 y_M_isTouched ∈ TsG := List.mem_of_getElem? (i := 364) rfl
theorem ts_315 : Cond.instanceMethod y_M_isTouched ∈ TsG := List.mem_of_getElem? (i := 365) rfl
theorem ts_316 : Cond.selects "ClassifySortModel" y_M_isTouched y_M_isTouched ∈ TsG := List.mem_of_getElem? (i := 366) rfl
theorem ts_317 : Cond.code y_M_forget prog_7_method_18_code 6 none ∈ TsG := List.mem_of_getElem? (i := 367) rfl
theorem ts_318 : Cond.methodLink "ClassifySortModel" 110 y_M_forget ∈ TsG := List.mem_of_getElem? (i := 368) rfl
theorem ts_319 : Cond.instanceMethod y_M_forget ∈ TsG := List.mem_of_getElem? (i := 369) rfl
theorem ts_320 : Cond.selects "ClassifySortModel" y_M_forget y_M_forget ∈ TsG := List.mem_of_getElem? (i := 370) rfl
theorem ts_321 : Cond.fieldLink "ClassifySortModel" 33 "ClassifySortModel" "before" "[I" ∈ TsG := List.mem_of_getElem? (i := 371) rfl
theorem ts_322 : Cond.code y_M_openPairs prog_7_method_21_code 3 (some .int) ∈ TsG := List.mem_of_getElem? (i := 372) rfl
theorem ts_323 : Cond.methodLink "ClassifySortModel" 114 y_M_openPairs ∈ TsG := List.mem_of_getElem? (i := 373) rfl
theorem ts_324 : Cond.instanceMethod y_M_openPairs ∈ TsG := List.mem_of_getElem? (i := 374) rfl
theorem ts_325 : Cond.selects "ClassifySortModel" y_M_openPairs y_M_openPairs ∈ TsG := List.mem_of_getElem? (i := 375) rfl
theorem ts_326 : Cond.fieldLink "ClassifySortModel" 7 "ClassifySortModel" "fuel" "I" ∈ TsG := List.mem_of_getElem? (i := 376) rfl
theorem ts_327 : Cond.code y_M_goalOf prog_7_method_4_code 2 (some .int) ∈ TsG := List.mem_of_getElem? (i := 377) rfl
theorem ts_328 : Cond.methodLink "ClassifySortModel" 118 y_M_goalOf ∈ TsG := List.mem_of_getElem? (i := 378) rfl
theorem ts_329 : Cond.instanceMethod y_M_goalOf ∈ TsG := List.mem_of_getElem? (i := 379) rfl
theorem ts_330 : Cond.selects "ClassifySortModel" y_M_goalOf y_M_goalOf ∈ TsG := List.mem_of_getElem? (i := 380) rfl
theorem ts_331 : Cond.fieldLink "ClassifySortModel" 42 "ClassifySortModel" "fact" "[Z" ∈ TsG := List.mem_of_getElem? (i := 381) rfl
theorem ts_332 : Cond.fieldLink "ClassifySortModel" 90 "ClassifySortModel" "firedCount" "I" ∈ TsG := List.mem_of_getElem? (i := 382) rfl
theorem ts_333 : Cond.fieldLink "ClassifySortModel" 45 "ClassifySortModel" "maker" "[I" ∈ TsG := List.mem_of_getElem? (i := 383) rfl
theorem ts_334 : Cond.fieldLink "ClassifySortModel" 48 "ClassifySortModel" "fired" "[I" ∈ TsG := List.mem_of_getElem? (i := 384) rfl
theorem ts_335 : Cond.code y_M_reason prog_7_method_12_code 5 (some .int) ∈ TsG := List.mem_of_getElem? (i := 385) rfl
theorem ts_336 : Cond.methodLink "ClassifySortModel" 93 y_M_reason ∈ TsG := List.mem_of_getElem? (i := 386) rfl
theorem ts_337 : Cond.instanceMethod y_M_reason ∈ TsG := List.mem_of_getElem? (i := 387) rfl
theorem ts_338 : Cond.selects "ClassifySortModel" y_M_reason y_M_reason ∈ TsG := List.mem_of_getElem? (i := 388) rfl
theorem ts_339 : Cond.code y_M_reasonAlone prog_7_method_13_code 4 (some .int) ∈ TsG := List.mem_of_getElem? (i := 389) rfl
theorem ts_340 : Cond.methodLink "ClassifySortModel" 121 y_M_reasonAlone ∈ TsG := List.mem_of_getElem? (i := 390) rfl
theorem ts_341 : Cond.instanceMethod y_M_reasonAlone ∈ TsG := List.mem_of_getElem? (i := 391) rfl
theorem ts_342 : Cond.selects "ClassifySortModel" y_M_reasonAlone y_M_reasonAlone ∈ TsG := List.mem_of_getElem? (i := 392) rfl
theorem ts_343 : Cond.fieldLink "ClassifySortModel" 125 "ClassifySortModel" "asked" "I" ∈ TsG := List.mem_of_getElem? (i := 393) rfl
theorem ts_344 : Cond.fieldLink "ClassifySortModel" 36 "ClassifySortModel" "placed" "[Z" ∈ TsG := List.mem_of_getElem? (i := 394) rfl
theorem ts_345 : Cond.code y_M_look prog_7_method_25_code 3 (some .boolean) ∈ TsG := List.mem_of_getElem? (i := 395) rfl
theorem ts_346 : Cond.methodLink "ClassifySortModel" 138 y_M_look ∈ TsG := List.mem_of_getElem? (i := 396) rfl
theorem ts_347 : Cond.instanceMethod y_M_look ∈ TsG := List.mem_of_getElem? (i := 397) rfl
theorem ts_348 : Cond.selects "ClassifySortModel" y_M_look y_M_look ∈ TsG := List.mem_of_getElem? (i := 398) rfl
theorem ts_349 : Cond.fieldLink "ClassifySortModel" 39 "ClassifySortModel" "looked" "[Z" ∈ TsG := List.mem_of_getElem? (i := 399) rfl
theorem ts_350 : Cond.code y_M_isUnder prog_7_method_26_code 3 (some .boolean) ∈ TsG := List.mem_of_getElem? (i := 400) rfl
set_option maxRecDepth 100000 in
theorem ts_351 : Cond.methodLink "ClassifySortModel" 128 y_M_isUnder ∈ TsG := List.mem_of_getElem? (i := 401) rfl
set_option maxRecDepth 100000 in
theorem ts_352 : Cond.instanceMethod y_M_isUnder ∈ TsG := List.mem_of_getElem? (i := 402) rfl
set_option maxRecDepth 100000 in
theorem ts_353 : Cond.selects "ClassifySortModel" y_M_isUnder y_M_isUnder ∈ TsG := List.mem_of_getElem? (i := 403) rfl
set_option maxRecDepth 100000 in
theorem ts_354 : Cond.code y_M_isDirect prog_7_method_27_code 5 (some .boolean) ∈ TsG := List.mem_of_getElem? (i := 404) rfl
set_option maxRecDepth 100000 in
theorem ts_355 : Cond.methodLink "ClassifySortModel" 131 y_M_isDirect ∈ TsG := List.mem_of_getElem? (i := 405) rfl
set_option maxRecDepth 100000 in
theorem ts_356 : Cond.instanceMethod y_M_isDirect ∈ TsG := List.mem_of_getElem? (i := 406) rfl
set_option maxRecDepth 100000 in
theorem ts_357 : Cond.selects "ClassifySortModel" y_M_isDirect y_M_isDirect ∈ TsG := List.mem_of_getElem? (i := 407) rfl
set_option maxRecDepth 100000 in
theorem ts_358 : Cond.code y_M_nextFor prog_7_method_28_code 7 (some .int) ∈ TsG := List.mem_of_getElem? (i := 408) rfl
set_option maxRecDepth 100000 in
theorem ts_359 : Cond.methodLink "ClassifySortModel" 134 y_M_nextFor ∈ TsG := List.mem_of_getElem? (i := 409) rfl
set_option maxRecDepth 100000 in
theorem ts_360 : Cond.instanceMethod y_M_nextFor ∈ TsG := List.mem_of_getElem? (i := 410) rfl
set_option maxRecDepth 100000 in
theorem ts_361 : Cond.selects "ClassifySortModel" y_M_nextFor y_M_nextFor ∈ TsG := List.mem_of_getElem? (i := 411) rfl
set_option maxRecDepth 100000 in
theorem ts_362 : Cond.code y_M_go prog_7_method_29_code 5 none ∈ TsG := List.mem_of_getElem? (i := 412) rfl
set_option maxRecDepth 100000 in
theorem ts_363 : Cond.methodLink "ClassifySortModel" 141 y_M_go ∈ TsG := List.mem_of_getElem? (i := 413) rfl
set_option maxRecDepth 100000 in
theorem ts_364 : Cond.instanceMethod y_M_go ∈ TsG := List.mem_of_getElem? (i := 414) rfl
set_option maxRecDepth 100000 in
theorem ts_365 : Cond.selects "ClassifySortModel" y_M_go y_M_go ∈ TsG := List.mem_of_getElem? (i := 415) rfl
set_option maxRecDepth 100000 in
theorem ts_366 : Cond.fieldLink "ClassifySortModel" 145 "ClassifySortModel" "questions" "I" ∈ TsG := List.mem_of_getElem? (i := 416) rfl
set_option maxRecDepth 100000 in
theorem ts_367 : Cond.code y_M_isSecond prog_7_method_31_code 4 (some .boolean) ∈ TsG := List.mem_of_getElem? (i := 417) rfl
set_option maxRecDepth 100000 in
theorem ts_368 : Cond.methodLink "ClassifySortModel" 148 y_M_isSecond ∈ TsG := List.mem_of_getElem? (i := 418) rfl
set_option maxRecDepth 100000 in
theorem ts_369 : Cond.instanceMethod y_M_isSecond ∈ TsG := List.mem_of_getElem? (i := 419) rfl
set_option maxRecDepth 100000 in
theorem ts_370 : Cond.selects "ClassifySortModel" y_M_isSecond y_M_isSecond ∈ TsG := List.mem_of_getElem? (i := 420) rfl
set_option maxRecDepth 100000 in
theorem ts_371 : Cond.code y_M_hasBelow prog_7_method_32_code 4 (some .boolean) ∈ TsG := List.mem_of_getElem? (i := 421) rfl
set_option maxRecDepth 100000 in
theorem ts_372 : Cond.methodLink "ClassifySortModel" 151 y_M_hasBelow ∈ TsG := List.mem_of_getElem? (i := 422) rfl
set_option maxRecDepth 100000 in
theorem ts_373 : Cond.instanceMethod y_M_hasBelow ∈ TsG := List.mem_of_getElem? (i := 423) rfl
set_option maxRecDepth 100000 in
theorem ts_374 : Cond.selects "ClassifySortModel" y_M_hasBelow y_M_hasBelow ∈ TsG := List.mem_of_getElem? (i := 424) rfl
set_option maxRecDepth 100000 in
theorem ts_375 : Cond.fieldLink "ClassifySortModel" 27 "ClassifySortModel" "member" "[Z" ∈ TsG := List.mem_of_getElem? (i := 425) rfl
set_option maxRecDepth 100000 in
theorem ts_376 : Cond.code y_M_reasonThing prog_7_method_14_code 4 (some .int) ∈ TsG := List.mem_of_getElem? (i := 426) rfl
set_option maxRecDepth 100000 in
theorem ts_377 : Cond.methodLink "ClassifySortModel" 154 y_M_reasonThing ∈ TsG := List.mem_of_getElem? (i := 427) rfl
set_option maxRecDepth 100000 in
theorem ts_378 : Cond.instanceMethod y_M_reasonThing ∈ TsG := List.mem_of_getElem? (i := 428) rfl
set_option maxRecDepth 100000 in
theorem ts_379 : Cond.selects "ClassifySortModel" y_M_reasonThing y_M_reasonThing ∈ TsG := List.mem_of_getElem? (i := 429) rfl
set_option maxRecDepth 100000 in
theorem ts_380 : Cond.code y_M_isIn prog_7_method_39_code 3 (some .boolean) ∈ TsG := List.mem_of_getElem? (i := 430) rfl
set_option maxRecDepth 100000 in
theorem ts_381 : Cond.methodLink "ClassifySortModel" 157 y_M_isIn ∈ TsG := List.mem_of_getElem? (i := 431) rfl
set_option maxRecDepth 100000 in
theorem ts_382 : Cond.instanceMethod y_M_isIn ∈ TsG := List.mem_of_getElem? (i := 432) rfl
set_option maxRecDepth 100000 in
theorem ts_383 : Cond.selects "ClassifySortModel" y_M_isIn y_M_isIn ∈ TsG := List.mem_of_getElem? (i := 433) rfl
set_option maxRecDepth 100000 in
theorem ts_384 : Cond.fieldLink "ClassifySortModel" 51 "ClassifySortModel" "needed" "[Z" ∈ TsG := List.mem_of_getElem? (i := 434) rfl
set_option maxRecDepth 100000 in
theorem ts_385 : Cond.methodLink "ClassifySort$Axioms" 3 Lib.objectInit ∈ TsG := List.mem_of_getElem? (i := 435) rfl
set_option maxRecDepth 100000 in
theorem ts_386 : Cond.instanceMethod Lib.objectInit ∈ TsG := List.mem_of_getElem? (i := 436) rfl
set_option maxRecDepth 100000 in
theorem ts_387 : Cond.code Lib.objectInit ⟨#[0xb1]⟩ 1 none ∈ TsG := List.mem_of_getElem? (i := 437) rfl
set_option maxRecDepth 100000 in
theorem ts_388 : Cond.arrayClass .int ∈ TsG := List.mem_of_getElem? (i := 438) rfl
set_option maxRecDepth 100000 in
theorem ts_389 : Cond.methodLink "ClassifySort$Reasoner" 3 Lib.objectInit ∈ TsG := List.mem_of_getElem? (i := 439) rfl
set_option maxRecDepth 100000 in
theorem ts_390 : Cond.methodLink "ClassifySort$Knowledge" 3 Lib.objectInit ∈ TsG := List.mem_of_getElem? (i := 440) rfl
set_option maxRecDepth 100000 in
theorem ts_391 : Cond.methodLink "ClassifySort$Order" 3 Lib.objectInit ∈ TsG := List.mem_of_getElem? (i := 441) rfl
set_option maxRecDepth 100000 in
theorem ts_392 : Cond.methodLink "ClassifySort" 3 Lib.objectInit ∈ TsG := List.mem_of_getElem? (i := 442) rfl
set_option maxRecDepth 100000 in
theorem ts_393 : Cond.classLink "ClassifySort" 9 "ClassifySort$Axioms" ∈ TsG := List.mem_of_getElem? (i := 443) rfl
set_option maxRecDepth 100000 in
theorem ts_394 : Cond.instantiable "ClassifySort$Axioms" 4 ∈ TsG := List.mem_of_getElem? (i := 444) rfl
set_option maxRecDepth 100000 in
theorem ts_395 : Cond.code y_XA_init prog_2_method_1_code 1 none ∈ TsG := List.mem_of_getElem? (i := 445) rfl
set_option maxRecDepth 100000 in
theorem ts_396 : Cond.instanceMethod y_XA_init ∈ TsG := List.mem_of_getElem? (i := 446) rfl
set_option maxRecDepth 100000 in
theorem ts_397 : Cond.classLink "ClassifySort" 16 "ClassifySort$Reasoner" ∈ TsG := List.mem_of_getElem? (i := 447) rfl
set_option maxRecDepth 100000 in
theorem ts_398 : Cond.instantiable "ClassifySort$Reasoner" 5 ∈ TsG := List.mem_of_getElem? (i := 448) rfl
set_option maxRecDepth 100000 in
theorem ts_399 : Cond.code y_XR_init prog_5_method_1_code 2 none ∈ TsG := List.mem_of_getElem? (i := 449) rfl
set_option maxRecDepth 100000 in
theorem ts_400 : Cond.methodLink "ClassifySort" 18 y_XR_init ∈ TsG := List.mem_of_getElem? (i := 450) rfl
set_option maxRecDepth 100000 in
theorem ts_401 : Cond.instanceMethod y_XR_init ∈ TsG := List.mem_of_getElem? (i := 451) rfl
set_option maxRecDepth 100000 in
theorem ts_402 : Cond.classLink "ClassifySort" 25 "ClassifySort$Knowledge" ∈ TsG := List.mem_of_getElem? (i := 452) rfl
set_option maxRecDepth 100000 in
theorem ts_403 : Cond.instantiable "ClassifySort$Knowledge" 4 ∈ TsG := List.mem_of_getElem? (i := 453) rfl
set_option maxRecDepth 100000 in
theorem ts_404 : Cond.code y_XK_init prog_3_method_1_code 1 none ∈ TsG := List.mem_of_getElem? (i := 454) rfl
set_option maxRecDepth 100000 in
theorem ts_405 : Cond.methodLink "ClassifySort" 27 y_XK_init ∈ TsG := List.mem_of_getElem? (i := 455) rfl
set_option maxRecDepth 100000 in
theorem ts_406 : Cond.instanceMethod y_XK_init ∈ TsG := List.mem_of_getElem? (i := 456) rfl
set_option maxRecDepth 100000 in
theorem ts_407 : Cond.classLink "ClassifySort" 32 "ClassifySort$Order" ∈ TsG := List.mem_of_getElem? (i := 457) rfl
set_option maxRecDepth 100000 in
theorem ts_408 : Cond.instantiable "ClassifySort$Order" 5 ∈ TsG := List.mem_of_getElem? (i := 458) rfl
set_option maxRecDepth 100000 in
theorem ts_409 : Cond.code y_XO_init prog_4_method_1_code 3 none ∈ TsG := List.mem_of_getElem? (i := 459) rfl
set_option maxRecDepth 100000 in
theorem ts_410 : Cond.methodLink "ClassifySort" 34 y_XO_init ∈ TsG := List.mem_of_getElem? (i := 460) rfl
set_option maxRecDepth 100000 in
theorem ts_411 : Cond.instanceMethod y_XO_init ∈ TsG := List.mem_of_getElem? (i := 461) rfl
set_option maxRecDepth 100000 in
theorem ts_412 : Cond.methodLink "ClassifySortModel" 1 Lib.objectInit ∈ TsG := List.mem_of_getElem? (i := 462) rfl
set_option maxRecDepth 100000 in
theorem ts_413 : Cond.arrayClass .boolean ∈ TsG := List.mem_of_getElem? (i := 463) rfl
set_option maxRecDepth 100000 in
theorem ts_414 : Cond.code y_X_class0 prog_1_method_2_code 1 (some .int) ∈ TsG := List.mem_of_getElem? (i := 464) rfl
set_option maxRecDepth 100000 in
theorem ts_415 : Cond.methodLink "ClassifySortLaw" 13 y_X_class0 ∈ TsG := List.mem_of_getElem? (i := 465) rfl
set_option maxRecDepth 100000 in
theorem ts_416 : Cond.instanceMethod y_X_class0 ∈ TsG := List.mem_of_getElem? (i := 466) rfl
set_option maxRecDepth 100000 in
theorem ts_417 : Cond.selects "ClassifySort" y_X_class0 y_X_class0 ∈ TsG := List.mem_of_getElem? (i := 467) rfl
set_option maxRecDepth 100000 in
theorem ts_418 : Cond.code y_M_class0 prog_7_method_15_code 1 (some .int) ∈ TsG := List.mem_of_getElem? (i := 468) rfl
set_option maxRecDepth 100000 in
theorem ts_419 : Cond.methodLink "ClassifySortLaw" 17 y_M_class0 ∈ TsG := List.mem_of_getElem? (i := 469) rfl
set_option maxRecDepth 100000 in
theorem ts_420 : Cond.instanceMethod y_M_class0 ∈ TsG := List.mem_of_getElem? (i := 470) rfl
set_option maxRecDepth 100000 in
theorem ts_421 : Cond.selects "ClassifySortModel" y_M_class0 y_M_class0 ∈ TsG := List.mem_of_getElem? (i := 471) rfl
set_option maxRecDepth 100000 in
theorem ts_422 : Cond.code y_X_thing prog_1_method_3_code 1 (some .int) ∈ TsG := List.mem_of_getElem? (i := 472) rfl
set_option maxRecDepth 100000 in
theorem ts_423 : Cond.methodLink "ClassifySortLaw" 18 y_X_thing ∈ TsG := List.mem_of_getElem? (i := 473) rfl
set_option maxRecDepth 100000 in
theorem ts_424 : Cond.instanceMethod y_X_thing ∈ TsG := List.mem_of_getElem? (i := 474) rfl
set_option maxRecDepth 100000 in
theorem ts_425 : Cond.selects "ClassifySort" y_X_thing y_X_thing ∈ TsG := List.mem_of_getElem? (i := 475) rfl
set_option maxRecDepth 100000 in
theorem ts_426 : Cond.code y_M_thing prog_7_method_16_code 1 (some .int) ∈ TsG := List.mem_of_getElem? (i := 476) rfl
set_option maxRecDepth 100000 in
theorem ts_427 : Cond.methodLink "ClassifySortLaw" 21 y_M_thing ∈ TsG := List.mem_of_getElem? (i := 477) rfl
set_option maxRecDepth 100000 in
theorem ts_428 : Cond.instanceMethod y_M_thing ∈ TsG := List.mem_of_getElem? (i := 478) rfl
set_option maxRecDepth 100000 in
theorem ts_429 : Cond.selects "ClassifySortModel" y_M_thing y_M_thing ∈ TsG := List.mem_of_getElem? (i := 479) rfl
set_option maxRecDepth 100000 in
theorem ts_430 : Cond.code y_X_axiom prog_1_method_4_code 6 (some .int) ∈ TsG := List.mem_of_getElem? (i := 480) rfl
set_option maxRecDepth 100000 in
theorem ts_431 : Cond.methodLink "ClassifySortLaw" 22 y_X_axiom ∈ TsG := List.mem_of_getElem? (i := 481) rfl
set_option maxRecDepth 100000 in
theorem ts_432 : Cond.instanceMethod y_X_axiom ∈ TsG := List.mem_of_getElem? (i := 482) rfl
set_option maxRecDepth 100000 in
theorem ts_433 : Cond.selects "ClassifySort" y_X_axiom y_X_axiom ∈ TsG := List.mem_of_getElem? (i := 483) rfl
set_option maxRecDepth 100000 in
theorem ts_434 : Cond.code y_M_axiom prog_7_method_19_code 4 (some .int) ∈ TsG := List.mem_of_getElem? (i := 484) rfl
set_option maxRecDepth 100000 in
theorem ts_435 : Cond.methodLink "ClassifySortLaw" 26 y_M_axiom ∈ TsG := List.mem_of_getElem? (i := 485) rfl
set_option maxRecDepth 100000 in
theorem ts_436 : Cond.instanceMethod y_M_axiom ∈ TsG := List.mem_of_getElem? (i := 486) rfl
set_option maxRecDepth 100000 in
theorem ts_437 : Cond.selects "ClassifySortModel" y_M_axiom y_M_axiom ∈ TsG := List.mem_of_getElem? (i := 487) rfl
set_option maxRecDepth 100000 in
theorem ts_438 : Cond.code y_X_remove prog_1_method_5_code 4 (some .int) ∈ TsG := List.mem_of_getElem? (i := 488) rfl
set_option maxRecDepth 100000 in
theorem ts_439 : Cond.methodLink "ClassifySortLaw" 27 y_X_remove ∈ TsG := List.mem_of_getElem? (i := 489) rfl
set_option maxRecDepth 100000 in
theorem ts_440 : Cond.instanceMethod y_X_remove ∈ TsG := List.mem_of_getElem? (i := 490) rfl
set_option maxRecDepth 100000 in
theorem ts_441 : Cond.selects "ClassifySort" y_X_remove y_X_remove ∈ TsG := List.mem_of_getElem? (i := 491) rfl
set_option maxRecDepth 100000 in
theorem ts_442 : Cond.code y_M_remove prog_7_method_20_code 4 (some .int) ∈ TsG := List.mem_of_getElem? (i := 492) rfl
set_option maxRecDepth 100000 in
theorem ts_443 : Cond.methodLink "ClassifySortLaw" 31 y_M_remove ∈ TsG := List.mem_of_getElem? (i := 493) rfl
set_option maxRecDepth 100000 in
theorem ts_444 : Cond.instanceMethod y_M_remove ∈ TsG := List.mem_of_getElem? (i := 494) rfl
set_option maxRecDepth 100000 in
theorem ts_445 : Cond.selects "ClassifySortModel" y_M_remove y_M_remove ∈ TsG := List.mem_of_getElem? (i := 495) rfl
set_option maxRecDepth 100000 in
theorem ts_446 : Cond.code y_X_fuel prog_1_method_6_code 3 (some .int) ∈ TsG := List.mem_of_getElem? (i := 496) rfl
set_option maxRecDepth 100000 in
theorem ts_447 : Cond.methodLink "ClassifySortLaw" 32 y_X_fuel ∈ TsG := List.mem_of_getElem? (i := 497) rfl
set_option maxRecDepth 100000 in
theorem ts_448 : Cond.instanceMethod y_X_fuel ∈ TsG := List.mem_of_getElem? (i := 498) rfl
set_option maxRecDepth 100000 in
theorem ts_449 : Cond.selects "ClassifySort" y_X_fuel y_X_fuel ∈ TsG := List.mem_of_getElem? (i := 499) rfl
set_option maxRecDepth 100000 in
theorem ts_450 : Cond.code y_M_fuel prog_7_method_22_code 4 (some .int) ∈ TsG := List.mem_of_getElem? (i := 500) rfl
set_option maxRecDepth 100000 in
theorem ts_451 : Cond.methodLink "ClassifySortLaw" 35 y_M_fuel ∈ TsG := List.mem_of_getElem? (i := 501) rfl
set_option maxRecDepth 100000 in
theorem ts_452 : Cond.instanceMethod y_M_fuel ∈ TsG := List.mem_of_getElem? (i := 502) rfl
set_option maxRecDepth 100000 in
theorem ts_453 : Cond.selects "ClassifySortModel" y_M_fuel y_M_fuel ∈ TsG := List.mem_of_getElem? (i := 503) rfl
set_option maxRecDepth 100000 in
theorem ts_454 : Cond.code y_X_known prog_1_method_7_code 3 (some .int) ∈ TsG := List.mem_of_getElem? (i := 504) rfl
set_option maxRecDepth 100000 in
theorem ts_455 : Cond.methodLink "ClassifySortLaw" 36 y_X_known ∈ TsG := List.mem_of_getElem? (i := 505) rfl
set_option maxRecDepth 100000 in
theorem ts_456 : Cond.instanceMethod y_X_known ∈ TsG := List.mem_of_getElem? (i := 506) rfl
set_option maxRecDepth 100000 in
theorem ts_457 : Cond.selects "ClassifySort" y_X_known y_X_known ∈ TsG := List.mem_of_getElem? (i := 507) rfl
set_option maxRecDepth 100000 in
theorem ts_458 : Cond.code y_M_known prog_7_method_23_code 4 (some .int) ∈ TsG := List.mem_of_getElem? (i := 508) rfl
set_option maxRecDepth 100000 in
theorem ts_459 : Cond.methodLink "ClassifySortLaw" 40 y_M_known ∈ TsG := List.mem_of_getElem? (i := 509) rfl
set_option maxRecDepth 100000 in
theorem ts_460 : Cond.instanceMethod y_M_known ∈ TsG := List.mem_of_getElem? (i := 510) rfl
set_option maxRecDepth 100000 in
theorem ts_461 : Cond.selects "ClassifySortModel" y_M_known y_M_known ∈ TsG := List.mem_of_getElem? (i := 511) rfl
set_option maxRecDepth 100000 in
theorem ts_462 : Cond.code y_X_ask prog_1_method_8_code 3 (some .int) ∈ TsG := List.mem_of_getElem? (i := 512) rfl
set_option maxRecDepth 100000 in
theorem ts_463 : Cond.methodLink "ClassifySortLaw" 41 y_X_ask ∈ TsG := List.mem_of_getElem? (i := 513) rfl
set_option maxRecDepth 100000 in
theorem ts_464 : Cond.instanceMethod y_X_ask ∈ TsG := List.mem_of_getElem? (i := 514) rfl
set_option maxRecDepth 100000 in
theorem ts_465 : Cond.selects "ClassifySort" y_X_ask y_X_ask ∈ TsG := List.mem_of_getElem? (i := 515) rfl
set_option maxRecDepth 100000 in
theorem ts_466 : Cond.code y_M_ask prog_7_method_24_code 4 (some .int) ∈ TsG := List.mem_of_getElem? (i := 516) rfl
set_option maxRecDepth 100000 in
theorem ts_467 : Cond.methodLink "ClassifySortLaw" 44 y_M_ask ∈ TsG := List.mem_of_getElem? (i := 517) rfl
set_option maxRecDepth 100000 in
theorem ts_468 : Cond.instanceMethod y_M_ask ∈ TsG := List.mem_of_getElem? (i := 518) rfl
set_option maxRecDepth 100000 in
theorem ts_469 : Cond.selects "ClassifySortModel" y_M_ask y_M_ask ∈ TsG := List.mem_of_getElem? (i := 519) rfl
set_option maxRecDepth 100000 in
theorem ts_470 : Cond.code y_X_run prog_1_method_9_code 2 (some .int) ∈ TsG := List.mem_of_getElem? (i := 520) rfl
set_option maxRecDepth 100000 in
theorem ts_471 : Cond.methodLink "ClassifySortLaw" 45 y_X_run ∈ TsG := List.mem_of_getElem? (i := 521) rfl
set_option maxRecDepth 100000 in
theorem ts_472 : Cond.instanceMethod y_X_run ∈ TsG := List.mem_of_getElem? (i := 522) rfl
set_option maxRecDepth 100000 in
theorem ts_473 : Cond.selects "ClassifySort" y_X_run y_X_run ∈ TsG := List.mem_of_getElem? (i := 523) rfl
set_option maxRecDepth 100000 in
theorem ts_474 : Cond.code y_M_run prog_7_method_30_code 2 (some .int) ∈ TsG := List.mem_of_getElem? (i := 524) rfl
set_option maxRecDepth 100000 in
theorem ts_475 : Cond.methodLink "ClassifySortLaw" 48 y_M_run ∈ TsG := List.mem_of_getElem? (i := 525) rfl
set_option maxRecDepth 100000 in
theorem ts_476 : Cond.instanceMethod y_M_run ∈ TsG := List.mem_of_getElem? (i := 526) rfl
set_option maxRecDepth 100000 in
theorem ts_477 : Cond.selects "ClassifySortModel" y_M_run y_M_run ∈ TsG := List.mem_of_getElem? (i := 527) rfl
set_option maxRecDepth 100000 in
theorem ts_478 : Cond.code y_X_parent prog_1_method_10_code 4 (some .int) ∈ TsG := List.mem_of_getElem? (i := 528) rfl
set_option maxRecDepth 100000 in
theorem ts_479 : Cond.methodLink "ClassifySortLaw" 49 y_X_parent ∈ TsG := List.mem_of_getElem? (i := 529) rfl
set_option maxRecDepth 100000 in
theorem ts_480 : Cond.instanceMethod y_X_parent ∈ TsG := List.mem_of_getElem? (i := 530) rfl
set_option maxRecDepth 100000 in
theorem ts_481 : Cond.selects "ClassifySort" y_X_parent y_X_parent ∈ TsG := List.mem_of_getElem? (i := 531) rfl
set_option maxRecDepth 100000 in
theorem ts_482 : Cond.code y_M_parent prog_7_method_33_code 6 (some .int) ∈ TsG := List.mem_of_getElem? (i := 532) rfl
set_option maxRecDepth 100000 in
theorem ts_483 : Cond.methodLink "ClassifySortLaw" 52 y_M_parent ∈ TsG := List.mem_of_getElem? (i := 533) rfl
set_option maxRecDepth 100000 in
theorem ts_484 : Cond.instanceMethod y_M_parent ∈ TsG := List.mem_of_getElem? (i := 534) rfl
set_option maxRecDepth 100000 in
theorem ts_485 : Cond.selects "ClassifySortModel" y_M_parent y_M_parent ∈ TsG := List.mem_of_getElem? (i := 535) rfl
set_option maxRecDepth 100000 in
theorem ts_486 : Cond.code y_X_child prog_1_method_11_code 4 (some .int) ∈ TsG := List.mem_of_getElem? (i := 536) rfl
set_option maxRecDepth 100000 in
theorem ts_487 : Cond.methodLink "ClassifySortLaw" 53 y_X_child ∈ TsG := List.mem_of_getElem? (i := 537) rfl
set_option maxRecDepth 100000 in
theorem ts_488 : Cond.instanceMethod y_X_child ∈ TsG := List.mem_of_getElem? (i := 538) rfl
set_option maxRecDepth 100000 in
theorem ts_489 : Cond.selects "ClassifySort" y_X_child y_X_child ∈ TsG := List.mem_of_getElem? (i := 539) rfl
set_option maxRecDepth 100000 in
theorem ts_490 : Cond.code y_M_child prog_7_method_34_code 6 (some .int) ∈ TsG := List.mem_of_getElem? (i := 540) rfl
set_option maxRecDepth 100000 in
theorem ts_491 : Cond.methodLink "ClassifySortLaw" 56 y_M_child ∈ TsG := List.mem_of_getElem? (i := 541) rfl
set_option maxRecDepth 100000 in
theorem ts_492 : Cond.instanceMethod y_M_child ∈ TsG := List.mem_of_getElem? (i := 542) rfl
set_option maxRecDepth 100000 in
theorem ts_493 : Cond.selects "ClassifySortModel" y_M_child y_M_child ∈ TsG := List.mem_of_getElem? (i := 543) rfl
set_option maxRecDepth 100000 in
theorem ts_494 : Cond.code y_X_equal prog_1_method_12_code 3 (some .int) ∈ TsG := List.mem_of_getElem? (i := 544) rfl
set_option maxRecDepth 100000 in
theorem ts_495 : Cond.methodLink "ClassifySortLaw" 57 y_X_equal ∈ TsG := List.mem_of_getElem? (i := 545) rfl
set_option maxRecDepth 100000 in
theorem ts_496 : Cond.instanceMethod y_X_equal ∈ TsG := List.mem_of_getElem? (i := 546) rfl
set_option maxRecDepth 100000 in
theorem ts_497 : Cond.selects "ClassifySort" y_X_equal y_X_equal ∈ TsG := List.mem_of_getElem? (i := 547) rfl
set_option maxRecDepth 100000 in
theorem ts_498 : Cond.code y_M_equal prog_7_method_35_code 6 (some .int) ∈ TsG := List.mem_of_getElem? (i := 548) rfl
set_option maxRecDepth 100000 in
theorem ts_499 : Cond.methodLink "ClassifySortLaw" 60 y_M_equal ∈ TsG := List.mem_of_getElem? (i := 549) rfl
set_option maxRecDepth 100000 in
theorem ts_500 : Cond.instanceMethod y_M_equal ∈ TsG := List.mem_of_getElem? (i := 550) rfl
set_option maxRecDepth 100000 in
theorem ts_501 : Cond.selects "ClassifySortModel" y_M_equal y_M_equal ∈ TsG := List.mem_of_getElem? (i := 551) rfl
set_option maxRecDepth 100000 in
theorem ts_502 : Cond.code y_X_empty prog_1_method_13_code 2 (some .int) ∈ TsG := List.mem_of_getElem? (i := 552) rfl
set_option maxRecDepth 100000 in
theorem ts_503 : Cond.methodLink "ClassifySortLaw" 61 y_X_empty ∈ TsG := List.mem_of_getElem? (i := 553) rfl
set_option maxRecDepth 100000 in
theorem ts_504 : Cond.instanceMethod y_X_empty ∈ TsG := List.mem_of_getElem? (i := 554) rfl
set_option maxRecDepth 100000 in
theorem ts_505 : Cond.selects "ClassifySort" y_X_empty y_X_empty ∈ TsG := List.mem_of_getElem? (i := 555) rfl
set_option maxRecDepth 100000 in
theorem ts_506 : Cond.code y_M_empty prog_7_method_36_code 4 (some .int) ∈ TsG := List.mem_of_getElem? (i := 556) rfl
set_option maxRecDepth 100000 in
theorem ts_507 : Cond.methodLink "ClassifySortLaw" 64 y_M_empty ∈ TsG := List.mem_of_getElem? (i := 557) rfl
set_option maxRecDepth 100000 in
theorem ts_508 : Cond.instanceMethod y_M_empty ∈ TsG := List.mem_of_getElem? (i := 558) rfl
set_option maxRecDepth 100000 in
theorem ts_509 : Cond.selects "ClassifySortModel" y_M_empty y_M_empty ∈ TsG := List.mem_of_getElem? (i := 559) rfl
set_option maxRecDepth 100000 in
theorem ts_510 : Cond.code y_X_open prog_1_method_14_code 6 (some .int) ∈ TsG := List.mem_of_getElem? (i := 560) rfl
set_option maxRecDepth 100000 in
theorem ts_511 : Cond.methodLink "ClassifySortLaw" 65 y_X_open ∈ TsG := List.mem_of_getElem? (i := 561) rfl
set_option maxRecDepth 100000 in
theorem ts_512 : Cond.instanceMethod y_X_open ∈ TsG := List.mem_of_getElem? (i := 562) rfl
set_option maxRecDepth 100000 in
theorem ts_513 : Cond.selects "ClassifySort" y_X_open y_X_open ∈ TsG := List.mem_of_getElem? (i := 563) rfl
set_option maxRecDepth 100000 in
theorem ts_514 : Cond.code y_M_open prog_7_method_37_code 5 (some .int) ∈ TsG := List.mem_of_getElem? (i := 564) rfl
set_option maxRecDepth 100000 in
theorem ts_515 : Cond.methodLink "ClassifySortLaw" 68 y_M_open ∈ TsG := List.mem_of_getElem? (i := 565) rfl
set_option maxRecDepth 100000 in
theorem ts_516 : Cond.instanceMethod y_M_open ∈ TsG := List.mem_of_getElem? (i := 566) rfl
set_option maxRecDepth 100000 in
theorem ts_517 : Cond.selects "ClassifySortModel" y_M_open y_M_open ∈ TsG := List.mem_of_getElem? (i := 567) rfl
set_option maxRecDepth 100000 in
theorem ts_518 : Cond.code y_X_put prog_1_method_15_code 3 (some .int) ∈ TsG := List.mem_of_getElem? (i := 568) rfl
set_option maxRecDepth 100000 in
theorem ts_519 : Cond.methodLink "ClassifySortLaw" 69 y_X_put ∈ TsG := List.mem_of_getElem? (i := 569) rfl
set_option maxRecDepth 100000 in
theorem ts_520 : Cond.instanceMethod y_X_put ∈ TsG := List.mem_of_getElem? (i := 570) rfl
set_option maxRecDepth 100000 in
theorem ts_521 : Cond.selects "ClassifySort" y_X_put y_X_put ∈ TsG := List.mem_of_getElem? (i := 571) rfl
set_option maxRecDepth 100000 in
theorem ts_522 : Cond.code y_M_put prog_7_method_38_code 4 (some .int) ∈ TsG := List.mem_of_getElem? (i := 572) rfl
set_option maxRecDepth 100000 in
theorem ts_523 : Cond.methodLink "ClassifySortLaw" 72 y_M_put ∈ TsG := List.mem_of_getElem? (i := 573) rfl
set_option maxRecDepth 100000 in
theorem ts_524 : Cond.instanceMethod y_M_put ∈ TsG := List.mem_of_getElem? (i := 574) rfl
set_option maxRecDepth 100000 in
theorem ts_525 : Cond.selects "ClassifySortModel" y_M_put y_M_put ∈ TsG := List.mem_of_getElem? (i := 575) rfl
set_option maxRecDepth 100000 in
theorem ts_526 : Cond.code y_X_type prog_1_method_16_code 3 (some .int) ∈ TsG := List.mem_of_getElem? (i := 576) rfl
set_option maxRecDepth 100000 in
theorem ts_527 : Cond.methodLink "ClassifySortLaw" 73 y_X_type ∈ TsG := List.mem_of_getElem? (i := 577) rfl
set_option maxRecDepth 100000 in
theorem ts_528 : Cond.instanceMethod y_X_type ∈ TsG := List.mem_of_getElem? (i := 578) rfl
set_option maxRecDepth 100000 in
theorem ts_529 : Cond.selects "ClassifySort" y_X_type y_X_type ∈ TsG := List.mem_of_getElem? (i := 579) rfl
set_option maxRecDepth 100000 in
theorem ts_530 : Cond.code y_M_type prog_7_method_40_code 7 (some .int) ∈ TsG := List.mem_of_getElem? (i := 580) rfl
set_option maxRecDepth 100000 in
theorem ts_531 : Cond.methodLink "ClassifySortLaw" 76 y_M_type ∈ TsG := List.mem_of_getElem? (i := 581) rfl
set_option maxRecDepth 100000 in
theorem ts_532 : Cond.instanceMethod y_M_type ∈ TsG := List.mem_of_getElem? (i := 582) rfl
set_option maxRecDepth 100000 in
theorem ts_533 : Cond.selects "ClassifySortModel" y_M_type y_M_type ∈ TsG := List.mem_of_getElem? (i := 583) rfl
set_option maxRecDepth 100000 in
theorem ts_534 : Cond.code y_X_trace prog_1_method_17_code 5 (some .int) ∈ TsG := List.mem_of_getElem? (i := 584) rfl
set_option maxRecDepth 100000 in
theorem ts_535 : Cond.methodLink "ClassifySortLaw" 77 y_X_trace ∈ TsG := List.mem_of_getElem? (i := 585) rfl
set_option maxRecDepth 100000 in
theorem ts_536 : Cond.instanceMethod y_X_trace ∈ TsG := List.mem_of_getElem? (i := 586) rfl
set_option maxRecDepth 100000 in
theorem ts_537 : Cond.selects "ClassifySort" y_X_trace y_X_trace ∈ TsG := List.mem_of_getElem? (i := 587) rfl
set_option maxRecDepth 100000 in
theorem ts_538 : Cond.code y_M_trace prog_7_method_41_code 8 (some .int) ∈ TsG := List.mem_of_getElem? (i := 588) rfl
set_option maxRecDepth 100000 in
theorem ts_539 : Cond.methodLink "ClassifySortLaw" 80 y_M_trace ∈ TsG := List.mem_of_getElem? (i := 589) rfl
set_option maxRecDepth 100000 in
theorem ts_540 : Cond.instanceMethod y_M_trace ∈ TsG := List.mem_of_getElem? (i := 590) rfl
set_option maxRecDepth 100000 in
theorem ts_541 : Cond.selects "ClassifySortModel" y_M_trace y_M_trace ∈ TsG := List.mem_of_getElem? (i := 591) rfl
set_option maxRecDepth 100000 in
theorem ts_542 : Cond.code y_X_count prog_1_method_18_code 2 (some .int) ∈ TsG := List.mem_of_getElem? (i := 592) rfl
set_option maxRecDepth 100000 in
theorem ts_543 : Cond.methodLink "ClassifySortLaw" 81 y_X_count ∈ TsG := List.mem_of_getElem? (i := 593) rfl
set_option maxRecDepth 100000 in
theorem ts_544 : Cond.instanceMethod y_X_count ∈ TsG := List.mem_of_getElem? (i := 594) rfl
set_option maxRecDepth 100000 in
theorem ts_545 : Cond.selects "ClassifySort" y_X_count y_X_count ∈ TsG := List.mem_of_getElem? (i := 595) rfl
set_option maxRecDepth 100000 in
theorem ts_546 : Cond.code y_M_count prog_7_method_42_code 4 (some .int) ∈ TsG := List.mem_of_getElem? (i := 596) rfl
set_option maxRecDepth 100000 in
theorem ts_547 : Cond.methodLink "ClassifySortLaw" 84 y_M_count ∈ TsG := List.mem_of_getElem? (i := 597) rfl
set_option maxRecDepth 100000 in
theorem ts_548 : Cond.instanceMethod y_M_count ∈ TsG := List.mem_of_getElem? (i := 598) rfl
set_option maxRecDepth 100000 in
theorem ts_549 : Cond.selects "ClassifySortModel" y_M_count y_M_count ∈ TsG := List.mem_of_getElem? (i := 599) rfl
set_option maxRecDepth 100000 in
theorem ts_550 : Cond.classLink "ClassifySortLaw" 7 "ClassifySort" ∈ TsG := List.mem_of_getElem? (i := 600) rfl
set_option maxRecDepth 100000 in
theorem ts_551 : Cond.instantiable "ClassifySort" 9 ∈ TsG := List.mem_of_getElem? (i := 601) rfl
set_option maxRecDepth 100000 in
theorem ts_552 : Cond.code y_X_init prog_1_method_1_code 1 none ∈ TsG := List.mem_of_getElem? (i := 602) rfl
set_option maxRecDepth 100000 in
theorem ts_553 : Cond.methodLink "ClassifySortLaw" 9 y_X_init ∈ TsG := List.mem_of_getElem? (i := 603) rfl
set_option maxRecDepth 100000 in
theorem ts_554 : Cond.instanceMethod y_X_init ∈ TsG := List.mem_of_getElem? (i := 604) rfl
set_option maxRecDepth 100000 in
theorem ts_555 : Cond.classLink "ClassifySortLaw" 10 "ClassifySortModel" ∈ TsG := List.mem_of_getElem? (i := 605) rfl
set_option maxRecDepth 100000 in
theorem ts_556 : Cond.instantiable "ClassifySortModel" 23 ∈ TsG := List.mem_of_getElem? (i := 606) rfl
set_option maxRecDepth 100000 in
theorem ts_557 : Cond.code y_M_init prog_7_method_1_code 2 none ∈ TsG := List.mem_of_getElem? (i := 607) rfl
set_option maxRecDepth 100000 in
theorem ts_558 : Cond.methodLink "ClassifySortLaw" 12 y_M_init ∈ TsG := List.mem_of_getElem? (i := 608) rfl
set_option maxRecDepth 100000 in
theorem ts_559 : Cond.instanceMethod y_M_init ∈ TsG := List.mem_of_getElem? (i := 609) rfl
theorem in_0 : ∀ w ∈ u_ws "ClassifySort" T_X 9, w ∈ TsG := by
  intro w hw
  obtain ⟨k, hk, rfl⟩ := List.mem_map.mp hw
  have hk := List.mem_range.mp hk
  match k, hk with
  | 0, _ => exact List.mem_of_getElem? (i := 0) rfl
  | 1, _ => exact List.mem_of_getElem? (i := 1) rfl
  | 2, _ => exact List.mem_of_getElem? (i := 2) rfl
  | 3, _ => exact List.mem_of_getElem? (i := 3) rfl
  | 4, _ => exact List.mem_of_getElem? (i := 4) rfl
  | 5, _ => exact List.mem_of_getElem? (i := 5) rfl
  | 6, _ => exact List.mem_of_getElem? (i := 6) rfl
  | 7, _ => exact List.mem_of_getElem? (i := 7) rfl
  | 8, _ => exact List.mem_of_getElem? (i := 8) rfl
  | k + 9, h => exact absurd h (by omega)
theorem in_1 : ∀ w ∈ u_ws "ClassifySort$Axioms" T_XA 4, w ∈ TsG := by
  intro w hw
  obtain ⟨k, hk, rfl⟩ := List.mem_map.mp hw
  have hk := List.mem_range.mp hk
  match k, hk with
  | 0, _ => exact List.mem_of_getElem? (i := 9) rfl
  | 1, _ => exact List.mem_of_getElem? (i := 10) rfl
  | 2, _ => exact List.mem_of_getElem? (i := 11) rfl
  | 3, _ => exact List.mem_of_getElem? (i := 12) rfl
  | k + 4, h => exact absurd h (by omega)
theorem in_2 : ∀ w ∈ u_ws "ClassifySort$Reasoner" T_XR 5, w ∈ TsG := by
  intro w hw
  obtain ⟨k, hk, rfl⟩ := List.mem_map.mp hw
  have hk := List.mem_range.mp hk
  match k, hk with
  | 0, _ => exact List.mem_of_getElem? (i := 13) rfl
  | 1, _ => exact List.mem_of_getElem? (i := 14) rfl
  | 2, _ => exact List.mem_of_getElem? (i := 15) rfl
  | 3, _ => exact List.mem_of_getElem? (i := 16) rfl
  | 4, _ => exact List.mem_of_getElem? (i := 17) rfl
  | k + 5, h => exact absurd h (by omega)
theorem in_3 : ∀ w ∈ u_ws "ClassifySort$Knowledge" T_XK 4, w ∈ TsG := by
  intro w hw
  obtain ⟨k, hk, rfl⟩ := List.mem_map.mp hw
  have hk := List.mem_range.mp hk
  match k, hk with
  | 0, _ => exact List.mem_of_getElem? (i := 18) rfl
  | 1, _ => exact List.mem_of_getElem? (i := 19) rfl
  | 2, _ => exact List.mem_of_getElem? (i := 20) rfl
  | 3, _ => exact List.mem_of_getElem? (i := 21) rfl
  | k + 4, h => exact absurd h (by omega)
theorem in_4 : ∀ w ∈ u_ws "ClassifySort$Order" T_XO 5, w ∈ TsG := by
  intro w hw
  obtain ⟨k, hk, rfl⟩ := List.mem_map.mp hw
  have hk := List.mem_range.mp hk
  match k, hk with
  | 0, _ => exact List.mem_of_getElem? (i := 22) rfl
  | 1, _ => exact List.mem_of_getElem? (i := 23) rfl
  | 2, _ => exact List.mem_of_getElem? (i := 24) rfl
  | 3, _ => exact List.mem_of_getElem? (i := 25) rfl
  | 4, _ => exact List.mem_of_getElem? (i := 26) rfl
  | k + 5, h => exact absurd h (by omega)
theorem in_5 : ∀ w ∈ u_ws "ClassifySortModel" T_M 23, w ∈ TsG := by
  intro w hw
  obtain ⟨k, hk, rfl⟩ := List.mem_map.mp hw
  have hk := List.mem_range.mp hk
  match k, hk with
  | 0, _ => exact List.mem_of_getElem? (i := 27) rfl
  | 1, _ => exact List.mem_of_getElem? (i := 28) rfl
  | 2, _ => exact List.mem_of_getElem? (i := 29) rfl
  | 3, _ => exact List.mem_of_getElem? (i := 30) rfl
  | 4, _ => exact List.mem_of_getElem? (i := 31) rfl
  | 5, _ => exact List.mem_of_getElem? (i := 32) rfl
  | 6, _ => exact List.mem_of_getElem? (i := 33) rfl
  | 7, _ => exact List.mem_of_getElem? (i := 34) rfl
  | 8, _ => exact List.mem_of_getElem? (i := 35) rfl
  | 9, _ => exact List.mem_of_getElem? (i := 36) rfl
  | 10, _ => exact List.mem_of_getElem? (i := 37) rfl
  | 11, _ => exact List.mem_of_getElem? (i := 38) rfl
  | 12, _ => exact List.mem_of_getElem? (i := 39) rfl
  | 13, _ => exact List.mem_of_getElem? (i := 40) rfl
  | 14, _ => exact List.mem_of_getElem? (i := 41) rfl
  | 15, _ => exact List.mem_of_getElem? (i := 42) rfl
  | 16, _ => exact List.mem_of_getElem? (i := 43) rfl
  | 17, _ => exact List.mem_of_getElem? (i := 44) rfl
  | 18, _ => exact List.mem_of_getElem? (i := 45) rfl
  | 19, _ => exact List.mem_of_getElem? (i := 46) rfl
  | 20, _ => exact List.mem_of_getElem? (i := 47) rfl
  | 21, _ => exact List.mem_of_getElem? (i := 48) rfl
  | 22, _ => exact List.mem_of_getElem? (i := 49) rfl
  | k + 23, h => exact absurd h (by omega)

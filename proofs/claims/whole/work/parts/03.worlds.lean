def wX (s : jS) (a : jB) : jW := [.inr (0, [.ref 1, .ref 4, .ref 6, .ref 11, .ref 12, .int (s 0), .int (s 1), .int (s 2), .int (s 3)]), .inr (1, [.ref 2, .ref 3, .int (s 4), .int (s 5)]), .inl (0, 40, a 2), .inl (0, 40, a 3), .inr (2, [.ref 1, .ref 5, .int (s 6), .int (s 7), .int (s 8)]), .inl (0, 20, a 5), .inr (3, [.ref 7, .ref 8, .ref 9, .ref 10]), .inl (0, 21, a 7), .inl (0, 21, a 8), .inl (0, 21, a 9), .inl (0, 21, a 10), .inr (4, [.ref 6, .ref 4, .int (s 9), .int (s 10), .int (s 11)]), .inl (0, 8, a 12)]
theorem wX_at0 (s : jS) (a : jB) : (wX s a)[0]? = some (.inr (0, [.ref 1, .ref 4, .ref 6, .ref 11, .ref 12, .int (s 0), .int (s 1), .int (s 2), .int (s 3)])) := rfl
theorem wX_at1 (s : jS) (a : jB) : (wX s a)[1]? = some (.inr (1, [.ref 2, .ref 3, .int (s 4), .int (s 5)])) := rfl
theorem wX_at2 (s : jS) (a : jB) : (wX s a)[2]? = some (.inl (0, 40, a 2)) := rfl
theorem wX_at3 (s : jS) (a : jB) : (wX s a)[3]? = some (.inl (0, 40, a 3)) := rfl
theorem wX_at4 (s : jS) (a : jB) : (wX s a)[4]? = some (.inr (2, [.ref 1, .ref 5, .int (s 6), .int (s 7), .int (s 8)])) := rfl
theorem wX_at5 (s : jS) (a : jB) : (wX s a)[5]? = some (.inl (0, 20, a 5)) := rfl
theorem wX_at6 (s : jS) (a : jB) : (wX s a)[6]? = some (.inr (3, [.ref 7, .ref 8, .ref 9, .ref 10])) := rfl
theorem wX_at7 (s : jS) (a : jB) : (wX s a)[7]? = some (.inl (0, 21, a 7)) := rfl
theorem wX_at8 (s : jS) (a : jB) : (wX s a)[8]? = some (.inl (0, 21, a 8)) := rfl
theorem wX_at9 (s : jS) (a : jB) : (wX s a)[9]? = some (.inl (0, 21, a 9)) := rfl
theorem wX_at10 (s : jS) (a : jB) : (wX s a)[10]? = some (.inl (0, 21, a 10)) := rfl
theorem wX_at11 (s : jS) (a : jB) : (wX s a)[11]? = some (.inr (4, [.ref 6, .ref 4, .int (s 9), .int (s 10), .int (s 11)])) := rfl
theorem wX_at12 (s : jS) (a : jB) : (wX s a)[12]? = some (.inl (0, 8, a 12)) := rfl
theorem wX_put0 (s : jS) (a : jB) (x : Int32) : (wX s a).set 0 (.inr (0, ([.ref 1, .ref 4, .ref 6, .ref 11, .ref 12, .int (s 0), .int (s 1), .int (s 2), .int (s 3)] : List Value).set 5 (.int x))) = wX (upd s 0 x) a := rfl
theorem wX_put1 (s : jS) (a : jB) (x : Int32) : (wX s a).set 0 (.inr (0, ([.ref 1, .ref 4, .ref 6, .ref 11, .ref 12, .int (s 0), .int (s 1), .int (s 2), .int (s 3)] : List Value).set 6 (.int x))) = wX (upd s 1 x) a := rfl
theorem wX_put2 (s : jS) (a : jB) (x : Int32) : (wX s a).set 0 (.inr (0, ([.ref 1, .ref 4, .ref 6, .ref 11, .ref 12, .int (s 0), .int (s 1), .int (s 2), .int (s 3)] : List Value).set 7 (.int x))) = wX (upd s 2 x) a := rfl
theorem wX_put3 (s : jS) (a : jB) (x : Int32) : (wX s a).set 0 (.inr (0, ([.ref 1, .ref 4, .ref 6, .ref 11, .ref 12, .int (s 0), .int (s 1), .int (s 2), .int (s 3)] : List Value).set 8 (.int x))) = wX (upd s 3 x) a := rfl
theorem wX_put4 (s : jS) (a : jB) (x : Int32) : (wX s a).set 1 (.inr (1, ([.ref 2, .ref 3, .int (s 4), .int (s 5)] : List Value).set 2 (.int x))) = wX (upd s 4 x) a := rfl
theorem wX_put5 (s : jS) (a : jB) (x : Int32) : (wX s a).set 1 (.inr (1, ([.ref 2, .ref 3, .int (s 4), .int (s 5)] : List Value).set 3 (.int x))) = wX (upd s 5 x) a := rfl
theorem wX_ast2 (s : jS) (a : jB) (f : Nat → Int32) : (wX s a).set 2 (.inl (0, 40, f)) = wX s (va_up a 2 f) := rfl
theorem wX_ast3 (s : jS) (a : jB) (f : Nat → Int32) : (wX s a).set 3 (.inl (0, 40, f)) = wX s (va_up a 3 f) := rfl
theorem wX_put6 (s : jS) (a : jB) (x : Int32) : (wX s a).set 4 (.inr (2, ([.ref 1, .ref 5, .int (s 6), .int (s 7), .int (s 8)] : List Value).set 2 (.int x))) = wX (upd s 6 x) a := rfl
theorem wX_put7 (s : jS) (a : jB) (x : Int32) : (wX s a).set 4 (.inr (2, ([.ref 1, .ref 5, .int (s 6), .int (s 7), .int (s 8)] : List Value).set 3 (.int x))) = wX (upd s 7 x) a := rfl
theorem wX_put8 (s : jS) (a : jB) (x : Int32) : (wX s a).set 4 (.inr (2, ([.ref 1, .ref 5, .int (s 6), .int (s 7), .int (s 8)] : List Value).set 4 (.int x))) = wX (upd s 8 x) a := rfl
theorem wX_ast5 (s : jS) (a : jB) (f : Nat → Int32) : (wX s a).set 5 (.inl (0, 20, f)) = wX s (va_up a 5 f) := rfl
theorem wX_ast7 (s : jS) (a : jB) (f : Nat → Int32) : (wX s a).set 7 (.inl (0, 21, f)) = wX s (va_up a 7 f) := rfl
theorem wX_ast8 (s : jS) (a : jB) (f : Nat → Int32) : (wX s a).set 8 (.inl (0, 21, f)) = wX s (va_up a 8 f) := rfl
theorem wX_ast9 (s : jS) (a : jB) (f : Nat → Int32) : (wX s a).set 9 (.inl (0, 21, f)) = wX s (va_up a 9 f) := rfl
theorem wX_ast10 (s : jS) (a : jB) (f : Nat → Int32) : (wX s a).set 10 (.inl (0, 21, f)) = wX s (va_up a 10 f) := rfl
theorem wX_put9 (s : jS) (a : jB) (x : Int32) : (wX s a).set 11 (.inr (4, ([.ref 6, .ref 4, .int (s 9), .int (s 10), .int (s 11)] : List Value).set 2 (.int x))) = wX (upd s 9 x) a := rfl
theorem wX_put10 (s : jS) (a : jB) (x : Int32) : (wX s a).set 11 (.inr (4, ([.ref 6, .ref 4, .int (s 9), .int (s 10), .int (s 11)] : List Value).set 3 (.int x))) = wX (upd s 10 x) a := rfl
theorem wX_put11 (s : jS) (a : jB) (x : Int32) : (wX s a).set 11 (.inr (4, ([.ref 6, .ref 4, .int (s 9), .int (s 10), .int (s 11)] : List Value).set 4 (.int x))) = wX (upd s 11 x) a := rfl
theorem wX_ast12 (s : jS) (a : jB) (f : Nat → Int32) : (wX s a).set 12 (.inl (0, 8, f)) = wX s (va_up a 12 f) := rfl
def wM (s : jS) (a : jB) : jW := [.inr (5, [.int (s 0), .int (s 1), .int (s 2), .int (s 3), .int (s 4), .int (s 5), .int (s 6), .ref 1, .ref 2, .ref 3, .ref 4, .ref 5, .ref 6, .ref 7, .ref 8, .ref 9, .ref 10, .ref 11, .ref 12, .int (s 7), .ref 13, .ref 14, .int (s 8)]), .inl (0, 40, a 1), .inl (0, 40, a 2), .inl (0, 40, a 3), .inl (1, 40, a 4), .inl (1, 160, a 5), .inl (0, 420, a 6), .inl (0, 420, a 7), .inl (1, 20, a 8), .inl (1, 20, a 9), .inl (1, 21, a 10), .inl (0, 21, a 11), .inl (0, 40, a 12), .inl (1, 40, a 13), .inl (1, 21, a 14)]
theorem wM_at0 (s : jS) (a : jB) : (wM s a)[0]? = some (.inr (5, [.int (s 0), .int (s 1), .int (s 2), .int (s 3), .int (s 4), .int (s 5), .int (s 6), .ref 1, .ref 2, .ref 3, .ref 4, .ref 5, .ref 6, .ref 7, .ref 8, .ref 9, .ref 10, .ref 11, .ref 12, .int (s 7), .ref 13, .ref 14, .int (s 8)])) := rfl
theorem wM_at1 (s : jS) (a : jB) : (wM s a)[1]? = some (.inl (0, 40, a 1)) := rfl
theorem wM_at2 (s : jS) (a : jB) : (wM s a)[2]? = some (.inl (0, 40, a 2)) := rfl
theorem wM_at3 (s : jS) (a : jB) : (wM s a)[3]? = some (.inl (0, 40, a 3)) := rfl
theorem wM_at4 (s : jS) (a : jB) : (wM s a)[4]? = some (.inl (1, 40, a 4)) := rfl
theorem wM_at5 (s : jS) (a : jB) : (wM s a)[5]? = some (.inl (1, 160, a 5)) := rfl
theorem wM_at6 (s : jS) (a : jB) : (wM s a)[6]? = some (.inl (0, 420, a 6)) := rfl
theorem wM_at7 (s : jS) (a : jB) : (wM s a)[7]? = some (.inl (0, 420, a 7)) := rfl
theorem wM_at8 (s : jS) (a : jB) : (wM s a)[8]? = some (.inl (1, 20, a 8)) := rfl
theorem wM_at9 (s : jS) (a : jB) : (wM s a)[9]? = some (.inl (1, 20, a 9)) := rfl
theorem wM_at10 (s : jS) (a : jB) : (wM s a)[10]? = some (.inl (1, 21, a 10)) := rfl
theorem wM_at11 (s : jS) (a : jB) : (wM s a)[11]? = some (.inl (0, 21, a 11)) := rfl
theorem wM_at12 (s : jS) (a : jB) : (wM s a)[12]? = some (.inl (0, 40, a 12)) := rfl
theorem wM_at13 (s : jS) (a : jB) : (wM s a)[13]? = some (.inl (1, 40, a 13)) := rfl
theorem wM_at14 (s : jS) (a : jB) : (wM s a)[14]? = some (.inl (1, 21, a 14)) := rfl
theorem wM_put0 (s : jS) (a : jB) (x : Int32) : (wM s a).set 0 (.inr (5, ([.int (s 0), .int (s 1), .int (s 2), .int (s 3), .int (s 4), .int (s 5), .int (s 6), .ref 1, .ref 2, .ref 3, .ref 4, .ref 5, .ref 6, .ref 7, .ref 8, .ref 9, .ref 10, .ref 11, .ref 12, .int (s 7), .ref 13, .ref 14, .int (s 8)] : List Value).set 0 (.int x))) = wM (upd s 0 x) a := rfl
theorem wM_put1 (s : jS) (a : jB) (x : Int32) : (wM s a).set 0 (.inr (5, ([.int (s 0), .int (s 1), .int (s 2), .int (s 3), .int (s 4), .int (s 5), .int (s 6), .ref 1, .ref 2, .ref 3, .ref 4, .ref 5, .ref 6, .ref 7, .ref 8, .ref 9, .ref 10, .ref 11, .ref 12, .int (s 7), .ref 13, .ref 14, .int (s 8)] : List Value).set 1 (.int x))) = wM (upd s 1 x) a := rfl
theorem wM_put2 (s : jS) (a : jB) (x : Int32) : (wM s a).set 0 (.inr (5, ([.int (s 0), .int (s 1), .int (s 2), .int (s 3), .int (s 4), .int (s 5), .int (s 6), .ref 1, .ref 2, .ref 3, .ref 4, .ref 5, .ref 6, .ref 7, .ref 8, .ref 9, .ref 10, .ref 11, .ref 12, .int (s 7), .ref 13, .ref 14, .int (s 8)] : List Value).set 2 (.int x))) = wM (upd s 2 x) a := rfl
theorem wM_put3 (s : jS) (a : jB) (x : Int32) : (wM s a).set 0 (.inr (5, ([.int (s 0), .int (s 1), .int (s 2), .int (s 3), .int (s 4), .int (s 5), .int (s 6), .ref 1, .ref 2, .ref 3, .ref 4, .ref 5, .ref 6, .ref 7, .ref 8, .ref 9, .ref 10, .ref 11, .ref 12, .int (s 7), .ref 13, .ref 14, .int (s 8)] : List Value).set 3 (.int x))) = wM (upd s 3 x) a := rfl
theorem wM_put4 (s : jS) (a : jB) (x : Int32) : (wM s a).set 0 (.inr (5, ([.int (s 0), .int (s 1), .int (s 2), .int (s 3), .int (s 4), .int (s 5), .int (s 6), .ref 1, .ref 2, .ref 3, .ref 4, .ref 5, .ref 6, .ref 7, .ref 8, .ref 9, .ref 10, .ref 11, .ref 12, .int (s 7), .ref 13, .ref 14, .int (s 8)] : List Value).set 4 (.int x))) = wM (upd s 4 x) a := rfl
theorem wM_put5 (s : jS) (a : jB) (x : Int32) : (wM s a).set 0 (.inr (5, ([.int (s 0), .int (s 1), .int (s 2), .int (s 3), .int (s 4), .int (s 5), .int (s 6), .ref 1, .ref 2, .ref 3, .ref 4, .ref 5, .ref 6, .ref 7, .ref 8, .ref 9, .ref 10, .ref 11, .ref 12, .int (s 7), .ref 13, .ref 14, .int (s 8)] : List Value).set 5 (.int x))) = wM (upd s 5 x) a := rfl
theorem wM_put6 (s : jS) (a : jB) (x : Int32) : (wM s a).set 0 (.inr (5, ([.int (s 0), .int (s 1), .int (s 2), .int (s 3), .int (s 4), .int (s 5), .int (s 6), .ref 1, .ref 2, .ref 3, .ref 4, .ref 5, .ref 6, .ref 7, .ref 8, .ref 9, .ref 10, .ref 11, .ref 12, .int (s 7), .ref 13, .ref 14, .int (s 8)] : List Value).set 6 (.int x))) = wM (upd s 6 x) a := rfl
theorem wM_put7 (s : jS) (a : jB) (x : Int32) : (wM s a).set 0 (.inr (5, ([.int (s 0), .int (s 1), .int (s 2), .int (s 3), .int (s 4), .int (s 5), .int (s 6), .ref 1, .ref 2, .ref 3, .ref 4, .ref 5, .ref 6, .ref 7, .ref 8, .ref 9, .ref 10, .ref 11, .ref 12, .int (s 7), .ref 13, .ref 14, .int (s 8)] : List Value).set 19 (.int x))) = wM (upd s 7 x) a := rfl
theorem wM_put8 (s : jS) (a : jB) (x : Int32) : (wM s a).set 0 (.inr (5, ([.int (s 0), .int (s 1), .int (s 2), .int (s 3), .int (s 4), .int (s 5), .int (s 6), .ref 1, .ref 2, .ref 3, .ref 4, .ref 5, .ref 6, .ref 7, .ref 8, .ref 9, .ref 10, .ref 11, .ref 12, .int (s 7), .ref 13, .ref 14, .int (s 8)] : List Value).set 22 (.int x))) = wM (upd s 8 x) a := rfl
theorem wM_ast1 (s : jS) (a : jB) (f : Nat → Int32) : (wM s a).set 1 (.inl (0, 40, f)) = wM s (va_up a 1 f) := rfl
theorem wM_ast2 (s : jS) (a : jB) (f : Nat → Int32) : (wM s a).set 2 (.inl (0, 40, f)) = wM s (va_up a 2 f) := rfl
theorem wM_ast3 (s : jS) (a : jB) (f : Nat → Int32) : (wM s a).set 3 (.inl (0, 40, f)) = wM s (va_up a 3 f) := rfl
theorem wM_ast4 (s : jS) (a : jB) (f : Nat → Int32) : (wM s a).set 4 (.inl (1, 40, f)) = wM s (va_up a 4 f) := rfl
theorem wM_ast5 (s : jS) (a : jB) (f : Nat → Int32) : (wM s a).set 5 (.inl (1, 160, f)) = wM s (va_up a 5 f) := rfl
theorem wM_ast6 (s : jS) (a : jB) (f : Nat → Int32) : (wM s a).set 6 (.inl (0, 420, f)) = wM s (va_up a 6 f) := rfl
theorem wM_ast7 (s : jS) (a : jB) (f : Nat → Int32) : (wM s a).set 7 (.inl (0, 420, f)) = wM s (va_up a 7 f) := rfl
theorem wM_ast8 (s : jS) (a : jB) (f : Nat → Int32) : (wM s a).set 8 (.inl (1, 20, f)) = wM s (va_up a 8 f) := rfl
theorem wM_ast9 (s : jS) (a : jB) (f : Nat → Int32) : (wM s a).set 9 (.inl (1, 20, f)) = wM s (va_up a 9 f) := rfl
theorem wM_ast10 (s : jS) (a : jB) (f : Nat → Int32) : (wM s a).set 10 (.inl (1, 21, f)) = wM s (va_up a 10 f) := rfl
theorem wM_ast11 (s : jS) (a : jB) (f : Nat → Int32) : (wM s a).set 11 (.inl (0, 21, f)) = wM s (va_up a 11 f) := rfl
theorem wM_ast12 (s : jS) (a : jB) (f : Nat → Int32) : (wM s a).set 12 (.inl (0, 40, f)) = wM s (va_up a 12 f) := rfl
theorem wM_ast13 (s : jS) (a : jB) (f : Nat → Int32) : (wM s a).set 13 (.inl (1, 40, f)) = wM s (va_up a 13 f) := rfl
theorem wM_ast14 (s : jS) (a : jB) (f : Nat → Int32) : (wM s a).set 14 (.inl (1, 21, f)) = wM s (va_up a 14 f) := rfl

/-! The first state, and the world of both constructors as it. -/
def s0i : List (Nat → Int32) := [(fun _ => 0), (fun _ => 0), (fun j => ([0, 0, 0, 0, 0, 0, 1, 0] : List Int32).getD j 0), (fun _ => 0), (fun _ => 0), (fun j => ([0, 0, -1, 0, 0, 1, 0, -1] : List Int32).getD j 0), (fun _ => 0), (fun _ => 0), (fun _ => 0), (fun _ => 0), (fun _ => 0), (fun j => ([0, 0, 0, 0, 0, 0, 0, 0, 0, 0, 0, 0, 0, 0, 0, 0, 0, -1, 0, 0, 0, 0, 0, 0, 0, 0, 0, 0, 0, 0, 0, 0, 0, 0, 0, 0, 0, 0, 0, 0, 0, 0, 0, 0, 0, 0, 0, 0, 0, 1, 0, 0, 0, 0, 0, 0, 0, 0, 0, 0, 0, 0, 0, 0, 0, 0, -1, -1, 0, 0, 0, 0, 0, 0, 0, 0, 0, 0, 0, 0] : List Int32).getD j 0), (fun _ => 0), (fun _ => 0), (fun _ => 0), (fun _ => 0), (fun _ => 1), (fun _ => 0), (fun _ => 0), (fun _ => 0), (fun _ => 0), (fun _ => 0), (fun _ => 0), (fun _ => 0), (fun _ => 0), (fun _ => 0), (fun _ => 0), (fun _ => 0), (fun _ => 0), (fun _ => 0), (fun _ => 0), (fun _ => 0), (fun _ => 0), (fun _ => 0), (fun _ => 0), (fun _ => 0), (fun _ => 0), (fun _ => 0), (fun _ => 0), (fun _ => 0), (fun _ => 0), (fun _ => 0), (fun _ => 0), (fun _ => 0), (fun _ => 0), (fun _ => 0), (fun _ => 0), (fun _ => 0), (fun _ => 0), (fun _ => 0), (fun _ => 0), (fun _ => 0), (fun _ => 0), (fun _ => 0), (fun _ => 0), (fun _ => 0), (fun _ => 0), (fun _ => 0), (fun _ => 0), (fun _ => 0), (fun _ => 0), (fun _ => 0), (fun _ => 0), (fun _ => 0), (fun _ => 0), (fun _ => 0), (fun _ => 0), (fun _ => 0), (fun _ => 0), (fun _ => 0), (fun _ => 0), (fun _ => 0), (fun _ => 0), (fun _ => 0), (fun _ => 0), (fun _ => 0), (fun _ => 0), (upd (fun _ => 0) 0 1), (fun _ => 0), (fun _ => 0), (fun _ => 0), (fun _ => 0), (fun _ => 0), (fun _ => 0), (fun _ => 0), (fun _ => 0), (fun _ => 0), (fun _ => 0), (fun _ => 0), (fun _ => 0), (fun _ => 0), (fun _ => 0), (fun _ => 0), (fun _ => 0), (fun _ => 0), (fun _ => 0), (fun _ => 0), (fun _ => 0), (fun _ => 0), (fun _ => 0), (fun j => ([0, 0, -1, 0, -1] : List Int32).getD j 0), (fun _ => 0), (fun _ => 0), (fun _ => 0), (fun _ => 0), (fun _ => 0), (fun _ => 0), (fun _ => 0), (fun _ => 0), (fun _ => 0), (fun _ => 0), (fun _ => 0), (fun _ => 0), (fun j => ([0, 0, -1, 0, -1] : List Int32).getD j 0), (fun _ => 0), (fun _ => 0), (fun _ => 0), (fun _ => 0), (fun _ => 0), (fun _ => 0), (fun _ => 0), (fun _ => 0), (fun _ => 0), (fun _ => 0), (fun _ => 0), (fun _ => 0), (fun j => ([0, 0, -1, 0, -1] : List Int32).getD j 0), (fun _ => 0), (fun _ => 0), (fun _ => 0), (fun _ => 0), (fun _ => 0), (fun _ => 0), (fun _ => 0), (fun _ => 0), (fun _ => 0), (fun _ => 0), (fun _ => 0), (fun _ => 0), (fun j => ([0, 0, -1, 0, -1] : List Int32).getD j 0), (fun _ => 0), (fun _ => 0), (fun _ => 0), (fun _ => 0), (fun _ => 0), (fun _ => 0), (fun _ => 0), (fun _ => 0), (fun _ => 0), (fun _ => 0), (fun _ => 0), (fun _ => 0), (fun j => ([0, 0, -1, 0, -1] : List Int32).getD j 0), (fun _ => 0), (fun _ => 0), (fun _ => 0), (fun _ => 0), (fun _ => 0), (fun _ => 0), (fun _ => 0), (fun _ => 0), (fun _ => 0), (fun _ => 0), (fun _ => 0), (fun _ => 0), (fun j => ([0, 0, -1, 0, -1] : List Int32).getD j 0), (fun _ => 0), (fun _ => 0), (fun _ => 0), (fun _ => 0), (fun _ => 0), (fun _ => 0), (fun _ => 0), (fun _ => 0), (fun _ => 0), (fun _ => 0), (fun _ => 0), (fun _ => 0), (fun j => ([0, 0, -1, 0, -1] : List Int32).getD j 0), (fun _ => 0), (fun _ => 0), (fun _ => 0), (fun _ => 0), (fun _ => 0), (fun _ => 0), (fun _ => 0), (fun _ => 0), (fun _ => 0), (fun _ => 0), (fun _ => 0), (fun _ => 0), (fun j => ([0, 0, -1, 0, -1] : List Int32).getD j 0), (fun _ => 0), (fun _ => 0), (fun _ => 0), (fun _ => 0), (fun _ => 0), (fun _ => 0), (fun _ => 0), (fun _ => 0), (fun _ => 0), (fun _ => 0), (fun _ => 0), (fun _ => 0), (fun _ => 0)]
def s0k : Nat → Int64 := vp_updL (vp_updL (vp_updL (vp_updL (vp_updL (vp_updL (vp_updL (vp_updL (vp_updL (vp_updL (vp_updL (vp_updL (vp_updL (vp_updL (vp_updL (vp_updL (vp_updL (vp_updL (vp_updL (vp_updL (vp_updL (vp_updL (vp_updL (fun _ => 0) 0 (wo 97 99 116 0 0)) 1 (wo 102 114 111 109 0)) 2 (wo 117 110 116 105 108)) 3 (wo 101 110 100 0 0)) 4 (wo 109 105 108 108 0)) 5 (wo 97 110 121 0 0)) 6 (wo 109 117 115 116 0)) 7 (wo 111 112 101 110 115)) 8 (wo 105 102 0 0 0)) 9 (wo 111 114 0 0 0)) 10 (wo 97 110 100 0 0)) 11 (wo 108 101 118 101 108)) 12 (wo 109 97 114 107 0)) 13 (wo 99 97 112 0 0)) 14 (wo 98 101 108 111 119)) 15 (wo 97 98 111 118 101)) 16 (wo 105 110 0 0 0)) 17 (wo 119 104 101 101 108)) 18 (wo 103 97 116 101 0)) 19 (wo 104 111 117 114 0)) 20 (wo 100 97 121 0 0)) 21 (wo 119 111 114 107 0)) 22 (wo 111 117 116 0 0)
def sg0 (a : Nat) : St := (fun k => s0i.getD k (fun _ => 0), fun k => if k = 54 then s0k else fun _ => 0, 600, a)
def al0 (q0 : Nat) (u : S_X11) (q1 : Nat) (v : S_X12) : List Nat := [q0, (u.1 0), (u.2.1.1 0), (u.2.1.1 1), (u.2.1.1 2), (u.2.1.1 3), (u.2.1.2.2.2.2.1 0), (u.2.1.2.2.2.2.1 2), (u.2.1.2.2.2.2.1 1), (u.1 1), (u.1 2), q1, (u.2.1.2.1 0), (u.2.1.2.1 1), (u.2.1.2.1 2), (u.2.1.2.1 3), (u.2.1.2.1 4), (u.2.1.2.2.1 0), (u.2.1.2.2.1 1), (u.2.1.2.2.1 2), (u.2.1.2.2.2.1 0), (u.2.1.2.2.2.1 1), (u.2.1.2.2.2.1 2), (u.2.1.2.2.2.1 3), (u.2.1.2.2.2.2.2.1 0), (u.2.1.2.2.2.2.2.2.2 0), (u.2.1.2.2.2.2.2.2.2 1), (u.2.1.2.2.2.2.2.2.1 0), (u.2.1.2.2.2.2.2.2.1 1), (u.2.1.2.2.2.2.2.2.1 2), (u.2.1.2.2.2.2.2.2.1 3), (u.2.1.2.2.2.2.2.2.1 4), (u.2.1.2.2.2.2.2.2.1 5), (u.2.1.2.2.2.2.2.2.1 6), (u.2.1.2.2.2.2.2.2.1 7), (u.2.1.2.2.2.2.2.2.1 8), (u.2.1.2.2.2.2.2.2.1 9), (u.2.1.2.2.2.2.2.2.1 10), (u.2.1.2.2.2.2.2.2.1 11), (u.2.2.1 0), (u.2.2.1 1), (u.2.2.1 2), (u.2.2.1 3), (u.2.2.1 4), (u.2.2.2.1.1 0), (u.2.2.2.1.1 1), (u.2.2.2.1.1 2), (u.2.2.2.1.1 3), (v 0), (v 1), (v 2), (v 3), (v 4), (v 5), (v 6), (v 7), (v 8), (v 9), (v 10), (v 11), (v 12), (v 13), (v 14), (v 15), (v 16), (v 17), (v 18), (v 19), (v 20), (v 21), (v 22), (v 23), (v 24), (v 25), (v 26), (v 27), (v 28), (v 29), (v 30), (v 31), (v 32), (v 33), (v 34), (v 35), (v 36), (v 37), (v 38), (v 39), (v 40), (v 41), (v 42), (v 43), (v 44), (v 45), (v 46), (v 47), (v 48), (v 49), (v 50), (v 51), (u.1 3), (u.2.2.2.2.1.1 0), (u.2.2.2.2.1.1 1), (u.2.2.2.2.1.2 0), (u.2.2.2.2.1.2 1), (u.2.2.2.2.1.2 2), (u.2.2.2.2.1.2 3), (u.2.2.2.2.1.2 4), (u.2.2.2.2.1.2 5), (u.2.2.2.2.1.2 6), (u.2.2.2.2.1.2 7), (u.2.2.2.2.1.2 8), (u.2.2.2.2.1.2 9), (u.1 4), (u.2.2.2.2.2.1 0), (u.2.2.2.2.2.1 1), (u.2.2.2.2.2.2 0), (u.2.2.2.2.2.2 1), (u.2.2.2.2.2.2 2), (u.2.2.2.2.2.2 3), (u.2.2.2.2.2.2 4), (u.2.2.2.2.2.2 5), (u.2.2.2.2.2.2 6), (u.2.2.2.2.2.2 7), (u.2.2.2.2.2.2 8), (u.2.2.2.2.2.2 9), (u.2.2.2.1.1 4), (u.2.2.2.1.2.1.1 0), (u.2.2.2.1.2.1.1 1), (u.2.2.2.1.2.1.2 0), (u.2.2.2.1.2.1.2 1), (u.2.2.2.1.2.1.2 2), (u.2.2.2.1.2.1.2 3), (u.2.2.2.1.2.1.2 4), (u.2.2.2.1.2.1.2 5), (u.2.2.2.1.2.1.2 6), (u.2.2.2.1.2.1.2 7), (u.2.2.2.1.2.1.2 8), (u.2.2.2.1.2.1.2 9), (u.2.2.2.1.1 5), (u.2.2.2.1.2.2.1.1 0), (u.2.2.2.1.2.2.1.1 1), (u.2.2.2.1.2.2.1.2 0), (u.2.2.2.1.2.2.1.2 1), (u.2.2.2.1.2.2.1.2 2), (u.2.2.2.1.2.2.1.2 3), (u.2.2.2.1.2.2.1.2 4), (u.2.2.2.1.2.2.1.2 5), (u.2.2.2.1.2.2.1.2 6), (u.2.2.2.1.2.2.1.2 7), (u.2.2.2.1.2.2.1.2 8), (u.2.2.2.1.2.2.1.2 9), (u.2.2.2.1.1 6), (u.2.2.2.1.2.2.2.1.1 0), (u.2.2.2.1.2.2.2.1.1 1), (u.2.2.2.1.2.2.2.1.2 0), (u.2.2.2.1.2.2.2.1.2 1), (u.2.2.2.1.2.2.2.1.2 2), (u.2.2.2.1.2.2.2.1.2 3), (u.2.2.2.1.2.2.2.1.2 4), (u.2.2.2.1.2.2.2.1.2 5), (u.2.2.2.1.2.2.2.1.2 6), (u.2.2.2.1.2.2.2.1.2 7), (u.2.2.2.1.2.2.2.1.2 8), (u.2.2.2.1.2.2.2.1.2 9), (u.2.2.2.1.1 7), (u.2.2.2.1.2.2.2.2.1.1 0), (u.2.2.2.1.2.2.2.2.1.1 1), (u.2.2.2.1.2.2.2.2.1.2 0), (u.2.2.2.1.2.2.2.2.1.2 1), (u.2.2.2.1.2.2.2.2.1.2 2), (u.2.2.2.1.2.2.2.2.1.2 3), (u.2.2.2.1.2.2.2.2.1.2 4), (u.2.2.2.1.2.2.2.2.1.2 5), (u.2.2.2.1.2.2.2.2.1.2 6), (u.2.2.2.1.2.2.2.2.1.2 7), (u.2.2.2.1.2.2.2.2.1.2 8), (u.2.2.2.1.2.2.2.2.1.2 9), (u.2.2.2.1.1 8), (u.2.2.2.1.2.2.2.2.2.1.1 0), (u.2.2.2.1.2.2.2.2.2.1.1 1), (u.2.2.2.1.2.2.2.2.2.1.2 0), (u.2.2.2.1.2.2.2.2.2.1.2 1), (u.2.2.2.1.2.2.2.2.2.1.2 2), (u.2.2.2.1.2.2.2.2.2.1.2 3), (u.2.2.2.1.2.2.2.2.2.1.2 4), (u.2.2.2.1.2.2.2.2.2.1.2 5), (u.2.2.2.1.2.2.2.2.2.1.2 6), (u.2.2.2.1.2.2.2.2.2.1.2 7), (u.2.2.2.1.2.2.2.2.2.1.2 8), (u.2.2.2.1.2.2.2.2.2.1.2 9), (u.2.2.2.1.1 9), (u.2.2.2.1.2.2.2.2.2.2.1 0), (u.2.2.2.1.2.2.2.2.2.2.1 1), (u.2.2.2.1.2.2.2.2.2.2.2 0), (u.2.2.2.1.2.2.2.2.2.2.2 1), (u.2.2.2.1.2.2.2.2.2.2.2 2), (u.2.2.2.1.2.2.2.2.2.2.2 3), (u.2.2.2.1.2.2.2.2.2.2.2 4), (u.2.2.2.1.2.2.2.2.2.2.2 5), (u.2.2.2.1.2.2.2.2.2.2.2 6), (u.2.2.2.1.2.2.2.2.2.2.2 7), (u.2.2.2.1.2.2.2.2.2.2.2 8), (u.2.2.2.1.2.2.2.2.2.2.2 9), (u.2.1.2.2.2.2.2.2.2 2)]
def E1 (E0 : EE) (q0 : Nat) (u : S_X11) (q1 : Nat) (v : S_X12) : EE := (E0.1, E0.2.1, fun k => if k = 1000 then ga E0 1000 else if k = 1001 then ga E0 1001 else (al0 q0 u q1 v).getD k 0)
def LL (E0 : EE) (q0 : Nat) (u : S_X11) (q1 : Nat) (v : S_X12) : va_W := L_X11 E0 q0 u ++ L_X12 E0 q1 v
def LF (E0 : EE) (q0 : Nat) (u : S_X11) (q1 : Nat) (v : S_X12) : va_W := [(q0, .inr (11, [.ref (u.1 0), .ref (u.1 1), .ref (u.1 2), .ref (u.1 3), .ref (u.1 4), .int (0 : Int32)])), ((u.1 0), .inr (10, [.ref (u.2.1.1 0), .ref (u.2.1.1 1), .ref (u.2.1.1 2), .ref (u.2.1.1 3)])), ((u.2.1.1 0), .inr (3, [.ref (u.2.1.2.1 0), .ref (u.2.1.2.1 1), .ref (u.2.1.2.1 2), .ref (u.2.1.2.1 3), .int (0 : Int32), .int (0 : Int32), .int (1 : Int32), .ref (u.2.1.2.1 4)])), ((u.2.1.2.1 0), .inl (E0.2.1 0, 7, .inl (fun _ => 0))), ((u.2.1.2.1 1), .inl (E0.2.1 0, 7, .inl (fun _ => 0))), ((u.2.1.2.1 2), .inl (E0.2.1 0, 7, .inl (fun _ => 0))), ((u.2.1.2.1 3), .inl (E0.2.1 0, 7, .inl (fun _ => 0))), ((u.2.1.2.1 4), .inl (E0.2.1 0, 20, .inl (fun _ => 1))), ((u.2.1.1 1), .inr (6, [.int (0 : Int32), .ref (u.2.1.2.2.1 0), .ref (u.2.1.2.2.1 1), .ref (u.2.1.2.2.1 2), .int (0 : Int32)])), ((u.2.1.2.2.1 0), .inl (E0.2.1 0, 400, .inl (fun _ => 0))), ((u.2.1.2.2.1 1), .inl (E0.2.1 0, 400, .inl (fun _ => 0))), ((u.2.1.2.2.1 2), .inl (E0.2.1 0, 1680, .inl (fun _ => 0))), ((u.2.1.1 2), .inr (4, [.ref (u.2.1.2.2.2.1 0), .ref (u.2.1.2.2.2.1 1), .ref (u.2.1.2.2.2.1 2), .ref (u.2.1.2.2.2.1 3), .int (0 : Int32)])), ((u.2.1.2.2.2.1 0), .inl (E0.2.1 0, 200, .inl (fun _ => 0))), ((u.2.1.2.2.2.1 1), .inl (E0.2.1 0, 200, .inl (fun _ => 0))), ((u.2.1.2.2.2.1 2), .inl (E0.2.1 2, 200, .inl (fun _ => 0))), ((u.2.1.2.2.2.1 3), .inl (E0.2.1 0, 200, .inl (fun _ => 0))), ((u.2.1.1 3), .inr (0, [.ref (u.2.1.2.2.2.2.1 0), .ref (u.2.1.2.2.2.2.1 1), .int (-1 : Int32), .ref (u.2.1.2.2.2.2.1 2), .int (0 : Int32), .int (1 : Int32), .int (0 : Int32), .int (-1 : Int32)])), ((u.2.1.2.2.2.2.1 0), .inr (8, [.int (0 : Int32), .ref (u.2.1.2.2.2.2.2.1 0)])), ((u.2.1.2.2.2.2.2.1 0), .inl (E0.2.1 1, 2000, .inl (fun _ => 0))), ((u.2.1.2.2.2.2.1 1), .inr (2, [.int (0 : Int32), .int (0 : Int32), .int (0 : Int32), .int (0 : Int32), .int (0 : Int32), .ref (u.2.1.2.2.2.2.2.2.1 0), .ref (u.2.1.2.2.2.2.2.2.1 1), .ref (u.2.1.2.2.2.2.2.2.1 2), .ref (u.2.1.2.2.2.2.2.2.1 3), .ref (u.2.1.2.2.2.2.2.2.1 4), .ref (u.2.1.2.2.2.2.2.2.1 5), .ref (u.2.1.2.2.2.2.2.2.1 6), .ref (u.2.1.2.2.2.2.2.2.1 7), .ref (u.2.1.2.2.2.2.2.2.1 8), .ref (u.2.1.2.2.2.2.2.2.1 9), .int (0 : Int32), .ref (u.2.1.2.2.2.2.2.2.1 10), .ref (u.2.1.2.2.2.2.2.2.1 11), .int (0 : Int32)])), ((u.2.1.2.2.2.2.2.2.1 0), .inl (E0.2.1 0, 30, .inl (fun _ => 0))), ((u.2.1.2.2.2.2.2.2.1 1), .inl (E0.2.1 2, 30, .inl (fun _ => 0))), ((u.2.1.2.2.2.2.2.2.1 2), .inl (E0.2.1 0, 30, .inl (fun _ => 0))), ((u.2.1.2.2.2.2.2.2.1 3), .inl (E0.2.1 0, 30, .inl (fun _ => 0))), ((u.2.1.2.2.2.2.2.2.1 4), .inl (E0.2.1 0, 30, .inl (fun _ => 0))), ((u.2.1.2.2.2.2.2.2.1 5), .inl (E0.2.1 0, 30, .inl (fun _ => 0))), ((u.2.1.2.2.2.2.2.2.1 6), .inl (E0.2.1 3, 10, .inr (.inl (fun _ => 0)))), ((u.2.1.2.2.2.2.2.2.1 7), .inl (E0.2.1 0, 10, .inl (fun _ => 0))), ((u.2.1.2.2.2.2.2.2.1 8), .inl (E0.2.1 0, 10, .inl (fun _ => 0))), ((u.2.1.2.2.2.2.2.2.1 9), .inl (E0.2.1 0, 600, .inl (fun _ => 0))), ((u.2.1.2.2.2.2.2.2.1 10), .inl (E0.2.1 0, 12, .inl (fun _ => 0))), ((u.2.1.2.2.2.2.2.2.1 11), .inl (E0.2.1 0, 32, .inl (fun _ => 0))), ((u.2.1.2.2.2.2.1 2), .inr (9, [.ref (u.2.1.2.2.2.2.2.2.2 0), .ref (u.2.1.2.2.2.2.2.2.2 1), .ref (u.2.1.2.2.2.2.2.2.2 2)])), ((u.2.1.2.2.2.2.2.2.2 0), .inl (E0.2.1 0, 601, .inl (fun _ => 0))), ((u.2.1.2.2.2.2.2.2.2 1), .inl (E0.2.1 0, 601, .inl (fun _ => 0))), ((u.2.1.2.2.2.2.2.2.2 2), .inl (E0.2.1 0, 601, .inl (fun _ => 0))), ((u.1 1), .inr (1, [.ref (u.2.2.1 0), .ref (u.2.2.1 1), .ref (u.2.2.1 2), .ref (u.2.2.1 3), .ref (u.2.2.1 4), .int (0 : Int32)])), ((u.2.2.1 0), .inl (E0.2.1 0, 60, .inl (fun _ => 0))), ((u.2.2.1 1), .inl (E0.2.1 0, 60, .inl (fun _ => 0))), ((u.2.2.1 2), .inl (E0.2.1 0, 60, .inl (fun _ => 0))), ((u.2.2.1 3), .inl (E0.2.1 0, 60, .inl (fun _ => 0))), ((u.2.2.1 4), .inl (E0.2.1 0, 60, .inl (fun _ => 0))), ((u.1 2), .inr (5, [.ref (u.2.2.2.1.1 0), .int (0 : Int32), .ref (u.2.2.2.1.1 1), .ref (u.2.2.2.1.1 2), .ref (u.2.2.2.1.1 3), .int 0, .int 0, .int 0, .int 0, .int 0, .int 0])), ((u.2.2.2.1.1 0), .inl (E0.2.1 0, 6, .inl (fun _ => 0))), ((u.2.2.2.1.1 1), .inl (E0.2.1 4, 6, .inr (.inr (.inr (.inr (va_up (va_up (va_up (va_up (va_up (va_up (fun _ => none) 0 (some (u.2.2.2.1.1 4))) 1 (some (u.2.2.2.1.1 5))) 2 (some (u.2.2.2.1.1 6))) 3 (some (u.2.2.2.1.1 7))) 4 (some (u.2.2.2.1.1 8))) 5 (some (u.2.2.2.1.1 9)))))))), ((u.2.2.2.1.1 2), .inl (E0.2.1 0, 6, .inl (fun _ => 0))), ((u.2.2.2.1.1 3), .inl (E0.2.1 0, 6, .inl (fun _ => 0))), ((u.2.2.2.1.1 4), .inr (7, [.ref (u.2.2.2.1.2.1.1 0), .ref (u.2.2.2.1.2.1.1 1), .int (-1 : Int32), .int (0 : Int32), .int (-1 : Int32)])), ((u.2.2.2.1.2.1.1 0), .inl (E0.2.1 5, 10, .inr (.inr (.inr (.inr (rw10 u.2.2.2.1.2.1.2)))))), ((u.2.2.2.1.2.1.2 0), .inl (E0.2.1 0, 7, .inl (fun _ => 0))), ((u.2.2.2.1.2.1.2 1), .inl (E0.2.1 0, 7, .inl (fun _ => 0))), ((u.2.2.2.1.2.1.2 2), .inl (E0.2.1 0, 7, .inl (fun _ => 0))), ((u.2.2.2.1.2.1.2 3), .inl (E0.2.1 0, 7, .inl (fun _ => 0))), ((u.2.2.2.1.2.1.2 4), .inl (E0.2.1 0, 7, .inl (fun _ => 0))), ((u.2.2.2.1.2.1.2 5), .inl (E0.2.1 0, 7, .inl (fun _ => 0))), ((u.2.2.2.1.2.1.2 6), .inl (E0.2.1 0, 7, .inl (fun _ => 0))), ((u.2.2.2.1.2.1.2 7), .inl (E0.2.1 0, 7, .inl (fun _ => 0))), ((u.2.2.2.1.2.1.2 8), .inl (E0.2.1 0, 7, .inl (fun _ => 0))), ((u.2.2.2.1.2.1.2 9), .inl (E0.2.1 0, 7, .inl (fun _ => 0))), ((u.2.2.2.1.2.1.1 1), .inl (E0.2.1 0, 7, .inl (fun _ => 0))), ((u.2.2.2.1.1 5), .inr (7, [.ref (u.2.2.2.1.2.2.1.1 0), .ref (u.2.2.2.1.2.2.1.1 1), .int (-1 : Int32), .int (0 : Int32), .int (-1 : Int32)])), ((u.2.2.2.1.2.2.1.1 0), .inl (E0.2.1 5, 10, .inr (.inr (.inr (.inr (rw10 u.2.2.2.1.2.2.1.2)))))), ((u.2.2.2.1.2.2.1.2 0), .inl (E0.2.1 0, 7, .inl (fun _ => 0))), ((u.2.2.2.1.2.2.1.2 1), .inl (E0.2.1 0, 7, .inl (fun _ => 0))), ((u.2.2.2.1.2.2.1.2 2), .inl (E0.2.1 0, 7, .inl (fun _ => 0))), ((u.2.2.2.1.2.2.1.2 3), .inl (E0.2.1 0, 7, .inl (fun _ => 0))), ((u.2.2.2.1.2.2.1.2 4), .inl (E0.2.1 0, 7, .inl (fun _ => 0))), ((u.2.2.2.1.2.2.1.2 5), .inl (E0.2.1 0, 7, .inl (fun _ => 0))), ((u.2.2.2.1.2.2.1.2 6), .inl (E0.2.1 0, 7, .inl (fun _ => 0))), ((u.2.2.2.1.2.2.1.2 7), .inl (E0.2.1 0, 7, .inl (fun _ => 0))), ((u.2.2.2.1.2.2.1.2 8), .inl (E0.2.1 0, 7, .inl (fun _ => 0))), ((u.2.2.2.1.2.2.1.2 9), .inl (E0.2.1 0, 7, .inl (fun _ => 0))), ((u.2.2.2.1.2.2.1.1 1), .inl (E0.2.1 0, 7, .inl (fun _ => 0))), ((u.2.2.2.1.1 6), .inr (7, [.ref (u.2.2.2.1.2.2.2.1.1 0), .ref (u.2.2.2.1.2.2.2.1.1 1), .int (-1 : Int32), .int (0 : Int32), .int (-1 : Int32)])), ((u.2.2.2.1.2.2.2.1.1 0), .inl (E0.2.1 5, 10, .inr (.inr (.inr (.inr (rw10 u.2.2.2.1.2.2.2.1.2)))))), ((u.2.2.2.1.2.2.2.1.2 0), .inl (E0.2.1 0, 7, .inl (fun _ => 0))), ((u.2.2.2.1.2.2.2.1.2 1), .inl (E0.2.1 0, 7, .inl (fun _ => 0))), ((u.2.2.2.1.2.2.2.1.2 2), .inl (E0.2.1 0, 7, .inl (fun _ => 0))), ((u.2.2.2.1.2.2.2.1.2 3), .inl (E0.2.1 0, 7, .inl (fun _ => 0))), ((u.2.2.2.1.2.2.2.1.2 4), .inl (E0.2.1 0, 7, .inl (fun _ => 0))), ((u.2.2.2.1.2.2.2.1.2 5), .inl (E0.2.1 0, 7, .inl (fun _ => 0))), ((u.2.2.2.1.2.2.2.1.2 6), .inl (E0.2.1 0, 7, .inl (fun _ => 0))), ((u.2.2.2.1.2.2.2.1.2 7), .inl (E0.2.1 0, 7, .inl (fun _ => 0))), ((u.2.2.2.1.2.2.2.1.2 8), .inl (E0.2.1 0, 7, .inl (fun _ => 0))), ((u.2.2.2.1.2.2.2.1.2 9), .inl (E0.2.1 0, 7, .inl (fun _ => 0))), ((u.2.2.2.1.2.2.2.1.1 1), .inl (E0.2.1 0, 7, .inl (fun _ => 0))), ((u.2.2.2.1.1 7), .inr (7, [.ref (u.2.2.2.1.2.2.2.2.1.1 0), .ref (u.2.2.2.1.2.2.2.2.1.1 1), .int (-1 : Int32), .int (0 : Int32), .int (-1 : Int32)])), ((u.2.2.2.1.2.2.2.2.1.1 0), .inl (E0.2.1 5, 10, .inr (.inr (.inr (.inr (rw10 u.2.2.2.1.2.2.2.2.1.2)))))), ((u.2.2.2.1.2.2.2.2.1.2 0), .inl (E0.2.1 0, 7, .inl (fun _ => 0))), ((u.2.2.2.1.2.2.2.2.1.2 1), .inl (E0.2.1 0, 7, .inl (fun _ => 0))), ((u.2.2.2.1.2.2.2.2.1.2 2), .inl (E0.2.1 0, 7, .inl (fun _ => 0))), ((u.2.2.2.1.2.2.2.2.1.2 3), .inl (E0.2.1 0, 7, .inl (fun _ => 0))), ((u.2.2.2.1.2.2.2.2.1.2 4), .inl (E0.2.1 0, 7, .inl (fun _ => 0))), ((u.2.2.2.1.2.2.2.2.1.2 5), .inl (E0.2.1 0, 7, .inl (fun _ => 0))), ((u.2.2.2.1.2.2.2.2.1.2 6), .inl (E0.2.1 0, 7, .inl (fun _ => 0))), ((u.2.2.2.1.2.2.2.2.1.2 7), .inl (E0.2.1 0, 7, .inl (fun _ => 0))), ((u.2.2.2.1.2.2.2.2.1.2 8), .inl (E0.2.1 0, 7, .inl (fun _ => 0))), ((u.2.2.2.1.2.2.2.2.1.2 9), .inl (E0.2.1 0, 7, .inl (fun _ => 0))), ((u.2.2.2.1.2.2.2.2.1.1 1), .inl (E0.2.1 0, 7, .inl (fun _ => 0))), ((u.2.2.2.1.1 8), .inr (7, [.ref (u.2.2.2.1.2.2.2.2.2.1.1 0), .ref (u.2.2.2.1.2.2.2.2.2.1.1 1), .int (-1 : Int32), .int (0 : Int32), .int (-1 : Int32)])), ((u.2.2.2.1.2.2.2.2.2.1.1 0), .inl (E0.2.1 5, 10, .inr (.inr (.inr (.inr (rw10 u.2.2.2.1.2.2.2.2.2.1.2)))))), ((u.2.2.2.1.2.2.2.2.2.1.2 0), .inl (E0.2.1 0, 7, .inl (fun _ => 0))), ((u.2.2.2.1.2.2.2.2.2.1.2 1), .inl (E0.2.1 0, 7, .inl (fun _ => 0))), ((u.2.2.2.1.2.2.2.2.2.1.2 2), .inl (E0.2.1 0, 7, .inl (fun _ => 0))), ((u.2.2.2.1.2.2.2.2.2.1.2 3), .inl (E0.2.1 0, 7, .inl (fun _ => 0))), ((u.2.2.2.1.2.2.2.2.2.1.2 4), .inl (E0.2.1 0, 7, .inl (fun _ => 0))), ((u.2.2.2.1.2.2.2.2.2.1.2 5), .inl (E0.2.1 0, 7, .inl (fun _ => 0))), ((u.2.2.2.1.2.2.2.2.2.1.2 6), .inl (E0.2.1 0, 7, .inl (fun _ => 0))), ((u.2.2.2.1.2.2.2.2.2.1.2 7), .inl (E0.2.1 0, 7, .inl (fun _ => 0))), ((u.2.2.2.1.2.2.2.2.2.1.2 8), .inl (E0.2.1 0, 7, .inl (fun _ => 0))), ((u.2.2.2.1.2.2.2.2.2.1.2 9), .inl (E0.2.1 0, 7, .inl (fun _ => 0))), ((u.2.2.2.1.2.2.2.2.2.1.1 1), .inl (E0.2.1 0, 7, .inl (fun _ => 0))), ((u.2.2.2.1.1 9), .inr (7, [.ref (u.2.2.2.1.2.2.2.2.2.2.1 0), .ref (u.2.2.2.1.2.2.2.2.2.2.1 1), .int (-1 : Int32), .int (0 : Int32), .int (-1 : Int32)])), ((u.2.2.2.1.2.2.2.2.2.2.1 0), .inl (E0.2.1 5, 10, .inr (.inr (.inr (.inr (rw10 u.2.2.2.1.2.2.2.2.2.2.2)))))), ((u.2.2.2.1.2.2.2.2.2.2.2 0), .inl (E0.2.1 0, 7, .inl (fun _ => 0))), ((u.2.2.2.1.2.2.2.2.2.2.2 1), .inl (E0.2.1 0, 7, .inl (fun _ => 0))), ((u.2.2.2.1.2.2.2.2.2.2.2 2), .inl (E0.2.1 0, 7, .inl (fun _ => 0))), ((u.2.2.2.1.2.2.2.2.2.2.2 3), .inl (E0.2.1 0, 7, .inl (fun _ => 0))), ((u.2.2.2.1.2.2.2.2.2.2.2 4), .inl (E0.2.1 0, 7, .inl (fun _ => 0))), ((u.2.2.2.1.2.2.2.2.2.2.2 5), .inl (E0.2.1 0, 7, .inl (fun _ => 0))), ((u.2.2.2.1.2.2.2.2.2.2.2 6), .inl (E0.2.1 0, 7, .inl (fun _ => 0))), ((u.2.2.2.1.2.2.2.2.2.2.2 7), .inl (E0.2.1 0, 7, .inl (fun _ => 0))), ((u.2.2.2.1.2.2.2.2.2.2.2 8), .inl (E0.2.1 0, 7, .inl (fun _ => 0))), ((u.2.2.2.1.2.2.2.2.2.2.2 9), .inl (E0.2.1 0, 7, .inl (fun _ => 0))), ((u.2.2.2.1.2.2.2.2.2.2.1 1), .inl (E0.2.1 0, 7, .inl (fun _ => 0))), ((u.1 3), .inr (7, [.ref (u.2.2.2.2.1.1 0), .ref (u.2.2.2.2.1.1 1), .int (-1 : Int32), .int (0 : Int32), .int (-1 : Int32)])), ((u.2.2.2.2.1.1 0), .inl (E0.2.1 5, 10, .inr (.inr (.inr (.inr (rw10 u.2.2.2.2.1.2)))))), ((u.2.2.2.2.1.2 0), .inl (E0.2.1 0, 7, .inl (fun _ => 0))), ((u.2.2.2.2.1.2 1), .inl (E0.2.1 0, 7, .inl (fun _ => 0))), ((u.2.2.2.2.1.2 2), .inl (E0.2.1 0, 7, .inl (fun _ => 0))), ((u.2.2.2.2.1.2 3), .inl (E0.2.1 0, 7, .inl (fun _ => 0))), ((u.2.2.2.2.1.2 4), .inl (E0.2.1 0, 7, .inl (fun _ => 0))), ((u.2.2.2.2.1.2 5), .inl (E0.2.1 0, 7, .inl (fun _ => 0))), ((u.2.2.2.2.1.2 6), .inl (E0.2.1 0, 7, .inl (fun _ => 0))), ((u.2.2.2.2.1.2 7), .inl (E0.2.1 0, 7, .inl (fun _ => 0))), ((u.2.2.2.2.1.2 8), .inl (E0.2.1 0, 7, .inl (fun _ => 0))), ((u.2.2.2.2.1.2 9), .inl (E0.2.1 0, 7, .inl (fun _ => 0))), ((u.2.2.2.2.1.1 1), .inl (E0.2.1 0, 7, .inl (fun _ => 0))), ((u.1 4), .inr (7, [.ref (u.2.2.2.2.2.1 0), .ref (u.2.2.2.2.2.1 1), .int (-1 : Int32), .int (0 : Int32), .int (-1 : Int32)])), ((u.2.2.2.2.2.1 0), .inl (E0.2.1 5, 10, .inr (.inr (.inr (.inr (rw10 u.2.2.2.2.2.2)))))), ((u.2.2.2.2.2.2 0), .inl (E0.2.1 0, 7, .inl (fun _ => 0))), ((u.2.2.2.2.2.2 1), .inl (E0.2.1 0, 7, .inl (fun _ => 0))), ((u.2.2.2.2.2.2 2), .inl (E0.2.1 0, 7, .inl (fun _ => 0))), ((u.2.2.2.2.2.2 3), .inl (E0.2.1 0, 7, .inl (fun _ => 0))), ((u.2.2.2.2.2.2 4), .inl (E0.2.1 0, 7, .inl (fun _ => 0))), ((u.2.2.2.2.2.2 5), .inl (E0.2.1 0, 7, .inl (fun _ => 0))), ((u.2.2.2.2.2.2 6), .inl (E0.2.1 0, 7, .inl (fun _ => 0))), ((u.2.2.2.2.2.2 7), .inl (E0.2.1 0, 7, .inl (fun _ => 0))), ((u.2.2.2.2.2.2 8), .inl (E0.2.1 0, 7, .inl (fun _ => 0))), ((u.2.2.2.2.2.2 9), .inl (E0.2.1 0, 7, .inl (fun _ => 0))), ((u.2.2.2.2.2.1 1), .inl (E0.2.1 0, 7, .inl (fun _ => 0))), (q1, .inr (12, [.int 0, .ref (v 0), .int 0, .ref (v 1), .int 0, .ref (v 2), .ref (v 3), .ref (v 4), .ref (v 5), .ref (v 6), .int 0, .int 0, .int 0, .int 0, .int 0, .int 0, .int 0, .int (-1 : Int32), .int 0, .int 0, .ref (v 7), .ref (v 8), .ref (v 9), .int 0, .int 0, .ref (v 10), .ref (v 11), .ref (v 12), .ref (v 13), .ref (v 14), .ref (v 15), .ref (v 16), .int 0, .ref (v 17), .ref (v 18), .ref (v 19), .ref (v 20), .ref (v 21), .int 0, .ref (v 22), .ref (v 23), .ref (v 24), .int 0, .int 0, .ref (v 25), .ref (v 26), .ref (v 27), .ref (v 28), .int 0, .int (1 : Int32), .ref (v 29), .int 0, .int 0, .ref (v 30), .ref (v 31), .ref (v 32), .int 0, .ref (v 33), .ref (v 34), .ref (v 35), .ref (v 36), .int 0, .ref (v 37), .ref (v 38), .ref (v 39), .ref (v 40), .int (-1 : Int32), .int (-1 : Int32), .ref (v 41), .ref (v 42), .ref (v 43), .ref (v 44), .ref (v 45), .ref (v 46), .ref (v 47), .int 0, .ref (v 48), .ref (v 49), .ref (v 50), .ref (v 51)])), ((v 0), .inl (E0.2.1 1, 2000, .inl (fun _ => 0))), ((v 1), .inl (E0.2.1 1, 2000, .inl (fun _ => 0))), ((v 2), .inl (E0.2.1 0, 603, .inl (fun _ => 0))), ((v 3), .inl (E0.2.1 0, 603, .inl (fun _ => 0))), ((v 4), .inl (E0.2.1 0, 603, .inl (fun _ => 0))), ((v 5), .inl (E0.2.1 3, 603, .inr (.inl (fun _ => 0)))), ((v 6), .inl (E0.2.1 3, 23, .inr (.inl (vp_updL (vp_updL (vp_updL (vp_updL (vp_updL (vp_updL (vp_updL (vp_updL (vp_updL (vp_updL (vp_updL (vp_updL (vp_updL (vp_updL (vp_updL (vp_updL (vp_updL (vp_updL (vp_updL (vp_updL (vp_updL (vp_updL (vp_updL (fun _ => 0) 0 (wo 97 99 116 0 0)) 1 (wo 102 114 111 109 0)) 2 (wo 117 110 116 105 108)) 3 (wo 101 110 100 0 0)) 4 (wo 109 105 108 108 0)) 5 (wo 97 110 121 0 0)) 6 (wo 109 117 115 116 0)) 7 (wo 111 112 101 110 115)) 8 (wo 105 102 0 0 0)) 9 (wo 111 114 0 0 0)) 10 (wo 97 110 100 0 0)) 11 (wo 108 101 118 101 108)) 12 (wo 109 97 114 107 0)) 13 (wo 99 97 112 0 0)) 14 (wo 98 101 108 111 119)) 15 (wo 97 98 111 118 101)) 16 (wo 105 110 0 0 0)) 17 (wo 119 104 101 101 108)) 18 (wo 103 97 116 101 0)) 19 (wo 104 111 117 114 0)) 20 (wo 100 97 121 0 0)) 21 (wo 119 111 114 107 0)) 22 (wo 111 117 116 0 0))))), ((v 7), .inl (E0.2.1 3, 11, .inr (.inl (fun _ => 0)))), ((v 8), .inl (E0.2.1 0, 11, .inl (fun _ => 0))), ((v 9), .inl (E0.2.1 0, 11, .inl (fun _ => 0))), ((v 10), .inl (E0.2.1 0, 31, .inl (fun _ => 0))), ((v 11), .inl (E0.2.1 0, 31, .inl (fun _ => 0))), ((v 12), .inl (E0.2.1 2, 31, .inl (fun _ => 0))), ((v 13), .inl (E0.2.1 0, 31, .inl (fun _ => 0))), ((v 14), .inl (E0.2.1 0, 31, .inl (fun _ => 0))), ((v 15), .inl (E0.2.1 0, 31, .inl (fun _ => 0))), ((v 16), .inl (E0.2.1 0, 31, .inl (fun _ => 0))), ((v 17), .inl (E0.2.1 0, 6600, .inl (fun _ => 0))), ((v 18), .inl (E0.2.1 0, 6600, .inl (fun _ => 0))), ((v 19), .inl (E0.2.1 0, 6600, .inl (fun _ => 0))), ((v 20), .inl (E0.2.1 0, 6600, .inl (fun _ => 0))), ((v 21), .inl (E0.2.1 2, 6600, .inl (fun _ => 0))), ((v 22), .inl (E0.2.1 0, 20000, .inl (fun _ => 0))), ((v 23), .inl (E0.2.1 0, 20000, .inl (fun _ => 0))), ((v 24), .inl (E0.2.1 0, 64, .inl (fun _ => 0))), ((v 25), .inl (E0.2.1 0, 7, .inl (fun _ => 0))), ((v 26), .inl (E0.2.1 0, 7, .inl (fun _ => 0))), ((v 27), .inl (E0.2.1 0, 7, .inl (fun _ => 0))), ((v 28), .inl (E0.2.1 0, 7, .inl (fun _ => 0))), ((v 29), .inl (E0.2.1 0, 20, .inl (upd (fun _ => 0) 0 1))), ((v 30), .inl (E0.2.1 0, 400, .inl (fun _ => 0))), ((v 31), .inl (E0.2.1 0, 400, .inl (fun _ => 0))), ((v 32), .inl (E0.2.1 0, 400, .inl (fun _ => 0))), ((v 33), .inl (E0.2.1 0, 200, .inl (fun _ => 0))), ((v 34), .inl (E0.2.1 0, 200, .inl (fun _ => 0))), ((v 35), .inl (E0.2.1 2, 200, .inl (fun _ => 0))), ((v 36), .inl (E0.2.1 0, 200, .inl (fun _ => 0))), ((v 37), .inl (E0.2.1 0, 60, .inl (fun _ => 0))), ((v 38), .inl (E0.2.1 0, 60, .inl (fun _ => 0))), ((v 39), .inl (E0.2.1 0, 60, .inl (fun _ => 0))), ((v 40), .inl (E0.2.1 0, 16800, .inl (fun _ => 0))), ((v 41), .inl (E0.2.1 0, 1680, .inl (fun _ => 0))), ((v 42), .inl (E0.2.1 0, 3360, .inl (fun _ => 0))), ((v 43), .inl (E0.2.1 0, 14, .inl (fun _ => 0))), ((v 44), .inl (E0.2.1 0, 700, .inl (fun _ => 0))), ((v 45), .inl (E0.2.1 0, 7, .inl (fun _ => 0))), ((v 46), .inl (E0.2.1 0, 6, .inl (fun _ => 0))), ((v 47), .inl (E0.2.1 0, 6, .inl (fun _ => 0))), ((v 48), .inl (E0.2.1 0, 7, .inl (fun _ => 0))), ((v 49), .inl (E0.2.1 0, 7, .inl (fun _ => 0))), ((v 50), .inl (E0.2.1 0, 60, .inl (fun _ => 0))), ((v 51), .inl (E0.2.1 0, 60, .inl (fun _ => 0)))]
theorem rws_flat {E : EE} {r : Nat → Nat} : rws E r = [(r 0, .inl (E.2.1 0, 7, .inl (fun _ => 0))), (r 1, .inl (E.2.1 0, 7, .inl (fun _ => 0))), (r 2, .inl (E.2.1 0, 7, .inl (fun _ => 0))), (r 3, .inl (E.2.1 0, 7, .inl (fun _ => 0))), (r 4, .inl (E.2.1 0, 7, .inl (fun _ => 0))), (r 5, .inl (E.2.1 0, 7, .inl (fun _ => 0))), (r 6, .inl (E.2.1 0, 7, .inl (fun _ => 0))), (r 7, .inl (E.2.1 0, 7, .inl (fun _ => 0))), (r 8, .inl (E.2.1 0, 7, .inl (fun _ => 0))), (r 9, .inl (E.2.1 0, 7, .inl (fun _ => 0)))] := rfl
set_option maxRecDepth 100000 in
set_option maxHeartbeats 4000000 in
theorem LL_flat {E0 : EE} {q0 : Nat} {u : S_X11} {q1 : Nat} {v : S_X12} : LL E0 q0 u q1 v = LF E0 q0 u q1 v := by
  simp only [LL, LF, L_X0, L_X1, L_X2, L_X3, L_X4, L_X5, L_X6, L_X7, L_X8, L_X9, L_X10, L_X11, L_X12, rws_flat, List.nil_append, List.cons_append, List.append_assoc]
def pl0 : List Nat := [0, 1, 2, 8, 12, 17, 18, 33, 20, 37, 43, 152, 3, 4, 5, 6, 7, 9, 10, 11, 13, 14, 15, 16, 19, 34, 35, 21, 22, 23, 24, 25, 26, 27, 28, 29, 30, 31, 32, 38, 39, 40, 41, 42, 44, 45, 46, 47, 153, 154, 155, 156, 157, 158, 159, 160, 161, 162, 163, 164, 165, 166, 167, 168, 169, 170, 171, 172, 173, 174, 175, 176, 177, 178, 179, 180, 181, 182, 183, 184, 185, 186, 187, 188, 189, 190, 191, 192, 193, 194, 195, 196, 197, 198, 199, 200, 201, 202, 203, 204, 126, 127, 138, 128, 129, 130, 131, 132, 133, 134, 135, 136, 137, 139, 140, 151, 141, 142, 143, 144, 145, 146, 147, 148, 149, 150, 48, 49, 60, 50, 51, 52, 53, 54, 55, 56, 57, 58, 59, 61, 62, 73, 63, 64, 65, 66, 67, 68, 69, 70, 71, 72, 74, 75, 86, 76, 77, 78, 79, 80, 81, 82, 83, 84, 85, 87, 88, 99, 89, 90, 91, 92, 93, 94, 95, 96, 97, 98, 100, 101, 112, 102, 103, 104, 105, 106, 107, 108, 109, 110, 111, 113, 114, 125, 115, 116, 117, 118, 119, 120, 121, 122, 123, 124, 36]
def fldG (E : EE) (σ : St) (k : Nat) : Nat → List (Option Nat) → List Value
  | _, [] => []
  | j, f :: fs => (match f with | none => .int (gv σ k j) | some r => .ref (adr E σ r)) :: fldG E σ k (j + 1) fs
theorem fldG_eq {E : EE} {σ : St} {k : Nat} : ∀ (fs : List (Option Nat)) (j : Nat), fs.mapIdx (fun i f => match f with | none => Value.int (gv σ k (i + j)) | some r => .ref (adr E σ r)) = fldG E σ k j fs
  | [], _ => rfl
  | f :: fs, j => by
    rw [List.mapIdx_cons]
    show _ :: _ = _ :: fldG E σ k (j + 1) fs
    rw [← fldG_eq fs (j + 1)]
    congr 1
    · cases f <;> simp
    · congr 1
      funext i f
      rw [show i + 1 + j = i + (j + 1) by omega]
theorem fld_eq {E : EE} {σ : St} {k : Nat} {fs : List (Option Nat)} : fld E σ k fs = fldG E σ k 0 fs := fldG_eq fs 0
section WQ
variable {E0 : EE} {q0 : Nat} {u : S_X11} {q1 : Nat} {v : S_X12}
set_option maxRecDepth 100000 in
theorem wq_0 : (LF E0 q0 u q1 v)[0]? = some (adr (E1 E0 q0 u q1 v) (sg0 (u.2.1.2.2.2.2.2.2.1 9)) 0, ent (E1 E0 q0 u q1 v) (sg0 (u.2.1.2.2.2.2.2.2.1 9)) 0 (.inl (11, [some 1, some 9, some 10, some 100, some 113, none]))) := rfl
set_option maxRecDepth 100000 in
theorem wq_1 : (LF E0 q0 u q1 v)[1]? = some (adr (E1 E0 q0 u q1 v) (sg0 (u.2.1.2.2.2.2.2.2.1 9)) 1, ent (E1 E0 q0 u q1 v) (sg0 (u.2.1.2.2.2.2.2.2.1 9)) 1 (.inl (10, [some 2, some 3, some 4, some 5]))) := rfl
set_option maxRecDepth 100000 in
theorem wq_2 : (LF E0 q0 u q1 v)[2]? = some (adr (E1 E0 q0 u q1 v) (sg0 (u.2.1.2.2.2.2.2.2.1 9)) 2, ent (E1 E0 q0 u q1 v) (sg0 (u.2.1.2.2.2.2.2.2.1 9)) 2 (.inl (3, [some 12, some 13, some 14, some 15, none, none, none, some 16]))) := rfl
set_option maxRecDepth 100000 in
theorem wq_3 : (LF E0 q0 u q1 v)[8]? = some (adr (E1 E0 q0 u q1 v) (sg0 (u.2.1.2.2.2.2.2.2.1 9)) 3, ent (E1 E0 q0 u q1 v) (sg0 (u.2.1.2.2.2.2.2.2.1 9)) 3 (.inl (6, [none, some 17, some 18, some 19, none]))) := rfl
set_option maxRecDepth 100000 in
theorem wq_4 : (LF E0 q0 u q1 v)[12]? = some (adr (E1 E0 q0 u q1 v) (sg0 (u.2.1.2.2.2.2.2.2.1 9)) 4, ent (E1 E0 q0 u q1 v) (sg0 (u.2.1.2.2.2.2.2.2.1 9)) 4 (.inl (4, [some 20, some 21, some 22, some 23, none]))) := rfl
set_option maxRecDepth 100000 in
theorem wq_5 : (LF E0 q0 u q1 v)[17]? = some (adr (E1 E0 q0 u q1 v) (sg0 (u.2.1.2.2.2.2.2.2.1 9)) 5, ent (E1 E0 q0 u q1 v) (sg0 (u.2.1.2.2.2.2.2.2.1 9)) 5 (.inl (0, [some 6, some 8, none, some 7, none, none, none, none]))) := rfl
set_option maxRecDepth 100000 in
theorem wq_6 : (LF E0 q0 u q1 v)[18]? = some (adr (E1 E0 q0 u q1 v) (sg0 (u.2.1.2.2.2.2.2.2.1 9)) 6, ent (E1 E0 q0 u q1 v) (sg0 (u.2.1.2.2.2.2.2.2.1 9)) 6 (.inl (8, [none, some 24]))) := rfl
set_option maxRecDepth 100000 in
theorem wq_7 : (LF E0 q0 u q1 v)[33]? = some (adr (E1 E0 q0 u q1 v) (sg0 (u.2.1.2.2.2.2.2.2.1 9)) 7, ent (E1 E0 q0 u q1 v) (sg0 (u.2.1.2.2.2.2.2.2.1 9)) 7 (.inl (9, [some 25, some 26, some 204]))) := rfl
set_option maxRecDepth 100000 in
theorem wq_8 : (LF E0 q0 u q1 v)[20]? = some (adr (E1 E0 q0 u q1 v) (sg0 (u.2.1.2.2.2.2.2.2.1 9)) 8, ent (E1 E0 q0 u q1 v) (sg0 (u.2.1.2.2.2.2.2.2.1 9)) 8 (.inl (2, [none, none, none, none, none, some 27, some 28, some 29, some 30, some 31, some 32, some 33, some 34, some 35, some 36, none, some 37, some 38, none]))) := rfl
set_option maxRecDepth 100000 in
theorem wq_9 : (LF E0 q0 u q1 v)[37]? = some (adr (E1 E0 q0 u q1 v) (sg0 (u.2.1.2.2.2.2.2.2.1 9)) 9, ent (E1 E0 q0 u q1 v) (sg0 (u.2.1.2.2.2.2.2.2.1 9)) 9 (.inl (1, [some 39, some 40, some 41, some 42, some 43, none]))) := rfl
set_option maxRecDepth 100000 in
theorem wq_10 : (LF E0 q0 u q1 v)[43]? = some (adr (E1 E0 q0 u q1 v) (sg0 (u.2.1.2.2.2.2.2.2.1 9)) 10, ent (E1 E0 q0 u q1 v) (sg0 (u.2.1.2.2.2.2.2.2.1 9)) 10 (.inl (5, [some 44, none, some 45, some 46, some 47, none, none, none, none, none, none]))) := rfl
set_option maxRecDepth 100000 in
theorem wq_11 : (LF E0 q0 u q1 v)[152]? = some (adr (E1 E0 q0 u q1 v) (sg0 (u.2.1.2.2.2.2.2.2.1 9)) 11, ent (E1 E0 q0 u q1 v) (sg0 (u.2.1.2.2.2.2.2.2.1 9)) 11 (.inl (12, [none, some 48, none, some 49, none, some 50, some 51, some 52, some 53, some 54, none, none, none, none, none, none, none, none, none, none, some 55, some 56, some 57, none, none, some 58, some 59, some 60, some 61, some 62, some 63, some 64, none, some 65, some 66, some 67, some 68, some 69, none, some 70, some 71, some 72, none, none, some 73, some 74, some 75, some 76, none, none, some 77, none, none, some 78, some 79, some 80, none, some 81, some 82, some 83, some 84, none, some 85, some 86, some 87, some 88, none, none, some 89, some 90, some 91, some 92, some 93, some 94, some 95, none, some 96, some 97, some 98, some 99]))) := by
  refine (show (LF E0 q0 u q1 v)[152]? = some (adr (E1 E0 q0 u q1 v) (sg0 (u.2.1.2.2.2.2.2.2.1 9)) 11, .inr (12, fldG (E1 E0 q0 u q1 v) (sg0 (u.2.1.2.2.2.2.2.2.1 9)) 11 0 [none, some 48, none, some 49, none, some 50, some 51, some 52, some 53, some 54, none, none, none, none, none, none, none, none, none, none, some 55, some 56, some 57, none, none, some 58, some 59, some 60, some 61, some 62, some 63, some 64, none, some 65, some 66, some 67, some 68, some 69, none, some 70, some 71, some 72, none, none, some 73, some 74, some 75, some 76, none, none, some 77, none, none, some 78, some 79, some 80, none, some 81, some 82, some 83, some 84, none, some 85, some 86, some 87, some 88, none, none, some 89, some 90, some 91, some 92, some 93, some 94, some 95, none, some 96, some 97, some 98, some 99])) from rfl).trans ?_
  rw [← fld_eq]
  rfl
set_option maxRecDepth 100000 in
theorem wq_12 : (LF E0 q0 u q1 v)[3]? = some (adr (E1 E0 q0 u q1 v) (sg0 (u.2.1.2.2.2.2.2.2.1 9)) 12, ent (E1 E0 q0 u q1 v) (sg0 (u.2.1.2.2.2.2.2.2.1 9)) 12 (.inr (0, some 7, []))) := rfl
set_option maxRecDepth 100000 in
theorem wq_13 : (LF E0 q0 u q1 v)[4]? = some (adr (E1 E0 q0 u q1 v) (sg0 (u.2.1.2.2.2.2.2.2.1 9)) 13, ent (E1 E0 q0 u q1 v) (sg0 (u.2.1.2.2.2.2.2.2.1 9)) 13 (.inr (0, some 7, []))) := rfl
set_option maxRecDepth 100000 in
theorem wq_14 : (LF E0 q0 u q1 v)[5]? = some (adr (E1 E0 q0 u q1 v) (sg0 (u.2.1.2.2.2.2.2.2.1 9)) 14, ent (E1 E0 q0 u q1 v) (sg0 (u.2.1.2.2.2.2.2.2.1 9)) 14 (.inr (0, some 7, []))) := rfl
set_option maxRecDepth 100000 in
theorem wq_15 : (LF E0 q0 u q1 v)[6]? = some (adr (E1 E0 q0 u q1 v) (sg0 (u.2.1.2.2.2.2.2.2.1 9)) 15, ent (E1 E0 q0 u q1 v) (sg0 (u.2.1.2.2.2.2.2.2.1 9)) 15 (.inr (0, some 7, []))) := rfl
set_option maxRecDepth 100000 in
theorem wq_16 : (LF E0 q0 u q1 v)[7]? = some (adr (E1 E0 q0 u q1 v) (sg0 (u.2.1.2.2.2.2.2.2.1 9)) 16, ent (E1 E0 q0 u q1 v) (sg0 (u.2.1.2.2.2.2.2.2.1 9)) 16 (.inr (0, some 20, []))) := rfl
set_option maxRecDepth 100000 in
theorem wq_17 : (LF E0 q0 u q1 v)[9]? = some (adr (E1 E0 q0 u q1 v) (sg0 (u.2.1.2.2.2.2.2.2.1 9)) 17, ent (E1 E0 q0 u q1 v) (sg0 (u.2.1.2.2.2.2.2.2.1 9)) 17 (.inr (0, some 400, []))) := rfl
set_option maxRecDepth 100000 in
theorem wq_18 : (LF E0 q0 u q1 v)[10]? = some (adr (E1 E0 q0 u q1 v) (sg0 (u.2.1.2.2.2.2.2.2.1 9)) 18, ent (E1 E0 q0 u q1 v) (sg0 (u.2.1.2.2.2.2.2.2.1 9)) 18 (.inr (0, some 400, []))) := rfl
set_option maxRecDepth 100000 in
theorem wq_19 : (LF E0 q0 u q1 v)[11]? = some (adr (E1 E0 q0 u q1 v) (sg0 (u.2.1.2.2.2.2.2.2.1 9)) 19, ent (E1 E0 q0 u q1 v) (sg0 (u.2.1.2.2.2.2.2.2.1 9)) 19 (.inr (0, some 1680, []))) := rfl
set_option maxRecDepth 100000 in
theorem wq_20 : (LF E0 q0 u q1 v)[13]? = some (adr (E1 E0 q0 u q1 v) (sg0 (u.2.1.2.2.2.2.2.2.1 9)) 20, ent (E1 E0 q0 u q1 v) (sg0 (u.2.1.2.2.2.2.2.2.1 9)) 20 (.inr (0, some 200, []))) := rfl
set_option maxRecDepth 100000 in
theorem wq_21 : (LF E0 q0 u q1 v)[14]? = some (adr (E1 E0 q0 u q1 v) (sg0 (u.2.1.2.2.2.2.2.2.1 9)) 21, ent (E1 E0 q0 u q1 v) (sg0 (u.2.1.2.2.2.2.2.2.1 9)) 21 (.inr (0, some 200, []))) := rfl
set_option maxRecDepth 100000 in
theorem wq_22 : (LF E0 q0 u q1 v)[15]? = some (adr (E1 E0 q0 u q1 v) (sg0 (u.2.1.2.2.2.2.2.2.1 9)) 22, ent (E1 E0 q0 u q1 v) (sg0 (u.2.1.2.2.2.2.2.2.1 9)) 22 (.inr (2, some 200, []))) := rfl
set_option maxRecDepth 100000 in
theorem wq_23 : (LF E0 q0 u q1 v)[16]? = some (adr (E1 E0 q0 u q1 v) (sg0 (u.2.1.2.2.2.2.2.2.1 9)) 23, ent (E1 E0 q0 u q1 v) (sg0 (u.2.1.2.2.2.2.2.2.1 9)) 23 (.inr (0, some 200, []))) := rfl
set_option maxRecDepth 100000 in
theorem wq_24 : (LF E0 q0 u q1 v)[19]? = some (adr (E1 E0 q0 u q1 v) (sg0 (u.2.1.2.2.2.2.2.2.1 9)) 24, ent (E1 E0 q0 u q1 v) (sg0 (u.2.1.2.2.2.2.2.2.1 9)) 24 (.inr (1, some 2000, []))) := rfl
set_option maxRecDepth 100000 in
theorem wq_25 : (LF E0 q0 u q1 v)[34]? = some (adr (E1 E0 q0 u q1 v) (sg0 (u.2.1.2.2.2.2.2.2.1 9)) 25, ent (E1 E0 q0 u q1 v) (sg0 (u.2.1.2.2.2.2.2.2.1 9)) 25 (.inr (0, some 601, []))) := rfl
set_option maxRecDepth 100000 in
theorem wq_26 : (LF E0 q0 u q1 v)[35]? = some (adr (E1 E0 q0 u q1 v) (sg0 (u.2.1.2.2.2.2.2.2.1 9)) 26, ent (E1 E0 q0 u q1 v) (sg0 (u.2.1.2.2.2.2.2.2.1 9)) 26 (.inr (0, some 601, []))) := rfl
set_option maxRecDepth 100000 in
theorem wq_27 : (LF E0 q0 u q1 v)[21]? = some (adr (E1 E0 q0 u q1 v) (sg0 (u.2.1.2.2.2.2.2.2.1 9)) 27, ent (E1 E0 q0 u q1 v) (sg0 (u.2.1.2.2.2.2.2.2.1 9)) 27 (.inr (0, some 30, []))) := rfl
set_option maxRecDepth 100000 in
theorem wq_28 : (LF E0 q0 u q1 v)[22]? = some (adr (E1 E0 q0 u q1 v) (sg0 (u.2.1.2.2.2.2.2.2.1 9)) 28, ent (E1 E0 q0 u q1 v) (sg0 (u.2.1.2.2.2.2.2.2.1 9)) 28 (.inr (2, some 30, []))) := rfl
set_option maxRecDepth 100000 in
theorem wq_29 : (LF E0 q0 u q1 v)[23]? = some (adr (E1 E0 q0 u q1 v) (sg0 (u.2.1.2.2.2.2.2.2.1 9)) 29, ent (E1 E0 q0 u q1 v) (sg0 (u.2.1.2.2.2.2.2.2.1 9)) 29 (.inr (0, some 30, []))) := rfl
set_option maxRecDepth 100000 in
theorem wq_30 : (LF E0 q0 u q1 v)[24]? = some (adr (E1 E0 q0 u q1 v) (sg0 (u.2.1.2.2.2.2.2.2.1 9)) 30, ent (E1 E0 q0 u q1 v) (sg0 (u.2.1.2.2.2.2.2.2.1 9)) 30 (.inr (0, some 30, []))) := rfl
set_option maxRecDepth 100000 in
theorem wq_31 : (LF E0 q0 u q1 v)[25]? = some (adr (E1 E0 q0 u q1 v) (sg0 (u.2.1.2.2.2.2.2.2.1 9)) 31, ent (E1 E0 q0 u q1 v) (sg0 (u.2.1.2.2.2.2.2.2.1 9)) 31 (.inr (0, some 30, []))) := rfl
set_option maxRecDepth 100000 in
theorem wq_32 : (LF E0 q0 u q1 v)[26]? = some (adr (E1 E0 q0 u q1 v) (sg0 (u.2.1.2.2.2.2.2.2.1 9)) 32, ent (E1 E0 q0 u q1 v) (sg0 (u.2.1.2.2.2.2.2.2.1 9)) 32 (.inr (0, some 30, []))) := rfl
set_option maxRecDepth 100000 in
theorem wq_33 : (LF E0 q0 u q1 v)[27]? = some (adr (E1 E0 q0 u q1 v) (sg0 (u.2.1.2.2.2.2.2.2.1 9)) 33, ent (E1 E0 q0 u q1 v) (sg0 (u.2.1.2.2.2.2.2.2.1 9)) 33 (.inr (3, some 10, []))) := rfl
set_option maxRecDepth 100000 in
theorem wq_34 : (LF E0 q0 u q1 v)[28]? = some (adr (E1 E0 q0 u q1 v) (sg0 (u.2.1.2.2.2.2.2.2.1 9)) 34, ent (E1 E0 q0 u q1 v) (sg0 (u.2.1.2.2.2.2.2.2.1 9)) 34 (.inr (0, some 10, []))) := rfl
set_option maxRecDepth 100000 in
theorem wq_35 : (LF E0 q0 u q1 v)[29]? = some (adr (E1 E0 q0 u q1 v) (sg0 (u.2.1.2.2.2.2.2.2.1 9)) 35, ent (E1 E0 q0 u q1 v) (sg0 (u.2.1.2.2.2.2.2.2.1 9)) 35 (.inr (0, some 10, []))) := rfl
set_option maxRecDepth 100000 in
theorem wq_36 : (LF E0 q0 u q1 v)[30]? = some (adr (E1 E0 q0 u q1 v) (sg0 (u.2.1.2.2.2.2.2.2.1 9)) 36, ent (E1 E0 q0 u q1 v) (sg0 (u.2.1.2.2.2.2.2.2.1 9)) 36 (.inr (0, none, []))) := rfl
set_option maxRecDepth 100000 in
theorem wq_37 : (LF E0 q0 u q1 v)[31]? = some (adr (E1 E0 q0 u q1 v) (sg0 (u.2.1.2.2.2.2.2.2.1 9)) 37, ent (E1 E0 q0 u q1 v) (sg0 (u.2.1.2.2.2.2.2.2.1 9)) 37 (.inr (0, some 12, []))) := rfl
set_option maxRecDepth 100000 in
theorem wq_38 : (LF E0 q0 u q1 v)[32]? = some (adr (E1 E0 q0 u q1 v) (sg0 (u.2.1.2.2.2.2.2.2.1 9)) 38, ent (E1 E0 q0 u q1 v) (sg0 (u.2.1.2.2.2.2.2.2.1 9)) 38 (.inr (0, some 32, []))) := rfl
set_option maxRecDepth 100000 in
theorem wq_39 : (LF E0 q0 u q1 v)[38]? = some (adr (E1 E0 q0 u q1 v) (sg0 (u.2.1.2.2.2.2.2.2.1 9)) 39, ent (E1 E0 q0 u q1 v) (sg0 (u.2.1.2.2.2.2.2.2.1 9)) 39 (.inr (0, some 60, []))) := rfl
set_option maxRecDepth 100000 in
theorem wq_40 : (LF E0 q0 u q1 v)[39]? = some (adr (E1 E0 q0 u q1 v) (sg0 (u.2.1.2.2.2.2.2.2.1 9)) 40, ent (E1 E0 q0 u q1 v) (sg0 (u.2.1.2.2.2.2.2.2.1 9)) 40 (.inr (0, some 60, []))) := rfl
set_option maxRecDepth 100000 in
theorem wq_41 : (LF E0 q0 u q1 v)[40]? = some (adr (E1 E0 q0 u q1 v) (sg0 (u.2.1.2.2.2.2.2.2.1 9)) 41, ent (E1 E0 q0 u q1 v) (sg0 (u.2.1.2.2.2.2.2.2.1 9)) 41 (.inr (0, some 60, []))) := rfl
set_option maxRecDepth 100000 in
theorem wq_42 : (LF E0 q0 u q1 v)[41]? = some (adr (E1 E0 q0 u q1 v) (sg0 (u.2.1.2.2.2.2.2.2.1 9)) 42, ent (E1 E0 q0 u q1 v) (sg0 (u.2.1.2.2.2.2.2.2.1 9)) 42 (.inr (0, some 60, []))) := rfl
set_option maxRecDepth 100000 in
theorem wq_43 : (LF E0 q0 u q1 v)[42]? = some (adr (E1 E0 q0 u q1 v) (sg0 (u.2.1.2.2.2.2.2.2.1 9)) 43, ent (E1 E0 q0 u q1 v) (sg0 (u.2.1.2.2.2.2.2.2.1 9)) 43 (.inr (0, some 60, []))) := rfl
set_option maxRecDepth 100000 in
theorem wq_44 : (LF E0 q0 u q1 v)[44]? = some (adr (E1 E0 q0 u q1 v) (sg0 (u.2.1.2.2.2.2.2.2.1 9)) 44, ent (E1 E0 q0 u q1 v) (sg0 (u.2.1.2.2.2.2.2.2.1 9)) 44 (.inr (0, some 6, []))) := rfl
set_option maxRecDepth 100000 in
theorem fe_45 : (va_up (va_up (va_up (va_up (va_up (va_up (fun _ => none) 0 (some (u.2.2.2.1.1 4))) 1 (some (u.2.2.2.1.1 5))) 2 (some (u.2.2.2.1.1 6))) 3 (some (u.2.2.2.1.1 7))) 4 (some (u.2.2.2.1.1 8))) 5 (some (u.2.2.2.1.1 9)) : Nat → Option Nat) = (fun j => (([126, 139, 152, 165, 178, 191] : List Nat)[j]?).map (adr (E1 E0 q0 u q1 v) (sg0 (u.2.1.2.2.2.2.2.2.1 9)))) := by
  funext j
  by_cases h : j < 6
  · rcases (show j = 0 ∨ j = 1 ∨ j = 2 ∨ j = 3 ∨ j = 4 ∨ j = 5 by omega) with rfl | rfl | rfl | rfl | rfl | rfl <;> rfl
  · rw [List.getElem?_eq_none (by show 6 ≤ j; omega)]
    rw [va_up_ne _ _ (show j ≠ 5 by omega), va_up_ne _ _ (show j ≠ 4 by omega), va_up_ne _ _ (show j ≠ 3 by omega), va_up_ne _ _ (show j ≠ 2 by omega), va_up_ne _ _ (show j ≠ 1 by omega), va_up_ne _ _ (show j ≠ 0 by omega)]; rfl
set_option maxRecDepth 100000 in
theorem wq_45 : (LF E0 q0 u q1 v)[45]? = some (adr (E1 E0 q0 u q1 v) (sg0 (u.2.1.2.2.2.2.2.2.1 9)) 45, ent (E1 E0 q0 u q1 v) (sg0 (u.2.1.2.2.2.2.2.2.1 9)) 45 (.inr (4, some 6, [126, 139, 152, 165, 178, 191]))) := by
  refine (show (LF E0 q0 u q1 v)[45]? = some ((u.2.2.2.1.1 1), .inl (E0.2.1 4, 6, .inr (.inr (.inr (.inr (va_up (va_up (va_up (va_up (va_up (va_up (fun _ => none) 0 (some (u.2.2.2.1.1 4))) 1 (some (u.2.2.2.1.1 5))) 2 (some (u.2.2.2.1.1 6))) 3 (some (u.2.2.2.1.1 7))) 4 (some (u.2.2.2.1.1 8))) 5 (some (u.2.2.2.1.1 9)))))))) from rfl).trans ?_
  rw [fe_45]
  rfl
set_option maxRecDepth 100000 in
theorem wq_46 : (LF E0 q0 u q1 v)[46]? = some (adr (E1 E0 q0 u q1 v) (sg0 (u.2.1.2.2.2.2.2.2.1 9)) 46, ent (E1 E0 q0 u q1 v) (sg0 (u.2.1.2.2.2.2.2.2.1 9)) 46 (.inr (0, some 6, []))) := rfl
set_option maxRecDepth 100000 in
theorem wq_47 : (LF E0 q0 u q1 v)[47]? = some (adr (E1 E0 q0 u q1 v) (sg0 (u.2.1.2.2.2.2.2.2.1 9)) 47, ent (E1 E0 q0 u q1 v) (sg0 (u.2.1.2.2.2.2.2.2.1 9)) 47 (.inr (0, some 6, []))) := rfl
set_option maxRecDepth 100000 in
theorem wq_48 : (LF E0 q0 u q1 v)[153]? = some (adr (E1 E0 q0 u q1 v) (sg0 (u.2.1.2.2.2.2.2.2.1 9)) 48, ent (E1 E0 q0 u q1 v) (sg0 (u.2.1.2.2.2.2.2.2.1 9)) 48 (.inr (1, some 2000, []))) := rfl
set_option maxRecDepth 100000 in
theorem wq_49 : (LF E0 q0 u q1 v)[154]? = some (adr (E1 E0 q0 u q1 v) (sg0 (u.2.1.2.2.2.2.2.2.1 9)) 49, ent (E1 E0 q0 u q1 v) (sg0 (u.2.1.2.2.2.2.2.2.1 9)) 49 (.inr (1, some 2000, []))) := rfl
set_option maxRecDepth 100000 in
theorem wq_50 : (LF E0 q0 u q1 v)[155]? = some (adr (E1 E0 q0 u q1 v) (sg0 (u.2.1.2.2.2.2.2.2.1 9)) 50, ent (E1 E0 q0 u q1 v) (sg0 (u.2.1.2.2.2.2.2.2.1 9)) 50 (.inr (0, some 603, []))) := rfl
set_option maxRecDepth 100000 in
theorem wq_51 : (LF E0 q0 u q1 v)[156]? = some (adr (E1 E0 q0 u q1 v) (sg0 (u.2.1.2.2.2.2.2.2.1 9)) 51, ent (E1 E0 q0 u q1 v) (sg0 (u.2.1.2.2.2.2.2.2.1 9)) 51 (.inr (0, some 603, []))) := rfl
set_option maxRecDepth 100000 in
theorem wq_52 : (LF E0 q0 u q1 v)[157]? = some (adr (E1 E0 q0 u q1 v) (sg0 (u.2.1.2.2.2.2.2.2.1 9)) 52, ent (E1 E0 q0 u q1 v) (sg0 (u.2.1.2.2.2.2.2.2.1 9)) 52 (.inr (0, some 603, []))) := rfl
set_option maxRecDepth 100000 in
theorem wq_53 : (LF E0 q0 u q1 v)[158]? = some (adr (E1 E0 q0 u q1 v) (sg0 (u.2.1.2.2.2.2.2.2.1 9)) 53, ent (E1 E0 q0 u q1 v) (sg0 (u.2.1.2.2.2.2.2.2.1 9)) 53 (.inr (3, some 603, []))) := rfl
set_option maxRecDepth 100000 in
theorem wq_54 : (LF E0 q0 u q1 v)[159]? = some (adr (E1 E0 q0 u q1 v) (sg0 (u.2.1.2.2.2.2.2.2.1 9)) 54, ent (E1 E0 q0 u q1 v) (sg0 (u.2.1.2.2.2.2.2.2.1 9)) 54 (.inr (3, some 23, []))) := rfl
set_option maxRecDepth 100000 in
theorem wq_55 : (LF E0 q0 u q1 v)[160]? = some (adr (E1 E0 q0 u q1 v) (sg0 (u.2.1.2.2.2.2.2.2.1 9)) 55, ent (E1 E0 q0 u q1 v) (sg0 (u.2.1.2.2.2.2.2.2.1 9)) 55 (.inr (3, some 11, []))) := rfl
set_option maxRecDepth 100000 in
theorem wq_56 : (LF E0 q0 u q1 v)[161]? = some (adr (E1 E0 q0 u q1 v) (sg0 (u.2.1.2.2.2.2.2.2.1 9)) 56, ent (E1 E0 q0 u q1 v) (sg0 (u.2.1.2.2.2.2.2.2.1 9)) 56 (.inr (0, some 11, []))) := rfl
set_option maxRecDepth 100000 in
theorem wq_57 : (LF E0 q0 u q1 v)[162]? = some (adr (E1 E0 q0 u q1 v) (sg0 (u.2.1.2.2.2.2.2.2.1 9)) 57, ent (E1 E0 q0 u q1 v) (sg0 (u.2.1.2.2.2.2.2.2.1 9)) 57 (.inr (0, some 11, []))) := rfl
set_option maxRecDepth 100000 in
theorem wq_58 : (LF E0 q0 u q1 v)[163]? = some (adr (E1 E0 q0 u q1 v) (sg0 (u.2.1.2.2.2.2.2.2.1 9)) 58, ent (E1 E0 q0 u q1 v) (sg0 (u.2.1.2.2.2.2.2.2.1 9)) 58 (.inr (0, some 31, []))) := rfl
set_option maxRecDepth 100000 in
theorem wq_59 : (LF E0 q0 u q1 v)[164]? = some (adr (E1 E0 q0 u q1 v) (sg0 (u.2.1.2.2.2.2.2.2.1 9)) 59, ent (E1 E0 q0 u q1 v) (sg0 (u.2.1.2.2.2.2.2.2.1 9)) 59 (.inr (0, some 31, []))) := rfl
set_option maxRecDepth 100000 in
theorem wq_60 : (LF E0 q0 u q1 v)[165]? = some (adr (E1 E0 q0 u q1 v) (sg0 (u.2.1.2.2.2.2.2.2.1 9)) 60, ent (E1 E0 q0 u q1 v) (sg0 (u.2.1.2.2.2.2.2.2.1 9)) 60 (.inr (2, some 31, []))) := rfl
set_option maxRecDepth 100000 in
theorem wq_61 : (LF E0 q0 u q1 v)[166]? = some (adr (E1 E0 q0 u q1 v) (sg0 (u.2.1.2.2.2.2.2.2.1 9)) 61, ent (E1 E0 q0 u q1 v) (sg0 (u.2.1.2.2.2.2.2.2.1 9)) 61 (.inr (0, some 31, []))) := rfl
set_option maxRecDepth 100000 in
theorem wq_62 : (LF E0 q0 u q1 v)[167]? = some (adr (E1 E0 q0 u q1 v) (sg0 (u.2.1.2.2.2.2.2.2.1 9)) 62, ent (E1 E0 q0 u q1 v) (sg0 (u.2.1.2.2.2.2.2.2.1 9)) 62 (.inr (0, some 31, []))) := rfl
set_option maxRecDepth 100000 in
theorem wq_63 : (LF E0 q0 u q1 v)[168]? = some (adr (E1 E0 q0 u q1 v) (sg0 (u.2.1.2.2.2.2.2.2.1 9)) 63, ent (E1 E0 q0 u q1 v) (sg0 (u.2.1.2.2.2.2.2.2.1 9)) 63 (.inr (0, some 31, []))) := rfl
set_option maxRecDepth 100000 in
theorem wq_64 : (LF E0 q0 u q1 v)[169]? = some (adr (E1 E0 q0 u q1 v) (sg0 (u.2.1.2.2.2.2.2.2.1 9)) 64, ent (E1 E0 q0 u q1 v) (sg0 (u.2.1.2.2.2.2.2.2.1 9)) 64 (.inr (0, some 31, []))) := rfl
set_option maxRecDepth 100000 in
theorem wq_65 : (LF E0 q0 u q1 v)[170]? = some (adr (E1 E0 q0 u q1 v) (sg0 (u.2.1.2.2.2.2.2.2.1 9)) 65, ent (E1 E0 q0 u q1 v) (sg0 (u.2.1.2.2.2.2.2.2.1 9)) 65 (.inr (0, some 6600, []))) := rfl
set_option maxRecDepth 100000 in
theorem wq_66 : (LF E0 q0 u q1 v)[171]? = some (adr (E1 E0 q0 u q1 v) (sg0 (u.2.1.2.2.2.2.2.2.1 9)) 66, ent (E1 E0 q0 u q1 v) (sg0 (u.2.1.2.2.2.2.2.2.1 9)) 66 (.inr (0, some 6600, []))) := rfl
set_option maxRecDepth 100000 in
theorem wq_67 : (LF E0 q0 u q1 v)[172]? = some (adr (E1 E0 q0 u q1 v) (sg0 (u.2.1.2.2.2.2.2.2.1 9)) 67, ent (E1 E0 q0 u q1 v) (sg0 (u.2.1.2.2.2.2.2.2.1 9)) 67 (.inr (0, some 6600, []))) := rfl
set_option maxRecDepth 100000 in
theorem wq_68 : (LF E0 q0 u q1 v)[173]? = some (adr (E1 E0 q0 u q1 v) (sg0 (u.2.1.2.2.2.2.2.2.1 9)) 68, ent (E1 E0 q0 u q1 v) (sg0 (u.2.1.2.2.2.2.2.2.1 9)) 68 (.inr (0, some 6600, []))) := rfl
set_option maxRecDepth 100000 in
theorem wq_69 : (LF E0 q0 u q1 v)[174]? = some (adr (E1 E0 q0 u q1 v) (sg0 (u.2.1.2.2.2.2.2.2.1 9)) 69, ent (E1 E0 q0 u q1 v) (sg0 (u.2.1.2.2.2.2.2.2.1 9)) 69 (.inr (2, some 6600, []))) := rfl
set_option maxRecDepth 100000 in
theorem wq_70 : (LF E0 q0 u q1 v)[175]? = some (adr (E1 E0 q0 u q1 v) (sg0 (u.2.1.2.2.2.2.2.2.1 9)) 70, ent (E1 E0 q0 u q1 v) (sg0 (u.2.1.2.2.2.2.2.2.1 9)) 70 (.inr (0, some 20000, []))) := rfl
set_option maxRecDepth 100000 in
theorem wq_71 : (LF E0 q0 u q1 v)[176]? = some (adr (E1 E0 q0 u q1 v) (sg0 (u.2.1.2.2.2.2.2.2.1 9)) 71, ent (E1 E0 q0 u q1 v) (sg0 (u.2.1.2.2.2.2.2.2.1 9)) 71 (.inr (0, some 20000, []))) := rfl
set_option maxRecDepth 100000 in
theorem wq_72 : (LF E0 q0 u q1 v)[177]? = some (adr (E1 E0 q0 u q1 v) (sg0 (u.2.1.2.2.2.2.2.2.1 9)) 72, ent (E1 E0 q0 u q1 v) (sg0 (u.2.1.2.2.2.2.2.2.1 9)) 72 (.inr (0, some 64, []))) := rfl
set_option maxRecDepth 100000 in
theorem wq_73 : (LF E0 q0 u q1 v)[178]? = some (adr (E1 E0 q0 u q1 v) (sg0 (u.2.1.2.2.2.2.2.2.1 9)) 73, ent (E1 E0 q0 u q1 v) (sg0 (u.2.1.2.2.2.2.2.2.1 9)) 73 (.inr (0, some 7, []))) := rfl
set_option maxRecDepth 100000 in
theorem wq_74 : (LF E0 q0 u q1 v)[179]? = some (adr (E1 E0 q0 u q1 v) (sg0 (u.2.1.2.2.2.2.2.2.1 9)) 74, ent (E1 E0 q0 u q1 v) (sg0 (u.2.1.2.2.2.2.2.2.1 9)) 74 (.inr (0, some 7, []))) := rfl
set_option maxRecDepth 100000 in
theorem wq_75 : (LF E0 q0 u q1 v)[180]? = some (adr (E1 E0 q0 u q1 v) (sg0 (u.2.1.2.2.2.2.2.2.1 9)) 75, ent (E1 E0 q0 u q1 v) (sg0 (u.2.1.2.2.2.2.2.2.1 9)) 75 (.inr (0, some 7, []))) := rfl
set_option maxRecDepth 100000 in
theorem wq_76 : (LF E0 q0 u q1 v)[181]? = some (adr (E1 E0 q0 u q1 v) (sg0 (u.2.1.2.2.2.2.2.2.1 9)) 76, ent (E1 E0 q0 u q1 v) (sg0 (u.2.1.2.2.2.2.2.2.1 9)) 76 (.inr (0, some 7, []))) := rfl
set_option maxRecDepth 100000 in
theorem wq_77 : (LF E0 q0 u q1 v)[182]? = some (adr (E1 E0 q0 u q1 v) (sg0 (u.2.1.2.2.2.2.2.2.1 9)) 77, ent (E1 E0 q0 u q1 v) (sg0 (u.2.1.2.2.2.2.2.2.1 9)) 77 (.inr (0, some 20, []))) := rfl
set_option maxRecDepth 100000 in
theorem wq_78 : (LF E0 q0 u q1 v)[183]? = some (adr (E1 E0 q0 u q1 v) (sg0 (u.2.1.2.2.2.2.2.2.1 9)) 78, ent (E1 E0 q0 u q1 v) (sg0 (u.2.1.2.2.2.2.2.2.1 9)) 78 (.inr (0, some 400, []))) := rfl
set_option maxRecDepth 100000 in
theorem wq_79 : (LF E0 q0 u q1 v)[184]? = some (adr (E1 E0 q0 u q1 v) (sg0 (u.2.1.2.2.2.2.2.2.1 9)) 79, ent (E1 E0 q0 u q1 v) (sg0 (u.2.1.2.2.2.2.2.2.1 9)) 79 (.inr (0, some 400, []))) := rfl
set_option maxRecDepth 100000 in
theorem wq_80 : (LF E0 q0 u q1 v)[185]? = some (adr (E1 E0 q0 u q1 v) (sg0 (u.2.1.2.2.2.2.2.2.1 9)) 80, ent (E1 E0 q0 u q1 v) (sg0 (u.2.1.2.2.2.2.2.2.1 9)) 80 (.inr (0, some 400, []))) := rfl
set_option maxRecDepth 100000 in
theorem wq_81 : (LF E0 q0 u q1 v)[186]? = some (adr (E1 E0 q0 u q1 v) (sg0 (u.2.1.2.2.2.2.2.2.1 9)) 81, ent (E1 E0 q0 u q1 v) (sg0 (u.2.1.2.2.2.2.2.2.1 9)) 81 (.inr (0, some 200, []))) := rfl
set_option maxRecDepth 100000 in
theorem wq_82 : (LF E0 q0 u q1 v)[187]? = some (adr (E1 E0 q0 u q1 v) (sg0 (u.2.1.2.2.2.2.2.2.1 9)) 82, ent (E1 E0 q0 u q1 v) (sg0 (u.2.1.2.2.2.2.2.2.1 9)) 82 (.inr (0, some 200, []))) := rfl
set_option maxRecDepth 100000 in
theorem wq_83 : (LF E0 q0 u q1 v)[188]? = some (adr (E1 E0 q0 u q1 v) (sg0 (u.2.1.2.2.2.2.2.2.1 9)) 83, ent (E1 E0 q0 u q1 v) (sg0 (u.2.1.2.2.2.2.2.2.1 9)) 83 (.inr (2, some 200, []))) := rfl
set_option maxRecDepth 100000 in
theorem wq_84 : (LF E0 q0 u q1 v)[189]? = some (adr (E1 E0 q0 u q1 v) (sg0 (u.2.1.2.2.2.2.2.2.1 9)) 84, ent (E1 E0 q0 u q1 v) (sg0 (u.2.1.2.2.2.2.2.2.1 9)) 84 (.inr (0, some 200, []))) := rfl
set_option maxRecDepth 100000 in
theorem wq_85 : (LF E0 q0 u q1 v)[190]? = some (adr (E1 E0 q0 u q1 v) (sg0 (u.2.1.2.2.2.2.2.2.1 9)) 85, ent (E1 E0 q0 u q1 v) (sg0 (u.2.1.2.2.2.2.2.2.1 9)) 85 (.inr (0, some 60, []))) := rfl
set_option maxRecDepth 100000 in
theorem wq_86 : (LF E0 q0 u q1 v)[191]? = some (adr (E1 E0 q0 u q1 v) (sg0 (u.2.1.2.2.2.2.2.2.1 9)) 86, ent (E1 E0 q0 u q1 v) (sg0 (u.2.1.2.2.2.2.2.2.1 9)) 86 (.inr (0, some 60, []))) := rfl
set_option maxRecDepth 100000 in
theorem wq_87 : (LF E0 q0 u q1 v)[192]? = some (adr (E1 E0 q0 u q1 v) (sg0 (u.2.1.2.2.2.2.2.2.1 9)) 87, ent (E1 E0 q0 u q1 v) (sg0 (u.2.1.2.2.2.2.2.2.1 9)) 87 (.inr (0, some 60, []))) := rfl
set_option maxRecDepth 100000 in
theorem wq_88 : (LF E0 q0 u q1 v)[193]? = some (adr (E1 E0 q0 u q1 v) (sg0 (u.2.1.2.2.2.2.2.2.1 9)) 88, ent (E1 E0 q0 u q1 v) (sg0 (u.2.1.2.2.2.2.2.2.1 9)) 88 (.inr (0, some 16800, []))) := rfl
set_option maxRecDepth 100000 in
theorem wq_89 : (LF E0 q0 u q1 v)[194]? = some (adr (E1 E0 q0 u q1 v) (sg0 (u.2.1.2.2.2.2.2.2.1 9)) 89, ent (E1 E0 q0 u q1 v) (sg0 (u.2.1.2.2.2.2.2.2.1 9)) 89 (.inr (0, some 1680, []))) := rfl
set_option maxRecDepth 100000 in
theorem wq_90 : (LF E0 q0 u q1 v)[195]? = some (adr (E1 E0 q0 u q1 v) (sg0 (u.2.1.2.2.2.2.2.2.1 9)) 90, ent (E1 E0 q0 u q1 v) (sg0 (u.2.1.2.2.2.2.2.2.1 9)) 90 (.inr (0, some 3360, []))) := rfl
set_option maxRecDepth 100000 in
theorem wq_91 : (LF E0 q0 u q1 v)[196]? = some (adr (E1 E0 q0 u q1 v) (sg0 (u.2.1.2.2.2.2.2.2.1 9)) 91, ent (E1 E0 q0 u q1 v) (sg0 (u.2.1.2.2.2.2.2.2.1 9)) 91 (.inr (0, some 14, []))) := rfl
set_option maxRecDepth 100000 in
theorem wq_92 : (LF E0 q0 u q1 v)[197]? = some (adr (E1 E0 q0 u q1 v) (sg0 (u.2.1.2.2.2.2.2.2.1 9)) 92, ent (E1 E0 q0 u q1 v) (sg0 (u.2.1.2.2.2.2.2.2.1 9)) 92 (.inr (0, some 700, []))) := rfl
set_option maxRecDepth 100000 in
theorem wq_93 : (LF E0 q0 u q1 v)[198]? = some (adr (E1 E0 q0 u q1 v) (sg0 (u.2.1.2.2.2.2.2.2.1 9)) 93, ent (E1 E0 q0 u q1 v) (sg0 (u.2.1.2.2.2.2.2.2.1 9)) 93 (.inr (0, some 7, []))) := rfl
set_option maxRecDepth 100000 in
theorem wq_94 : (LF E0 q0 u q1 v)[199]? = some (adr (E1 E0 q0 u q1 v) (sg0 (u.2.1.2.2.2.2.2.2.1 9)) 94, ent (E1 E0 q0 u q1 v) (sg0 (u.2.1.2.2.2.2.2.2.1 9)) 94 (.inr (0, some 6, []))) := rfl
set_option maxRecDepth 100000 in
theorem wq_95 : (LF E0 q0 u q1 v)[200]? = some (adr (E1 E0 q0 u q1 v) (sg0 (u.2.1.2.2.2.2.2.2.1 9)) 95, ent (E1 E0 q0 u q1 v) (sg0 (u.2.1.2.2.2.2.2.2.1 9)) 95 (.inr (0, some 6, []))) := rfl
set_option maxRecDepth 100000 in
theorem wq_96 : (LF E0 q0 u q1 v)[201]? = some (adr (E1 E0 q0 u q1 v) (sg0 (u.2.1.2.2.2.2.2.2.1 9)) 96, ent (E1 E0 q0 u q1 v) (sg0 (u.2.1.2.2.2.2.2.2.1 9)) 96 (.inr (0, some 7, []))) := rfl
set_option maxRecDepth 100000 in
theorem wq_97 : (LF E0 q0 u q1 v)[202]? = some (adr (E1 E0 q0 u q1 v) (sg0 (u.2.1.2.2.2.2.2.2.1 9)) 97, ent (E1 E0 q0 u q1 v) (sg0 (u.2.1.2.2.2.2.2.2.1 9)) 97 (.inr (0, some 7, []))) := rfl
set_option maxRecDepth 100000 in
theorem wq_98 : (LF E0 q0 u q1 v)[203]? = some (adr (E1 E0 q0 u q1 v) (sg0 (u.2.1.2.2.2.2.2.2.1 9)) 98, ent (E1 E0 q0 u q1 v) (sg0 (u.2.1.2.2.2.2.2.2.1 9)) 98 (.inr (0, some 60, []))) := rfl
set_option maxRecDepth 100000 in
theorem wq_99 : (LF E0 q0 u q1 v)[204]? = some (adr (E1 E0 q0 u q1 v) (sg0 (u.2.1.2.2.2.2.2.2.1 9)) 99, ent (E1 E0 q0 u q1 v) (sg0 (u.2.1.2.2.2.2.2.2.1 9)) 99 (.inr (0, some 60, []))) := rfl
set_option maxRecDepth 100000 in
theorem wq_100 : (LF E0 q0 u q1 v)[126]? = some (adr (E1 E0 q0 u q1 v) (sg0 (u.2.1.2.2.2.2.2.2.1 9)) 100, ent (E1 E0 q0 u q1 v) (sg0 (u.2.1.2.2.2.2.2.2.1 9)) 100 (.inl (7, [some 101, some 102, none, none, none]))) := rfl
set_option maxRecDepth 100000 in
theorem fe_101 : (rw10 u.2.2.2.2.1.2 : Nat → Option Nat) = (fun j => (([103, 104, 105, 106, 107, 108, 109, 110, 111, 112] : List Nat)[j]?).map (adr (E1 E0 q0 u q1 v) (sg0 (u.2.1.2.2.2.2.2.2.1 9)))) := by
  funext j
  by_cases h : j < 10
  · rcases (show j = 0 ∨ j = 1 ∨ j = 2 ∨ j = 3 ∨ j = 4 ∨ j = 5 ∨ j = 6 ∨ j = 7 ∨ j = 8 ∨ j = 9 by omega) with rfl | rfl | rfl | rfl | rfl | rfl | rfl | rfl | rfl | rfl <;> rfl
  · rw [List.getElem?_eq_none (by show 10 ≤ j; omega)]
    exact if_neg h
set_option maxRecDepth 100000 in
theorem wq_101 : (LF E0 q0 u q1 v)[127]? = some (adr (E1 E0 q0 u q1 v) (sg0 (u.2.1.2.2.2.2.2.2.1 9)) 101, ent (E1 E0 q0 u q1 v) (sg0 (u.2.1.2.2.2.2.2.2.1 9)) 101 (.inr (5, some 10, [103, 104, 105, 106, 107, 108, 109, 110, 111, 112]))) := by
  refine (show (LF E0 q0 u q1 v)[127]? = some ((u.2.2.2.2.1.1 0), .inl (E0.2.1 5, 10, .inr (.inr (.inr (.inr (rw10 u.2.2.2.2.1.2)))))) from rfl).trans ?_
  rw [fe_101]
  rfl
set_option maxRecDepth 100000 in
theorem wq_102 : (LF E0 q0 u q1 v)[138]? = some (adr (E1 E0 q0 u q1 v) (sg0 (u.2.1.2.2.2.2.2.2.1 9)) 102, ent (E1 E0 q0 u q1 v) (sg0 (u.2.1.2.2.2.2.2.2.1 9)) 102 (.inr (0, some 7, []))) := rfl
set_option maxRecDepth 100000 in
theorem wq_103 : (LF E0 q0 u q1 v)[128]? = some (adr (E1 E0 q0 u q1 v) (sg0 (u.2.1.2.2.2.2.2.2.1 9)) 103, ent (E1 E0 q0 u q1 v) (sg0 (u.2.1.2.2.2.2.2.2.1 9)) 103 (.inr (0, some 7, []))) := rfl
set_option maxRecDepth 100000 in
theorem wq_104 : (LF E0 q0 u q1 v)[129]? = some (adr (E1 E0 q0 u q1 v) (sg0 (u.2.1.2.2.2.2.2.2.1 9)) 104, ent (E1 E0 q0 u q1 v) (sg0 (u.2.1.2.2.2.2.2.2.1 9)) 104 (.inr (0, some 7, []))) := rfl
set_option maxRecDepth 100000 in
theorem wq_105 : (LF E0 q0 u q1 v)[130]? = some (adr (E1 E0 q0 u q1 v) (sg0 (u.2.1.2.2.2.2.2.2.1 9)) 105, ent (E1 E0 q0 u q1 v) (sg0 (u.2.1.2.2.2.2.2.2.1 9)) 105 (.inr (0, some 7, []))) := rfl
set_option maxRecDepth 100000 in
theorem wq_106 : (LF E0 q0 u q1 v)[131]? = some (adr (E1 E0 q0 u q1 v) (sg0 (u.2.1.2.2.2.2.2.2.1 9)) 106, ent (E1 E0 q0 u q1 v) (sg0 (u.2.1.2.2.2.2.2.2.1 9)) 106 (.inr (0, some 7, []))) := rfl
set_option maxRecDepth 100000 in
theorem wq_107 : (LF E0 q0 u q1 v)[132]? = some (adr (E1 E0 q0 u q1 v) (sg0 (u.2.1.2.2.2.2.2.2.1 9)) 107, ent (E1 E0 q0 u q1 v) (sg0 (u.2.1.2.2.2.2.2.2.1 9)) 107 (.inr (0, some 7, []))) := rfl
set_option maxRecDepth 100000 in
theorem wq_108 : (LF E0 q0 u q1 v)[133]? = some (adr (E1 E0 q0 u q1 v) (sg0 (u.2.1.2.2.2.2.2.2.1 9)) 108, ent (E1 E0 q0 u q1 v) (sg0 (u.2.1.2.2.2.2.2.2.1 9)) 108 (.inr (0, some 7, []))) := rfl
set_option maxRecDepth 100000 in
theorem wq_109 : (LF E0 q0 u q1 v)[134]? = some (adr (E1 E0 q0 u q1 v) (sg0 (u.2.1.2.2.2.2.2.2.1 9)) 109, ent (E1 E0 q0 u q1 v) (sg0 (u.2.1.2.2.2.2.2.2.1 9)) 109 (.inr (0, some 7, []))) := rfl
set_option maxRecDepth 100000 in
theorem wq_110 : (LF E0 q0 u q1 v)[135]? = some (adr (E1 E0 q0 u q1 v) (sg0 (u.2.1.2.2.2.2.2.2.1 9)) 110, ent (E1 E0 q0 u q1 v) (sg0 (u.2.1.2.2.2.2.2.2.1 9)) 110 (.inr (0, some 7, []))) := rfl
set_option maxRecDepth 100000 in
theorem wq_111 : (LF E0 q0 u q1 v)[136]? = some (adr (E1 E0 q0 u q1 v) (sg0 (u.2.1.2.2.2.2.2.2.1 9)) 111, ent (E1 E0 q0 u q1 v) (sg0 (u.2.1.2.2.2.2.2.2.1 9)) 111 (.inr (0, some 7, []))) := rfl
set_option maxRecDepth 100000 in
theorem wq_112 : (LF E0 q0 u q1 v)[137]? = some (adr (E1 E0 q0 u q1 v) (sg0 (u.2.1.2.2.2.2.2.2.1 9)) 112, ent (E1 E0 q0 u q1 v) (sg0 (u.2.1.2.2.2.2.2.2.1 9)) 112 (.inr (0, some 7, []))) := rfl
set_option maxRecDepth 100000 in
theorem wq_113 : (LF E0 q0 u q1 v)[139]? = some (adr (E1 E0 q0 u q1 v) (sg0 (u.2.1.2.2.2.2.2.2.1 9)) 113, ent (E1 E0 q0 u q1 v) (sg0 (u.2.1.2.2.2.2.2.2.1 9)) 113 (.inl (7, [some 114, some 115, none, none, none]))) := rfl
set_option maxRecDepth 100000 in
theorem fe_114 : (rw10 u.2.2.2.2.2.2 : Nat → Option Nat) = (fun j => (([116, 117, 118, 119, 120, 121, 122, 123, 124, 125] : List Nat)[j]?).map (adr (E1 E0 q0 u q1 v) (sg0 (u.2.1.2.2.2.2.2.2.1 9)))) := by
  funext j
  by_cases h : j < 10
  · rcases (show j = 0 ∨ j = 1 ∨ j = 2 ∨ j = 3 ∨ j = 4 ∨ j = 5 ∨ j = 6 ∨ j = 7 ∨ j = 8 ∨ j = 9 by omega) with rfl | rfl | rfl | rfl | rfl | rfl | rfl | rfl | rfl | rfl <;> rfl
  · rw [List.getElem?_eq_none (by show 10 ≤ j; omega)]
    exact if_neg h
set_option maxRecDepth 100000 in
theorem wq_114 : (LF E0 q0 u q1 v)[140]? = some (adr (E1 E0 q0 u q1 v) (sg0 (u.2.1.2.2.2.2.2.2.1 9)) 114, ent (E1 E0 q0 u q1 v) (sg0 (u.2.1.2.2.2.2.2.2.1 9)) 114 (.inr (5, some 10, [116, 117, 118, 119, 120, 121, 122, 123, 124, 125]))) := by
  refine (show (LF E0 q0 u q1 v)[140]? = some ((u.2.2.2.2.2.1 0), .inl (E0.2.1 5, 10, .inr (.inr (.inr (.inr (rw10 u.2.2.2.2.2.2)))))) from rfl).trans ?_
  rw [fe_114]
  rfl
set_option maxRecDepth 100000 in
theorem wq_115 : (LF E0 q0 u q1 v)[151]? = some (adr (E1 E0 q0 u q1 v) (sg0 (u.2.1.2.2.2.2.2.2.1 9)) 115, ent (E1 E0 q0 u q1 v) (sg0 (u.2.1.2.2.2.2.2.2.1 9)) 115 (.inr (0, some 7, []))) := rfl
set_option maxRecDepth 100000 in
theorem wq_116 : (LF E0 q0 u q1 v)[141]? = some (adr (E1 E0 q0 u q1 v) (sg0 (u.2.1.2.2.2.2.2.2.1 9)) 116, ent (E1 E0 q0 u q1 v) (sg0 (u.2.1.2.2.2.2.2.2.1 9)) 116 (.inr (0, some 7, []))) := rfl
set_option maxRecDepth 100000 in
theorem wq_117 : (LF E0 q0 u q1 v)[142]? = some (adr (E1 E0 q0 u q1 v) (sg0 (u.2.1.2.2.2.2.2.2.1 9)) 117, ent (E1 E0 q0 u q1 v) (sg0 (u.2.1.2.2.2.2.2.2.1 9)) 117 (.inr (0, some 7, []))) := rfl
set_option maxRecDepth 100000 in
theorem wq_118 : (LF E0 q0 u q1 v)[143]? = some (adr (E1 E0 q0 u q1 v) (sg0 (u.2.1.2.2.2.2.2.2.1 9)) 118, ent (E1 E0 q0 u q1 v) (sg0 (u.2.1.2.2.2.2.2.2.1 9)) 118 (.inr (0, some 7, []))) := rfl
set_option maxRecDepth 100000 in
theorem wq_119 : (LF E0 q0 u q1 v)[144]? = some (adr (E1 E0 q0 u q1 v) (sg0 (u.2.1.2.2.2.2.2.2.1 9)) 119, ent (E1 E0 q0 u q1 v) (sg0 (u.2.1.2.2.2.2.2.2.1 9)) 119 (.inr (0, some 7, []))) := rfl
set_option maxRecDepth 100000 in
theorem wq_120 : (LF E0 q0 u q1 v)[145]? = some (adr (E1 E0 q0 u q1 v) (sg0 (u.2.1.2.2.2.2.2.2.1 9)) 120, ent (E1 E0 q0 u q1 v) (sg0 (u.2.1.2.2.2.2.2.2.1 9)) 120 (.inr (0, some 7, []))) := rfl
set_option maxRecDepth 100000 in
theorem wq_121 : (LF E0 q0 u q1 v)[146]? = some (adr (E1 E0 q0 u q1 v) (sg0 (u.2.1.2.2.2.2.2.2.1 9)) 121, ent (E1 E0 q0 u q1 v) (sg0 (u.2.1.2.2.2.2.2.2.1 9)) 121 (.inr (0, some 7, []))) := rfl
set_option maxRecDepth 100000 in
theorem wq_122 : (LF E0 q0 u q1 v)[147]? = some (adr (E1 E0 q0 u q1 v) (sg0 (u.2.1.2.2.2.2.2.2.1 9)) 122, ent (E1 E0 q0 u q1 v) (sg0 (u.2.1.2.2.2.2.2.2.1 9)) 122 (.inr (0, some 7, []))) := rfl
set_option maxRecDepth 100000 in
theorem wq_123 : (LF E0 q0 u q1 v)[148]? = some (adr (E1 E0 q0 u q1 v) (sg0 (u.2.1.2.2.2.2.2.2.1 9)) 123, ent (E1 E0 q0 u q1 v) (sg0 (u.2.1.2.2.2.2.2.2.1 9)) 123 (.inr (0, some 7, []))) := rfl
set_option maxRecDepth 100000 in
theorem wq_124 : (LF E0 q0 u q1 v)[149]? = some (adr (E1 E0 q0 u q1 v) (sg0 (u.2.1.2.2.2.2.2.2.1 9)) 124, ent (E1 E0 q0 u q1 v) (sg0 (u.2.1.2.2.2.2.2.2.1 9)) 124 (.inr (0, some 7, []))) := rfl
set_option maxRecDepth 100000 in
theorem wq_125 : (LF E0 q0 u q1 v)[150]? = some (adr (E1 E0 q0 u q1 v) (sg0 (u.2.1.2.2.2.2.2.2.1 9)) 125, ent (E1 E0 q0 u q1 v) (sg0 (u.2.1.2.2.2.2.2.2.1 9)) 125 (.inr (0, some 7, []))) := rfl
set_option maxRecDepth 100000 in
theorem wq_126 : (LF E0 q0 u q1 v)[48]? = some (adr (E1 E0 q0 u q1 v) (sg0 (u.2.1.2.2.2.2.2.2.1 9)) 126, ent (E1 E0 q0 u q1 v) (sg0 (u.2.1.2.2.2.2.2.2.1 9)) 126 (.inl (7, [some 127, some 128, none, none, none]))) := rfl
set_option maxRecDepth 100000 in
theorem fe_127 : (rw10 u.2.2.2.1.2.1.2 : Nat → Option Nat) = (fun j => (([129, 130, 131, 132, 133, 134, 135, 136, 137, 138] : List Nat)[j]?).map (adr (E1 E0 q0 u q1 v) (sg0 (u.2.1.2.2.2.2.2.2.1 9)))) := by
  funext j
  by_cases h : j < 10
  · rcases (show j = 0 ∨ j = 1 ∨ j = 2 ∨ j = 3 ∨ j = 4 ∨ j = 5 ∨ j = 6 ∨ j = 7 ∨ j = 8 ∨ j = 9 by omega) with rfl | rfl | rfl | rfl | rfl | rfl | rfl | rfl | rfl | rfl <;> rfl
  · rw [List.getElem?_eq_none (by show 10 ≤ j; omega)]
    exact if_neg h
set_option maxRecDepth 100000 in
theorem wq_127 : (LF E0 q0 u q1 v)[49]? = some (adr (E1 E0 q0 u q1 v) (sg0 (u.2.1.2.2.2.2.2.2.1 9)) 127, ent (E1 E0 q0 u q1 v) (sg0 (u.2.1.2.2.2.2.2.2.1 9)) 127 (.inr (5, some 10, [129, 130, 131, 132, 133, 134, 135, 136, 137, 138]))) := by
  refine (show (LF E0 q0 u q1 v)[49]? = some ((u.2.2.2.1.2.1.1 0), .inl (E0.2.1 5, 10, .inr (.inr (.inr (.inr (rw10 u.2.2.2.1.2.1.2)))))) from rfl).trans ?_
  rw [fe_127]
  rfl
set_option maxRecDepth 100000 in
theorem wq_128 : (LF E0 q0 u q1 v)[60]? = some (adr (E1 E0 q0 u q1 v) (sg0 (u.2.1.2.2.2.2.2.2.1 9)) 128, ent (E1 E0 q0 u q1 v) (sg0 (u.2.1.2.2.2.2.2.2.1 9)) 128 (.inr (0, some 7, []))) := rfl
set_option maxRecDepth 100000 in
theorem wq_129 : (LF E0 q0 u q1 v)[50]? = some (adr (E1 E0 q0 u q1 v) (sg0 (u.2.1.2.2.2.2.2.2.1 9)) 129, ent (E1 E0 q0 u q1 v) (sg0 (u.2.1.2.2.2.2.2.2.1 9)) 129 (.inr (0, some 7, []))) := rfl
set_option maxRecDepth 100000 in
theorem wq_130 : (LF E0 q0 u q1 v)[51]? = some (adr (E1 E0 q0 u q1 v) (sg0 (u.2.1.2.2.2.2.2.2.1 9)) 130, ent (E1 E0 q0 u q1 v) (sg0 (u.2.1.2.2.2.2.2.2.1 9)) 130 (.inr (0, some 7, []))) := rfl
set_option maxRecDepth 100000 in
theorem wq_131 : (LF E0 q0 u q1 v)[52]? = some (adr (E1 E0 q0 u q1 v) (sg0 (u.2.1.2.2.2.2.2.2.1 9)) 131, ent (E1 E0 q0 u q1 v) (sg0 (u.2.1.2.2.2.2.2.2.1 9)) 131 (.inr (0, some 7, []))) := rfl
set_option maxRecDepth 100000 in
theorem wq_132 : (LF E0 q0 u q1 v)[53]? = some (adr (E1 E0 q0 u q1 v) (sg0 (u.2.1.2.2.2.2.2.2.1 9)) 132, ent (E1 E0 q0 u q1 v) (sg0 (u.2.1.2.2.2.2.2.2.1 9)) 132 (.inr (0, some 7, []))) := rfl
set_option maxRecDepth 100000 in
theorem wq_133 : (LF E0 q0 u q1 v)[54]? = some (adr (E1 E0 q0 u q1 v) (sg0 (u.2.1.2.2.2.2.2.2.1 9)) 133, ent (E1 E0 q0 u q1 v) (sg0 (u.2.1.2.2.2.2.2.2.1 9)) 133 (.inr (0, some 7, []))) := rfl
set_option maxRecDepth 100000 in
theorem wq_134 : (LF E0 q0 u q1 v)[55]? = some (adr (E1 E0 q0 u q1 v) (sg0 (u.2.1.2.2.2.2.2.2.1 9)) 134, ent (E1 E0 q0 u q1 v) (sg0 (u.2.1.2.2.2.2.2.2.1 9)) 134 (.inr (0, some 7, []))) := rfl
set_option maxRecDepth 100000 in
theorem wq_135 : (LF E0 q0 u q1 v)[56]? = some (adr (E1 E0 q0 u q1 v) (sg0 (u.2.1.2.2.2.2.2.2.1 9)) 135, ent (E1 E0 q0 u q1 v) (sg0 (u.2.1.2.2.2.2.2.2.1 9)) 135 (.inr (0, some 7, []))) := rfl
set_option maxRecDepth 100000 in
theorem wq_136 : (LF E0 q0 u q1 v)[57]? = some (adr (E1 E0 q0 u q1 v) (sg0 (u.2.1.2.2.2.2.2.2.1 9)) 136, ent (E1 E0 q0 u q1 v) (sg0 (u.2.1.2.2.2.2.2.2.1 9)) 136 (.inr (0, some 7, []))) := rfl
set_option maxRecDepth 100000 in
theorem wq_137 : (LF E0 q0 u q1 v)[58]? = some (adr (E1 E0 q0 u q1 v) (sg0 (u.2.1.2.2.2.2.2.2.1 9)) 137, ent (E1 E0 q0 u q1 v) (sg0 (u.2.1.2.2.2.2.2.2.1 9)) 137 (.inr (0, some 7, []))) := rfl
set_option maxRecDepth 100000 in
theorem wq_138 : (LF E0 q0 u q1 v)[59]? = some (adr (E1 E0 q0 u q1 v) (sg0 (u.2.1.2.2.2.2.2.2.1 9)) 138, ent (E1 E0 q0 u q1 v) (sg0 (u.2.1.2.2.2.2.2.2.1 9)) 138 (.inr (0, some 7, []))) := rfl
set_option maxRecDepth 100000 in
theorem wq_139 : (LF E0 q0 u q1 v)[61]? = some (adr (E1 E0 q0 u q1 v) (sg0 (u.2.1.2.2.2.2.2.2.1 9)) 139, ent (E1 E0 q0 u q1 v) (sg0 (u.2.1.2.2.2.2.2.2.1 9)) 139 (.inl (7, [some 140, some 141, none, none, none]))) := rfl
set_option maxRecDepth 100000 in
theorem fe_140 : (rw10 u.2.2.2.1.2.2.1.2 : Nat → Option Nat) = (fun j => (([142, 143, 144, 145, 146, 147, 148, 149, 150, 151] : List Nat)[j]?).map (adr (E1 E0 q0 u q1 v) (sg0 (u.2.1.2.2.2.2.2.2.1 9)))) := by
  funext j
  by_cases h : j < 10
  · rcases (show j = 0 ∨ j = 1 ∨ j = 2 ∨ j = 3 ∨ j = 4 ∨ j = 5 ∨ j = 6 ∨ j = 7 ∨ j = 8 ∨ j = 9 by omega) with rfl | rfl | rfl | rfl | rfl | rfl | rfl | rfl | rfl | rfl <;> rfl
  · rw [List.getElem?_eq_none (by show 10 ≤ j; omega)]
    exact if_neg h
set_option maxRecDepth 100000 in
theorem wq_140 : (LF E0 q0 u q1 v)[62]? = some (adr (E1 E0 q0 u q1 v) (sg0 (u.2.1.2.2.2.2.2.2.1 9)) 140, ent (E1 E0 q0 u q1 v) (sg0 (u.2.1.2.2.2.2.2.2.1 9)) 140 (.inr (5, some 10, [142, 143, 144, 145, 146, 147, 148, 149, 150, 151]))) := by
  refine (show (LF E0 q0 u q1 v)[62]? = some ((u.2.2.2.1.2.2.1.1 0), .inl (E0.2.1 5, 10, .inr (.inr (.inr (.inr (rw10 u.2.2.2.1.2.2.1.2)))))) from rfl).trans ?_
  rw [fe_140]
  rfl
set_option maxRecDepth 100000 in
theorem wq_141 : (LF E0 q0 u q1 v)[73]? = some (adr (E1 E0 q0 u q1 v) (sg0 (u.2.1.2.2.2.2.2.2.1 9)) 141, ent (E1 E0 q0 u q1 v) (sg0 (u.2.1.2.2.2.2.2.2.1 9)) 141 (.inr (0, some 7, []))) := rfl
set_option maxRecDepth 100000 in
theorem wq_142 : (LF E0 q0 u q1 v)[63]? = some (adr (E1 E0 q0 u q1 v) (sg0 (u.2.1.2.2.2.2.2.2.1 9)) 142, ent (E1 E0 q0 u q1 v) (sg0 (u.2.1.2.2.2.2.2.2.1 9)) 142 (.inr (0, some 7, []))) := rfl
set_option maxRecDepth 100000 in
theorem wq_143 : (LF E0 q0 u q1 v)[64]? = some (adr (E1 E0 q0 u q1 v) (sg0 (u.2.1.2.2.2.2.2.2.1 9)) 143, ent (E1 E0 q0 u q1 v) (sg0 (u.2.1.2.2.2.2.2.2.1 9)) 143 (.inr (0, some 7, []))) := rfl
set_option maxRecDepth 100000 in
theorem wq_144 : (LF E0 q0 u q1 v)[65]? = some (adr (E1 E0 q0 u q1 v) (sg0 (u.2.1.2.2.2.2.2.2.1 9)) 144, ent (E1 E0 q0 u q1 v) (sg0 (u.2.1.2.2.2.2.2.2.1 9)) 144 (.inr (0, some 7, []))) := rfl
set_option maxRecDepth 100000 in
theorem wq_145 : (LF E0 q0 u q1 v)[66]? = some (adr (E1 E0 q0 u q1 v) (sg0 (u.2.1.2.2.2.2.2.2.1 9)) 145, ent (E1 E0 q0 u q1 v) (sg0 (u.2.1.2.2.2.2.2.2.1 9)) 145 (.inr (0, some 7, []))) := rfl
set_option maxRecDepth 100000 in
theorem wq_146 : (LF E0 q0 u q1 v)[67]? = some (adr (E1 E0 q0 u q1 v) (sg0 (u.2.1.2.2.2.2.2.2.1 9)) 146, ent (E1 E0 q0 u q1 v) (sg0 (u.2.1.2.2.2.2.2.2.1 9)) 146 (.inr (0, some 7, []))) := rfl
set_option maxRecDepth 100000 in
theorem wq_147 : (LF E0 q0 u q1 v)[68]? = some (adr (E1 E0 q0 u q1 v) (sg0 (u.2.1.2.2.2.2.2.2.1 9)) 147, ent (E1 E0 q0 u q1 v) (sg0 (u.2.1.2.2.2.2.2.2.1 9)) 147 (.inr (0, some 7, []))) := rfl
set_option maxRecDepth 100000 in
theorem wq_148 : (LF E0 q0 u q1 v)[69]? = some (adr (E1 E0 q0 u q1 v) (sg0 (u.2.1.2.2.2.2.2.2.1 9)) 148, ent (E1 E0 q0 u q1 v) (sg0 (u.2.1.2.2.2.2.2.2.1 9)) 148 (.inr (0, some 7, []))) := rfl
set_option maxRecDepth 100000 in
theorem wq_149 : (LF E0 q0 u q1 v)[70]? = some (adr (E1 E0 q0 u q1 v) (sg0 (u.2.1.2.2.2.2.2.2.1 9)) 149, ent (E1 E0 q0 u q1 v) (sg0 (u.2.1.2.2.2.2.2.2.1 9)) 149 (.inr (0, some 7, []))) := rfl
set_option maxRecDepth 100000 in
theorem wq_150 : (LF E0 q0 u q1 v)[71]? = some (adr (E1 E0 q0 u q1 v) (sg0 (u.2.1.2.2.2.2.2.2.1 9)) 150, ent (E1 E0 q0 u q1 v) (sg0 (u.2.1.2.2.2.2.2.2.1 9)) 150 (.inr (0, some 7, []))) := rfl
set_option maxRecDepth 100000 in
theorem wq_151 : (LF E0 q0 u q1 v)[72]? = some (adr (E1 E0 q0 u q1 v) (sg0 (u.2.1.2.2.2.2.2.2.1 9)) 151, ent (E1 E0 q0 u q1 v) (sg0 (u.2.1.2.2.2.2.2.2.1 9)) 151 (.inr (0, some 7, []))) := rfl
set_option maxRecDepth 100000 in
theorem wq_152 : (LF E0 q0 u q1 v)[74]? = some (adr (E1 E0 q0 u q1 v) (sg0 (u.2.1.2.2.2.2.2.2.1 9)) 152, ent (E1 E0 q0 u q1 v) (sg0 (u.2.1.2.2.2.2.2.2.1 9)) 152 (.inl (7, [some 153, some 154, none, none, none]))) := rfl
set_option maxRecDepth 100000 in
theorem fe_153 : (rw10 u.2.2.2.1.2.2.2.1.2 : Nat → Option Nat) = (fun j => (([155, 156, 157, 158, 159, 160, 161, 162, 163, 164] : List Nat)[j]?).map (adr (E1 E0 q0 u q1 v) (sg0 (u.2.1.2.2.2.2.2.2.1 9)))) := by
  funext j
  by_cases h : j < 10
  · rcases (show j = 0 ∨ j = 1 ∨ j = 2 ∨ j = 3 ∨ j = 4 ∨ j = 5 ∨ j = 6 ∨ j = 7 ∨ j = 8 ∨ j = 9 by omega) with rfl | rfl | rfl | rfl | rfl | rfl | rfl | rfl | rfl | rfl <;> rfl
  · rw [List.getElem?_eq_none (by show 10 ≤ j; omega)]
    exact if_neg h
set_option maxRecDepth 100000 in
theorem wq_153 : (LF E0 q0 u q1 v)[75]? = some (adr (E1 E0 q0 u q1 v) (sg0 (u.2.1.2.2.2.2.2.2.1 9)) 153, ent (E1 E0 q0 u q1 v) (sg0 (u.2.1.2.2.2.2.2.2.1 9)) 153 (.inr (5, some 10, [155, 156, 157, 158, 159, 160, 161, 162, 163, 164]))) := by
  refine (show (LF E0 q0 u q1 v)[75]? = some ((u.2.2.2.1.2.2.2.1.1 0), .inl (E0.2.1 5, 10, .inr (.inr (.inr (.inr (rw10 u.2.2.2.1.2.2.2.1.2)))))) from rfl).trans ?_
  rw [fe_153]
  rfl
set_option maxRecDepth 100000 in
theorem wq_154 : (LF E0 q0 u q1 v)[86]? = some (adr (E1 E0 q0 u q1 v) (sg0 (u.2.1.2.2.2.2.2.2.1 9)) 154, ent (E1 E0 q0 u q1 v) (sg0 (u.2.1.2.2.2.2.2.2.1 9)) 154 (.inr (0, some 7, []))) := rfl
set_option maxRecDepth 100000 in
theorem wq_155 : (LF E0 q0 u q1 v)[76]? = some (adr (E1 E0 q0 u q1 v) (sg0 (u.2.1.2.2.2.2.2.2.1 9)) 155, ent (E1 E0 q0 u q1 v) (sg0 (u.2.1.2.2.2.2.2.2.1 9)) 155 (.inr (0, some 7, []))) := rfl
set_option maxRecDepth 100000 in
theorem wq_156 : (LF E0 q0 u q1 v)[77]? = some (adr (E1 E0 q0 u q1 v) (sg0 (u.2.1.2.2.2.2.2.2.1 9)) 156, ent (E1 E0 q0 u q1 v) (sg0 (u.2.1.2.2.2.2.2.2.1 9)) 156 (.inr (0, some 7, []))) := rfl
set_option maxRecDepth 100000 in
theorem wq_157 : (LF E0 q0 u q1 v)[78]? = some (adr (E1 E0 q0 u q1 v) (sg0 (u.2.1.2.2.2.2.2.2.1 9)) 157, ent (E1 E0 q0 u q1 v) (sg0 (u.2.1.2.2.2.2.2.2.1 9)) 157 (.inr (0, some 7, []))) := rfl
set_option maxRecDepth 100000 in
theorem wq_158 : (LF E0 q0 u q1 v)[79]? = some (adr (E1 E0 q0 u q1 v) (sg0 (u.2.1.2.2.2.2.2.2.1 9)) 158, ent (E1 E0 q0 u q1 v) (sg0 (u.2.1.2.2.2.2.2.2.1 9)) 158 (.inr (0, some 7, []))) := rfl
set_option maxRecDepth 100000 in
theorem wq_159 : (LF E0 q0 u q1 v)[80]? = some (adr (E1 E0 q0 u q1 v) (sg0 (u.2.1.2.2.2.2.2.2.1 9)) 159, ent (E1 E0 q0 u q1 v) (sg0 (u.2.1.2.2.2.2.2.2.1 9)) 159 (.inr (0, some 7, []))) := rfl
set_option maxRecDepth 100000 in
theorem wq_160 : (LF E0 q0 u q1 v)[81]? = some (adr (E1 E0 q0 u q1 v) (sg0 (u.2.1.2.2.2.2.2.2.1 9)) 160, ent (E1 E0 q0 u q1 v) (sg0 (u.2.1.2.2.2.2.2.2.1 9)) 160 (.inr (0, some 7, []))) := rfl
set_option maxRecDepth 100000 in
theorem wq_161 : (LF E0 q0 u q1 v)[82]? = some (adr (E1 E0 q0 u q1 v) (sg0 (u.2.1.2.2.2.2.2.2.1 9)) 161, ent (E1 E0 q0 u q1 v) (sg0 (u.2.1.2.2.2.2.2.2.1 9)) 161 (.inr (0, some 7, []))) := rfl
set_option maxRecDepth 100000 in
theorem wq_162 : (LF E0 q0 u q1 v)[83]? = some (adr (E1 E0 q0 u q1 v) (sg0 (u.2.1.2.2.2.2.2.2.1 9)) 162, ent (E1 E0 q0 u q1 v) (sg0 (u.2.1.2.2.2.2.2.2.1 9)) 162 (.inr (0, some 7, []))) := rfl
set_option maxRecDepth 100000 in
theorem wq_163 : (LF E0 q0 u q1 v)[84]? = some (adr (E1 E0 q0 u q1 v) (sg0 (u.2.1.2.2.2.2.2.2.1 9)) 163, ent (E1 E0 q0 u q1 v) (sg0 (u.2.1.2.2.2.2.2.2.1 9)) 163 (.inr (0, some 7, []))) := rfl
set_option maxRecDepth 100000 in
theorem wq_164 : (LF E0 q0 u q1 v)[85]? = some (adr (E1 E0 q0 u q1 v) (sg0 (u.2.1.2.2.2.2.2.2.1 9)) 164, ent (E1 E0 q0 u q1 v) (sg0 (u.2.1.2.2.2.2.2.2.1 9)) 164 (.inr (0, some 7, []))) := rfl
set_option maxRecDepth 100000 in
theorem wq_165 : (LF E0 q0 u q1 v)[87]? = some (adr (E1 E0 q0 u q1 v) (sg0 (u.2.1.2.2.2.2.2.2.1 9)) 165, ent (E1 E0 q0 u q1 v) (sg0 (u.2.1.2.2.2.2.2.2.1 9)) 165 (.inl (7, [some 166, some 167, none, none, none]))) := rfl
set_option maxRecDepth 100000 in
theorem fe_166 : (rw10 u.2.2.2.1.2.2.2.2.1.2 : Nat → Option Nat) = (fun j => (([168, 169, 170, 171, 172, 173, 174, 175, 176, 177] : List Nat)[j]?).map (adr (E1 E0 q0 u q1 v) (sg0 (u.2.1.2.2.2.2.2.2.1 9)))) := by
  funext j
  by_cases h : j < 10
  · rcases (show j = 0 ∨ j = 1 ∨ j = 2 ∨ j = 3 ∨ j = 4 ∨ j = 5 ∨ j = 6 ∨ j = 7 ∨ j = 8 ∨ j = 9 by omega) with rfl | rfl | rfl | rfl | rfl | rfl | rfl | rfl | rfl | rfl <;> rfl
  · rw [List.getElem?_eq_none (by show 10 ≤ j; omega)]
    exact if_neg h
set_option maxRecDepth 100000 in
theorem wq_166 : (LF E0 q0 u q1 v)[88]? = some (adr (E1 E0 q0 u q1 v) (sg0 (u.2.1.2.2.2.2.2.2.1 9)) 166, ent (E1 E0 q0 u q1 v) (sg0 (u.2.1.2.2.2.2.2.2.1 9)) 166 (.inr (5, some 10, [168, 169, 170, 171, 172, 173, 174, 175, 176, 177]))) := by
  refine (show (LF E0 q0 u q1 v)[88]? = some ((u.2.2.2.1.2.2.2.2.1.1 0), .inl (E0.2.1 5, 10, .inr (.inr (.inr (.inr (rw10 u.2.2.2.1.2.2.2.2.1.2)))))) from rfl).trans ?_
  rw [fe_166]
  rfl
set_option maxRecDepth 100000 in
theorem wq_167 : (LF E0 q0 u q1 v)[99]? = some (adr (E1 E0 q0 u q1 v) (sg0 (u.2.1.2.2.2.2.2.2.1 9)) 167, ent (E1 E0 q0 u q1 v) (sg0 (u.2.1.2.2.2.2.2.2.1 9)) 167 (.inr (0, some 7, []))) := rfl
set_option maxRecDepth 100000 in
theorem wq_168 : (LF E0 q0 u q1 v)[89]? = some (adr (E1 E0 q0 u q1 v) (sg0 (u.2.1.2.2.2.2.2.2.1 9)) 168, ent (E1 E0 q0 u q1 v) (sg0 (u.2.1.2.2.2.2.2.2.1 9)) 168 (.inr (0, some 7, []))) := rfl
set_option maxRecDepth 100000 in
theorem wq_169 : (LF E0 q0 u q1 v)[90]? = some (adr (E1 E0 q0 u q1 v) (sg0 (u.2.1.2.2.2.2.2.2.1 9)) 169, ent (E1 E0 q0 u q1 v) (sg0 (u.2.1.2.2.2.2.2.2.1 9)) 169 (.inr (0, some 7, []))) := rfl
set_option maxRecDepth 100000 in
theorem wq_170 : (LF E0 q0 u q1 v)[91]? = some (adr (E1 E0 q0 u q1 v) (sg0 (u.2.1.2.2.2.2.2.2.1 9)) 170, ent (E1 E0 q0 u q1 v) (sg0 (u.2.1.2.2.2.2.2.2.1 9)) 170 (.inr (0, some 7, []))) := rfl
set_option maxRecDepth 100000 in
theorem wq_171 : (LF E0 q0 u q1 v)[92]? = some (adr (E1 E0 q0 u q1 v) (sg0 (u.2.1.2.2.2.2.2.2.1 9)) 171, ent (E1 E0 q0 u q1 v) (sg0 (u.2.1.2.2.2.2.2.2.1 9)) 171 (.inr (0, some 7, []))) := rfl
set_option maxRecDepth 100000 in
theorem wq_172 : (LF E0 q0 u q1 v)[93]? = some (adr (E1 E0 q0 u q1 v) (sg0 (u.2.1.2.2.2.2.2.2.1 9)) 172, ent (E1 E0 q0 u q1 v) (sg0 (u.2.1.2.2.2.2.2.2.1 9)) 172 (.inr (0, some 7, []))) := rfl
set_option maxRecDepth 100000 in
theorem wq_173 : (LF E0 q0 u q1 v)[94]? = some (adr (E1 E0 q0 u q1 v) (sg0 (u.2.1.2.2.2.2.2.2.1 9)) 173, ent (E1 E0 q0 u q1 v) (sg0 (u.2.1.2.2.2.2.2.2.1 9)) 173 (.inr (0, some 7, []))) := rfl
set_option maxRecDepth 100000 in
theorem wq_174 : (LF E0 q0 u q1 v)[95]? = some (adr (E1 E0 q0 u q1 v) (sg0 (u.2.1.2.2.2.2.2.2.1 9)) 174, ent (E1 E0 q0 u q1 v) (sg0 (u.2.1.2.2.2.2.2.2.1 9)) 174 (.inr (0, some 7, []))) := rfl
set_option maxRecDepth 100000 in
theorem wq_175 : (LF E0 q0 u q1 v)[96]? = some (adr (E1 E0 q0 u q1 v) (sg0 (u.2.1.2.2.2.2.2.2.1 9)) 175, ent (E1 E0 q0 u q1 v) (sg0 (u.2.1.2.2.2.2.2.2.1 9)) 175 (.inr (0, some 7, []))) := rfl
set_option maxRecDepth 100000 in
theorem wq_176 : (LF E0 q0 u q1 v)[97]? = some (adr (E1 E0 q0 u q1 v) (sg0 (u.2.1.2.2.2.2.2.2.1 9)) 176, ent (E1 E0 q0 u q1 v) (sg0 (u.2.1.2.2.2.2.2.2.1 9)) 176 (.inr (0, some 7, []))) := rfl
set_option maxRecDepth 100000 in
theorem wq_177 : (LF E0 q0 u q1 v)[98]? = some (adr (E1 E0 q0 u q1 v) (sg0 (u.2.1.2.2.2.2.2.2.1 9)) 177, ent (E1 E0 q0 u q1 v) (sg0 (u.2.1.2.2.2.2.2.2.1 9)) 177 (.inr (0, some 7, []))) := rfl
set_option maxRecDepth 100000 in
theorem wq_178 : (LF E0 q0 u q1 v)[100]? = some (adr (E1 E0 q0 u q1 v) (sg0 (u.2.1.2.2.2.2.2.2.1 9)) 178, ent (E1 E0 q0 u q1 v) (sg0 (u.2.1.2.2.2.2.2.2.1 9)) 178 (.inl (7, [some 179, some 180, none, none, none]))) := rfl
set_option maxRecDepth 100000 in
theorem fe_179 : (rw10 u.2.2.2.1.2.2.2.2.2.1.2 : Nat → Option Nat) = (fun j => (([181, 182, 183, 184, 185, 186, 187, 188, 189, 190] : List Nat)[j]?).map (adr (E1 E0 q0 u q1 v) (sg0 (u.2.1.2.2.2.2.2.2.1 9)))) := by
  funext j
  by_cases h : j < 10
  · rcases (show j = 0 ∨ j = 1 ∨ j = 2 ∨ j = 3 ∨ j = 4 ∨ j = 5 ∨ j = 6 ∨ j = 7 ∨ j = 8 ∨ j = 9 by omega) with rfl | rfl | rfl | rfl | rfl | rfl | rfl | rfl | rfl | rfl <;> rfl
  · rw [List.getElem?_eq_none (by show 10 ≤ j; omega)]
    exact if_neg h
set_option maxRecDepth 100000 in
theorem wq_179 : (LF E0 q0 u q1 v)[101]? = some (adr (E1 E0 q0 u q1 v) (sg0 (u.2.1.2.2.2.2.2.2.1 9)) 179, ent (E1 E0 q0 u q1 v) (sg0 (u.2.1.2.2.2.2.2.2.1 9)) 179 (.inr (5, some 10, [181, 182, 183, 184, 185, 186, 187, 188, 189, 190]))) := by
  refine (show (LF E0 q0 u q1 v)[101]? = some ((u.2.2.2.1.2.2.2.2.2.1.1 0), .inl (E0.2.1 5, 10, .inr (.inr (.inr (.inr (rw10 u.2.2.2.1.2.2.2.2.2.1.2)))))) from rfl).trans ?_
  rw [fe_179]
  rfl
set_option maxRecDepth 100000 in
theorem wq_180 : (LF E0 q0 u q1 v)[112]? = some (adr (E1 E0 q0 u q1 v) (sg0 (u.2.1.2.2.2.2.2.2.1 9)) 180, ent (E1 E0 q0 u q1 v) (sg0 (u.2.1.2.2.2.2.2.2.1 9)) 180 (.inr (0, some 7, []))) := rfl
set_option maxRecDepth 100000 in
theorem wq_181 : (LF E0 q0 u q1 v)[102]? = some (adr (E1 E0 q0 u q1 v) (sg0 (u.2.1.2.2.2.2.2.2.1 9)) 181, ent (E1 E0 q0 u q1 v) (sg0 (u.2.1.2.2.2.2.2.2.1 9)) 181 (.inr (0, some 7, []))) := rfl
set_option maxRecDepth 100000 in
theorem wq_182 : (LF E0 q0 u q1 v)[103]? = some (adr (E1 E0 q0 u q1 v) (sg0 (u.2.1.2.2.2.2.2.2.1 9)) 182, ent (E1 E0 q0 u q1 v) (sg0 (u.2.1.2.2.2.2.2.2.1 9)) 182 (.inr (0, some 7, []))) := rfl
set_option maxRecDepth 100000 in
theorem wq_183 : (LF E0 q0 u q1 v)[104]? = some (adr (E1 E0 q0 u q1 v) (sg0 (u.2.1.2.2.2.2.2.2.1 9)) 183, ent (E1 E0 q0 u q1 v) (sg0 (u.2.1.2.2.2.2.2.2.1 9)) 183 (.inr (0, some 7, []))) := rfl
set_option maxRecDepth 100000 in
theorem wq_184 : (LF E0 q0 u q1 v)[105]? = some (adr (E1 E0 q0 u q1 v) (sg0 (u.2.1.2.2.2.2.2.2.1 9)) 184, ent (E1 E0 q0 u q1 v) (sg0 (u.2.1.2.2.2.2.2.2.1 9)) 184 (.inr (0, some 7, []))) := rfl
set_option maxRecDepth 100000 in
theorem wq_185 : (LF E0 q0 u q1 v)[106]? = some (adr (E1 E0 q0 u q1 v) (sg0 (u.2.1.2.2.2.2.2.2.1 9)) 185, ent (E1 E0 q0 u q1 v) (sg0 (u.2.1.2.2.2.2.2.2.1 9)) 185 (.inr (0, some 7, []))) := rfl
set_option maxRecDepth 100000 in
theorem wq_186 : (LF E0 q0 u q1 v)[107]? = some (adr (E1 E0 q0 u q1 v) (sg0 (u.2.1.2.2.2.2.2.2.1 9)) 186, ent (E1 E0 q0 u q1 v) (sg0 (u.2.1.2.2.2.2.2.2.1 9)) 186 (.inr (0, some 7, []))) := rfl
set_option maxRecDepth 100000 in
theorem wq_187 : (LF E0 q0 u q1 v)[108]? = some (adr (E1 E0 q0 u q1 v) (sg0 (u.2.1.2.2.2.2.2.2.1 9)) 187, ent (E1 E0 q0 u q1 v) (sg0 (u.2.1.2.2.2.2.2.2.1 9)) 187 (.inr (0, some 7, []))) := rfl
set_option maxRecDepth 100000 in
theorem wq_188 : (LF E0 q0 u q1 v)[109]? = some (adr (E1 E0 q0 u q1 v) (sg0 (u.2.1.2.2.2.2.2.2.1 9)) 188, ent (E1 E0 q0 u q1 v) (sg0 (u.2.1.2.2.2.2.2.2.1 9)) 188 (.inr (0, some 7, []))) := rfl
set_option maxRecDepth 100000 in
theorem wq_189 : (LF E0 q0 u q1 v)[110]? = some (adr (E1 E0 q0 u q1 v) (sg0 (u.2.1.2.2.2.2.2.2.1 9)) 189, ent (E1 E0 q0 u q1 v) (sg0 (u.2.1.2.2.2.2.2.2.1 9)) 189 (.inr (0, some 7, []))) := rfl
set_option maxRecDepth 100000 in
theorem wq_190 : (LF E0 q0 u q1 v)[111]? = some (adr (E1 E0 q0 u q1 v) (sg0 (u.2.1.2.2.2.2.2.2.1 9)) 190, ent (E1 E0 q0 u q1 v) (sg0 (u.2.1.2.2.2.2.2.2.1 9)) 190 (.inr (0, some 7, []))) := rfl
set_option maxRecDepth 100000 in
theorem wq_191 : (LF E0 q0 u q1 v)[113]? = some (adr (E1 E0 q0 u q1 v) (sg0 (u.2.1.2.2.2.2.2.2.1 9)) 191, ent (E1 E0 q0 u q1 v) (sg0 (u.2.1.2.2.2.2.2.2.1 9)) 191 (.inl (7, [some 192, some 193, none, none, none]))) := rfl
set_option maxRecDepth 100000 in
theorem fe_192 : (rw10 u.2.2.2.1.2.2.2.2.2.2.2 : Nat → Option Nat) = (fun j => (([194, 195, 196, 197, 198, 199, 200, 201, 202, 203] : List Nat)[j]?).map (adr (E1 E0 q0 u q1 v) (sg0 (u.2.1.2.2.2.2.2.2.1 9)))) := by
  funext j
  by_cases h : j < 10
  · rcases (show j = 0 ∨ j = 1 ∨ j = 2 ∨ j = 3 ∨ j = 4 ∨ j = 5 ∨ j = 6 ∨ j = 7 ∨ j = 8 ∨ j = 9 by omega) with rfl | rfl | rfl | rfl | rfl | rfl | rfl | rfl | rfl | rfl <;> rfl
  · rw [List.getElem?_eq_none (by show 10 ≤ j; omega)]
    exact if_neg h
set_option maxRecDepth 100000 in
theorem wq_192 : (LF E0 q0 u q1 v)[114]? = some (adr (E1 E0 q0 u q1 v) (sg0 (u.2.1.2.2.2.2.2.2.1 9)) 192, ent (E1 E0 q0 u q1 v) (sg0 (u.2.1.2.2.2.2.2.2.1 9)) 192 (.inr (5, some 10, [194, 195, 196, 197, 198, 199, 200, 201, 202, 203]))) := by
  refine (show (LF E0 q0 u q1 v)[114]? = some ((u.2.2.2.1.2.2.2.2.2.2.1 0), .inl (E0.2.1 5, 10, .inr (.inr (.inr (.inr (rw10 u.2.2.2.1.2.2.2.2.2.2.2)))))) from rfl).trans ?_
  rw [fe_192]
  rfl
set_option maxRecDepth 100000 in
theorem wq_193 : (LF E0 q0 u q1 v)[125]? = some (adr (E1 E0 q0 u q1 v) (sg0 (u.2.1.2.2.2.2.2.2.1 9)) 193, ent (E1 E0 q0 u q1 v) (sg0 (u.2.1.2.2.2.2.2.2.1 9)) 193 (.inr (0, some 7, []))) := rfl
set_option maxRecDepth 100000 in
theorem wq_194 : (LF E0 q0 u q1 v)[115]? = some (adr (E1 E0 q0 u q1 v) (sg0 (u.2.1.2.2.2.2.2.2.1 9)) 194, ent (E1 E0 q0 u q1 v) (sg0 (u.2.1.2.2.2.2.2.2.1 9)) 194 (.inr (0, some 7, []))) := rfl
set_option maxRecDepth 100000 in
theorem wq_195 : (LF E0 q0 u q1 v)[116]? = some (adr (E1 E0 q0 u q1 v) (sg0 (u.2.1.2.2.2.2.2.2.1 9)) 195, ent (E1 E0 q0 u q1 v) (sg0 (u.2.1.2.2.2.2.2.2.1 9)) 195 (.inr (0, some 7, []))) := rfl
set_option maxRecDepth 100000 in
theorem wq_196 : (LF E0 q0 u q1 v)[117]? = some (adr (E1 E0 q0 u q1 v) (sg0 (u.2.1.2.2.2.2.2.2.1 9)) 196, ent (E1 E0 q0 u q1 v) (sg0 (u.2.1.2.2.2.2.2.2.1 9)) 196 (.inr (0, some 7, []))) := rfl
set_option maxRecDepth 100000 in
theorem wq_197 : (LF E0 q0 u q1 v)[118]? = some (adr (E1 E0 q0 u q1 v) (sg0 (u.2.1.2.2.2.2.2.2.1 9)) 197, ent (E1 E0 q0 u q1 v) (sg0 (u.2.1.2.2.2.2.2.2.1 9)) 197 (.inr (0, some 7, []))) := rfl
set_option maxRecDepth 100000 in
theorem wq_198 : (LF E0 q0 u q1 v)[119]? = some (adr (E1 E0 q0 u q1 v) (sg0 (u.2.1.2.2.2.2.2.2.1 9)) 198, ent (E1 E0 q0 u q1 v) (sg0 (u.2.1.2.2.2.2.2.2.1 9)) 198 (.inr (0, some 7, []))) := rfl
set_option maxRecDepth 100000 in
theorem wq_199 : (LF E0 q0 u q1 v)[120]? = some (adr (E1 E0 q0 u q1 v) (sg0 (u.2.1.2.2.2.2.2.2.1 9)) 199, ent (E1 E0 q0 u q1 v) (sg0 (u.2.1.2.2.2.2.2.2.1 9)) 199 (.inr (0, some 7, []))) := rfl
set_option maxRecDepth 100000 in
theorem wq_200 : (LF E0 q0 u q1 v)[121]? = some (adr (E1 E0 q0 u q1 v) (sg0 (u.2.1.2.2.2.2.2.2.1 9)) 200, ent (E1 E0 q0 u q1 v) (sg0 (u.2.1.2.2.2.2.2.2.1 9)) 200 (.inr (0, some 7, []))) := rfl
set_option maxRecDepth 100000 in
theorem wq_201 : (LF E0 q0 u q1 v)[122]? = some (adr (E1 E0 q0 u q1 v) (sg0 (u.2.1.2.2.2.2.2.2.1 9)) 201, ent (E1 E0 q0 u q1 v) (sg0 (u.2.1.2.2.2.2.2.2.1 9)) 201 (.inr (0, some 7, []))) := rfl
set_option maxRecDepth 100000 in
theorem wq_202 : (LF E0 q0 u q1 v)[123]? = some (adr (E1 E0 q0 u q1 v) (sg0 (u.2.1.2.2.2.2.2.2.1 9)) 202, ent (E1 E0 q0 u q1 v) (sg0 (u.2.1.2.2.2.2.2.2.1 9)) 202 (.inr (0, some 7, []))) := rfl
set_option maxRecDepth 100000 in
theorem wq_203 : (LF E0 q0 u q1 v)[124]? = some (adr (E1 E0 q0 u q1 v) (sg0 (u.2.1.2.2.2.2.2.2.1 9)) 203, ent (E1 E0 q0 u q1 v) (sg0 (u.2.1.2.2.2.2.2.2.1 9)) 203 (.inr (0, some 7, []))) := rfl
set_option maxRecDepth 100000 in
theorem wq_204 : (LF E0 q0 u q1 v)[36]? = some (adr (E1 E0 q0 u q1 v) (sg0 (u.2.1.2.2.2.2.2.2.1 9)) 204, ent (E1 E0 q0 u q1 v) (sg0 (u.2.1.2.2.2.2.2.2.1 9)) 204 (.inr (0, some 601, []))) := rfl
set_option maxRecDepth 100000 in
theorem wqb_0 : ∀ k, 0 ≤ k → k < 17 → (LF E0 q0 u q1 v)[pl0.getD k 0]? = (wx (E1 E0 q0 u q1 v) (sg0 (u.2.1.2.2.2.2.2.2.1 9)))[k]? := by
  intro k h1 h2
  rcases (show k = 0 ∨ k = 1 ∨ k = 2 ∨ k = 3 ∨ k = 4 ∨ k = 5 ∨ k = 6 ∨ k = 7 ∨ k = 8 ∨ k = 9 ∨ k = 10 ∨ k = 11 ∨ k = 12 ∨ k = 13 ∨ k = 14 ∨ k = 15 ∨ k = 16 by omega) with rfl | rfl | rfl | rfl | rfl | rfl | rfl | rfl | rfl | rfl | rfl | rfl | rfl | rfl | rfl | rfl | rfl
  · exact wq_0.trans (wx_get sh_0).symm
  · exact wq_1.trans (wx_get sh_1).symm
  · exact wq_2.trans (wx_get sh_2).symm
  · exact wq_3.trans (wx_get sh_3).symm
  · exact wq_4.trans (wx_get sh_4).symm
  · exact wq_5.trans (wx_get sh_5).symm
  · exact wq_6.trans (wx_get sh_6).symm
  · exact wq_7.trans (wx_get sh_7).symm
  · exact wq_8.trans (wx_get sh_8).symm
  · exact wq_9.trans (wx_get sh_9).symm
  · exact wq_10.trans (wx_get sh_10).symm
  · exact wq_11.trans (wx_get sh_11).symm
  · exact wq_12.trans (wx_get sh_12).symm
  · exact wq_13.trans (wx_get sh_13).symm
  · exact wq_14.trans (wx_get sh_14).symm
  · exact wq_15.trans (wx_get sh_15).symm
  · exact wq_16.trans (wx_get sh_16).symm
set_option maxRecDepth 100000 in
theorem wqb_17 : ∀ k, 17 ≤ k → k < 34 → (LF E0 q0 u q1 v)[pl0.getD k 0]? = (wx (E1 E0 q0 u q1 v) (sg0 (u.2.1.2.2.2.2.2.2.1 9)))[k]? := by
  intro k h1 h2
  rcases (show k = 17 ∨ k = 18 ∨ k = 19 ∨ k = 20 ∨ k = 21 ∨ k = 22 ∨ k = 23 ∨ k = 24 ∨ k = 25 ∨ k = 26 ∨ k = 27 ∨ k = 28 ∨ k = 29 ∨ k = 30 ∨ k = 31 ∨ k = 32 ∨ k = 33 by omega) with rfl | rfl | rfl | rfl | rfl | rfl | rfl | rfl | rfl | rfl | rfl | rfl | rfl | rfl | rfl | rfl | rfl
  · exact wq_17.trans (wx_get sh_17).symm
  · exact wq_18.trans (wx_get sh_18).symm
  · exact wq_19.trans (wx_get sh_19).symm
  · exact wq_20.trans (wx_get sh_20).symm
  · exact wq_21.trans (wx_get sh_21).symm
  · exact wq_22.trans (wx_get sh_22).symm
  · exact wq_23.trans (wx_get sh_23).symm
  · exact wq_24.trans (wx_get sh_24).symm
  · exact wq_25.trans (wx_get sh_25).symm
  · exact wq_26.trans (wx_get sh_26).symm
  · exact wq_27.trans (wx_get sh_27).symm
  · exact wq_28.trans (wx_get sh_28).symm
  · exact wq_29.trans (wx_get sh_29).symm
  · exact wq_30.trans (wx_get sh_30).symm
  · exact wq_31.trans (wx_get sh_31).symm
  · exact wq_32.trans (wx_get sh_32).symm
  · exact wq_33.trans (wx_get sh_33).symm
set_option maxRecDepth 100000 in
theorem wqb_34 : ∀ k, 34 ≤ k → k < 51 → (LF E0 q0 u q1 v)[pl0.getD k 0]? = (wx (E1 E0 q0 u q1 v) (sg0 (u.2.1.2.2.2.2.2.2.1 9)))[k]? := by
  intro k h1 h2
  rcases (show k = 34 ∨ k = 35 ∨ k = 36 ∨ k = 37 ∨ k = 38 ∨ k = 39 ∨ k = 40 ∨ k = 41 ∨ k = 42 ∨ k = 43 ∨ k = 44 ∨ k = 45 ∨ k = 46 ∨ k = 47 ∨ k = 48 ∨ k = 49 ∨ k = 50 by omega) with rfl | rfl | rfl | rfl | rfl | rfl | rfl | rfl | rfl | rfl | rfl | rfl | rfl | rfl | rfl | rfl | rfl
  · exact wq_34.trans (wx_get sh_34).symm
  · exact wq_35.trans (wx_get sh_35).symm
  · exact wq_36.trans (wx_get sh_36).symm
  · exact wq_37.trans (wx_get sh_37).symm
  · exact wq_38.trans (wx_get sh_38).symm
  · exact wq_39.trans (wx_get sh_39).symm
  · exact wq_40.trans (wx_get sh_40).symm
  · exact wq_41.trans (wx_get sh_41).symm
  · exact wq_42.trans (wx_get sh_42).symm
  · exact wq_43.trans (wx_get sh_43).symm
  · exact wq_44.trans (wx_get sh_44).symm
  · exact wq_45.trans (wx_get sh_45).symm
  · exact wq_46.trans (wx_get sh_46).symm
  · exact wq_47.trans (wx_get sh_47).symm
  · exact wq_48.trans (wx_get sh_48).symm
  · exact wq_49.trans (wx_get sh_49).symm
  · exact wq_50.trans (wx_get sh_50).symm
set_option maxRecDepth 100000 in
theorem wqb_51 : ∀ k, 51 ≤ k → k < 68 → (LF E0 q0 u q1 v)[pl0.getD k 0]? = (wx (E1 E0 q0 u q1 v) (sg0 (u.2.1.2.2.2.2.2.2.1 9)))[k]? := by
  intro k h1 h2
  rcases (show k = 51 ∨ k = 52 ∨ k = 53 ∨ k = 54 ∨ k = 55 ∨ k = 56 ∨ k = 57 ∨ k = 58 ∨ k = 59 ∨ k = 60 ∨ k = 61 ∨ k = 62 ∨ k = 63 ∨ k = 64 ∨ k = 65 ∨ k = 66 ∨ k = 67 by omega) with rfl | rfl | rfl | rfl | rfl | rfl | rfl | rfl | rfl | rfl | rfl | rfl | rfl | rfl | rfl | rfl | rfl
  · exact wq_51.trans (wx_get sh_51).symm
  · exact wq_52.trans (wx_get sh_52).symm
  · exact wq_53.trans (wx_get sh_53).symm
  · exact wq_54.trans (wx_get sh_54).symm
  · exact wq_55.trans (wx_get sh_55).symm
  · exact wq_56.trans (wx_get sh_56).symm
  · exact wq_57.trans (wx_get sh_57).symm
  · exact wq_58.trans (wx_get sh_58).symm
  · exact wq_59.trans (wx_get sh_59).symm
  · exact wq_60.trans (wx_get sh_60).symm
  · exact wq_61.trans (wx_get sh_61).symm
  · exact wq_62.trans (wx_get sh_62).symm
  · exact wq_63.trans (wx_get sh_63).symm
  · exact wq_64.trans (wx_get sh_64).symm
  · exact wq_65.trans (wx_get sh_65).symm
  · exact wq_66.trans (wx_get sh_66).symm
  · exact wq_67.trans (wx_get sh_67).symm
set_option maxRecDepth 100000 in
theorem wqb_68 : ∀ k, 68 ≤ k → k < 85 → (LF E0 q0 u q1 v)[pl0.getD k 0]? = (wx (E1 E0 q0 u q1 v) (sg0 (u.2.1.2.2.2.2.2.2.1 9)))[k]? := by
  intro k h1 h2
  rcases (show k = 68 ∨ k = 69 ∨ k = 70 ∨ k = 71 ∨ k = 72 ∨ k = 73 ∨ k = 74 ∨ k = 75 ∨ k = 76 ∨ k = 77 ∨ k = 78 ∨ k = 79 ∨ k = 80 ∨ k = 81 ∨ k = 82 ∨ k = 83 ∨ k = 84 by omega) with rfl | rfl | rfl | rfl | rfl | rfl | rfl | rfl | rfl | rfl | rfl | rfl | rfl | rfl | rfl | rfl | rfl
  · exact wq_68.trans (wx_get sh_68).symm
  · exact wq_69.trans (wx_get sh_69).symm
  · exact wq_70.trans (wx_get sh_70).symm
  · exact wq_71.trans (wx_get sh_71).symm
  · exact wq_72.trans (wx_get sh_72).symm
  · exact wq_73.trans (wx_get sh_73).symm
  · exact wq_74.trans (wx_get sh_74).symm
  · exact wq_75.trans (wx_get sh_75).symm
  · exact wq_76.trans (wx_get sh_76).symm
  · exact wq_77.trans (wx_get sh_77).symm
  · exact wq_78.trans (wx_get sh_78).symm
  · exact wq_79.trans (wx_get sh_79).symm
  · exact wq_80.trans (wx_get sh_80).symm
  · exact wq_81.trans (wx_get sh_81).symm
  · exact wq_82.trans (wx_get sh_82).symm
  · exact wq_83.trans (wx_get sh_83).symm
  · exact wq_84.trans (wx_get sh_84).symm
set_option maxRecDepth 100000 in
theorem wqb_85 : ∀ k, 85 ≤ k → k < 102 → (LF E0 q0 u q1 v)[pl0.getD k 0]? = (wx (E1 E0 q0 u q1 v) (sg0 (u.2.1.2.2.2.2.2.2.1 9)))[k]? := by
  intro k h1 h2
  rcases (show k = 85 ∨ k = 86 ∨ k = 87 ∨ k = 88 ∨ k = 89 ∨ k = 90 ∨ k = 91 ∨ k = 92 ∨ k = 93 ∨ k = 94 ∨ k = 95 ∨ k = 96 ∨ k = 97 ∨ k = 98 ∨ k = 99 ∨ k = 100 ∨ k = 101 by omega) with rfl | rfl | rfl | rfl | rfl | rfl | rfl | rfl | rfl | rfl | rfl | rfl | rfl | rfl | rfl | rfl | rfl
  · exact wq_85.trans (wx_get sh_85).symm
  · exact wq_86.trans (wx_get sh_86).symm
  · exact wq_87.trans (wx_get sh_87).symm
  · exact wq_88.trans (wx_get sh_88).symm
  · exact wq_89.trans (wx_get sh_89).symm
  · exact wq_90.trans (wx_get sh_90).symm
  · exact wq_91.trans (wx_get sh_91).symm
  · exact wq_92.trans (wx_get sh_92).symm
  · exact wq_93.trans (wx_get sh_93).symm
  · exact wq_94.trans (wx_get sh_94).symm
  · exact wq_95.trans (wx_get sh_95).symm
  · exact wq_96.trans (wx_get sh_96).symm
  · exact wq_97.trans (wx_get sh_97).symm
  · exact wq_98.trans (wx_get sh_98).symm
  · exact wq_99.trans (wx_get sh_99).symm
  · exact wq_100.trans (wx_get sh_100).symm
  · exact wq_101.trans (wx_get sh_101).symm
set_option maxRecDepth 100000 in
theorem wqb_102 : ∀ k, 102 ≤ k → k < 119 → (LF E0 q0 u q1 v)[pl0.getD k 0]? = (wx (E1 E0 q0 u q1 v) (sg0 (u.2.1.2.2.2.2.2.2.1 9)))[k]? := by
  intro k h1 h2
  rcases (show k = 102 ∨ k = 103 ∨ k = 104 ∨ k = 105 ∨ k = 106 ∨ k = 107 ∨ k = 108 ∨ k = 109 ∨ k = 110 ∨ k = 111 ∨ k = 112 ∨ k = 113 ∨ k = 114 ∨ k = 115 ∨ k = 116 ∨ k = 117 ∨ k = 118 by omega) with rfl | rfl | rfl | rfl | rfl | rfl | rfl | rfl | rfl | rfl | rfl | rfl | rfl | rfl | rfl | rfl | rfl
  · exact wq_102.trans (wx_get sh_102).symm
  · exact wq_103.trans (wx_get sh_103).symm
  · exact wq_104.trans (wx_get sh_104).symm
  · exact wq_105.trans (wx_get sh_105).symm
  · exact wq_106.trans (wx_get sh_106).symm
  · exact wq_107.trans (wx_get sh_107).symm
  · exact wq_108.trans (wx_get sh_108).symm
  · exact wq_109.trans (wx_get sh_109).symm
  · exact wq_110.trans (wx_get sh_110).symm
  · exact wq_111.trans (wx_get sh_111).symm
  · exact wq_112.trans (wx_get sh_112).symm
  · exact wq_113.trans (wx_get sh_113).symm
  · exact wq_114.trans (wx_get sh_114).symm
  · exact wq_115.trans (wx_get sh_115).symm
  · exact wq_116.trans (wx_get sh_116).symm
  · exact wq_117.trans (wx_get sh_117).symm
  · exact wq_118.trans (wx_get sh_118).symm
set_option maxRecDepth 100000 in
theorem wqb_119 : ∀ k, 119 ≤ k → k < 136 → (LF E0 q0 u q1 v)[pl0.getD k 0]? = (wx (E1 E0 q0 u q1 v) (sg0 (u.2.1.2.2.2.2.2.2.1 9)))[k]? := by
  intro k h1 h2
  rcases (show k = 119 ∨ k = 120 ∨ k = 121 ∨ k = 122 ∨ k = 123 ∨ k = 124 ∨ k = 125 ∨ k = 126 ∨ k = 127 ∨ k = 128 ∨ k = 129 ∨ k = 130 ∨ k = 131 ∨ k = 132 ∨ k = 133 ∨ k = 134 ∨ k = 135 by omega) with rfl | rfl | rfl | rfl | rfl | rfl | rfl | rfl | rfl | rfl | rfl | rfl | rfl | rfl | rfl | rfl | rfl
  · exact wq_119.trans (wx_get sh_119).symm
  · exact wq_120.trans (wx_get sh_120).symm
  · exact wq_121.trans (wx_get sh_121).symm
  · exact wq_122.trans (wx_get sh_122).symm
  · exact wq_123.trans (wx_get sh_123).symm
  · exact wq_124.trans (wx_get sh_124).symm
  · exact wq_125.trans (wx_get sh_125).symm
  · exact wq_126.trans (wx_get sh_126).symm
  · exact wq_127.trans (wx_get sh_127).symm
  · exact wq_128.trans (wx_get sh_128).symm
  · exact wq_129.trans (wx_get sh_129).symm
  · exact wq_130.trans (wx_get sh_130).symm
  · exact wq_131.trans (wx_get sh_131).symm
  · exact wq_132.trans (wx_get sh_132).symm
  · exact wq_133.trans (wx_get sh_133).symm
  · exact wq_134.trans (wx_get sh_134).symm
  · exact wq_135.trans (wx_get sh_135).symm
set_option maxRecDepth 100000 in
theorem wqb_136 : ∀ k, 136 ≤ k → k < 153 → (LF E0 q0 u q1 v)[pl0.getD k 0]? = (wx (E1 E0 q0 u q1 v) (sg0 (u.2.1.2.2.2.2.2.2.1 9)))[k]? := by
  intro k h1 h2
  rcases (show k = 136 ∨ k = 137 ∨ k = 138 ∨ k = 139 ∨ k = 140 ∨ k = 141 ∨ k = 142 ∨ k = 143 ∨ k = 144 ∨ k = 145 ∨ k = 146 ∨ k = 147 ∨ k = 148 ∨ k = 149 ∨ k = 150 ∨ k = 151 ∨ k = 152 by omega) with rfl | rfl | rfl | rfl | rfl | rfl | rfl | rfl | rfl | rfl | rfl | rfl | rfl | rfl | rfl | rfl | rfl
  · exact wq_136.trans (wx_get sh_136).symm
  · exact wq_137.trans (wx_get sh_137).symm
  · exact wq_138.trans (wx_get sh_138).symm
  · exact wq_139.trans (wx_get sh_139).symm
  · exact wq_140.trans (wx_get sh_140).symm
  · exact wq_141.trans (wx_get sh_141).symm
  · exact wq_142.trans (wx_get sh_142).symm
  · exact wq_143.trans (wx_get sh_143).symm
  · exact wq_144.trans (wx_get sh_144).symm
  · exact wq_145.trans (wx_get sh_145).symm
  · exact wq_146.trans (wx_get sh_146).symm
  · exact wq_147.trans (wx_get sh_147).symm
  · exact wq_148.trans (wx_get sh_148).symm
  · exact wq_149.trans (wx_get sh_149).symm
  · exact wq_150.trans (wx_get sh_150).symm
  · exact wq_151.trans (wx_get sh_151).symm
  · exact wq_152.trans (wx_get sh_152).symm
set_option maxRecDepth 100000 in
theorem wqb_153 : ∀ k, 153 ≤ k → k < 170 → (LF E0 q0 u q1 v)[pl0.getD k 0]? = (wx (E1 E0 q0 u q1 v) (sg0 (u.2.1.2.2.2.2.2.2.1 9)))[k]? := by
  intro k h1 h2
  rcases (show k = 153 ∨ k = 154 ∨ k = 155 ∨ k = 156 ∨ k = 157 ∨ k = 158 ∨ k = 159 ∨ k = 160 ∨ k = 161 ∨ k = 162 ∨ k = 163 ∨ k = 164 ∨ k = 165 ∨ k = 166 ∨ k = 167 ∨ k = 168 ∨ k = 169 by omega) with rfl | rfl | rfl | rfl | rfl | rfl | rfl | rfl | rfl | rfl | rfl | rfl | rfl | rfl | rfl | rfl | rfl
  · exact wq_153.trans (wx_get sh_153).symm
  · exact wq_154.trans (wx_get sh_154).symm
  · exact wq_155.trans (wx_get sh_155).symm
  · exact wq_156.trans (wx_get sh_156).symm
  · exact wq_157.trans (wx_get sh_157).symm
  · exact wq_158.trans (wx_get sh_158).symm
  · exact wq_159.trans (wx_get sh_159).symm
  · exact wq_160.trans (wx_get sh_160).symm
  · exact wq_161.trans (wx_get sh_161).symm
  · exact wq_162.trans (wx_get sh_162).symm
  · exact wq_163.trans (wx_get sh_163).symm
  · exact wq_164.trans (wx_get sh_164).symm
  · exact wq_165.trans (wx_get sh_165).symm
  · exact wq_166.trans (wx_get sh_166).symm
  · exact wq_167.trans (wx_get sh_167).symm
  · exact wq_168.trans (wx_get sh_168).symm
  · exact wq_169.trans (wx_get sh_169).symm
set_option maxRecDepth 100000 in
theorem wqb_170 : ∀ k, 170 ≤ k → k < 187 → (LF E0 q0 u q1 v)[pl0.getD k 0]? = (wx (E1 E0 q0 u q1 v) (sg0 (u.2.1.2.2.2.2.2.2.1 9)))[k]? := by
  intro k h1 h2
  rcases (show k = 170 ∨ k = 171 ∨ k = 172 ∨ k = 173 ∨ k = 174 ∨ k = 175 ∨ k = 176 ∨ k = 177 ∨ k = 178 ∨ k = 179 ∨ k = 180 ∨ k = 181 ∨ k = 182 ∨ k = 183 ∨ k = 184 ∨ k = 185 ∨ k = 186 by omega) with rfl | rfl | rfl | rfl | rfl | rfl | rfl | rfl | rfl | rfl | rfl | rfl | rfl | rfl | rfl | rfl | rfl
  · exact wq_170.trans (wx_get sh_170).symm
  · exact wq_171.trans (wx_get sh_171).symm
  · exact wq_172.trans (wx_get sh_172).symm
  · exact wq_173.trans (wx_get sh_173).symm
  · exact wq_174.trans (wx_get sh_174).symm
  · exact wq_175.trans (wx_get sh_175).symm
  · exact wq_176.trans (wx_get sh_176).symm
  · exact wq_177.trans (wx_get sh_177).symm
  · exact wq_178.trans (wx_get sh_178).symm
  · exact wq_179.trans (wx_get sh_179).symm
  · exact wq_180.trans (wx_get sh_180).symm
  · exact wq_181.trans (wx_get sh_181).symm
  · exact wq_182.trans (wx_get sh_182).symm
  · exact wq_183.trans (wx_get sh_183).symm
  · exact wq_184.trans (wx_get sh_184).symm
  · exact wq_185.trans (wx_get sh_185).symm
  · exact wq_186.trans (wx_get sh_186).symm
set_option maxRecDepth 100000 in
theorem wqb_187 : ∀ k, 187 ≤ k → k < 204 → (LF E0 q0 u q1 v)[pl0.getD k 0]? = (wx (E1 E0 q0 u q1 v) (sg0 (u.2.1.2.2.2.2.2.2.1 9)))[k]? := by
  intro k h1 h2
  rcases (show k = 187 ∨ k = 188 ∨ k = 189 ∨ k = 190 ∨ k = 191 ∨ k = 192 ∨ k = 193 ∨ k = 194 ∨ k = 195 ∨ k = 196 ∨ k = 197 ∨ k = 198 ∨ k = 199 ∨ k = 200 ∨ k = 201 ∨ k = 202 ∨ k = 203 by omega) with rfl | rfl | rfl | rfl | rfl | rfl | rfl | rfl | rfl | rfl | rfl | rfl | rfl | rfl | rfl | rfl | rfl
  · exact wq_187.trans (wx_get sh_187).symm
  · exact wq_188.trans (wx_get sh_188).symm
  · exact wq_189.trans (wx_get sh_189).symm
  · exact wq_190.trans (wx_get sh_190).symm
  · exact wq_191.trans (wx_get sh_191).symm
  · exact wq_192.trans (wx_get sh_192).symm
  · exact wq_193.trans (wx_get sh_193).symm
  · exact wq_194.trans (wx_get sh_194).symm
  · exact wq_195.trans (wx_get sh_195).symm
  · exact wq_196.trans (wx_get sh_196).symm
  · exact wq_197.trans (wx_get sh_197).symm
  · exact wq_198.trans (wx_get sh_198).symm
  · exact wq_199.trans (wx_get sh_199).symm
  · exact wq_200.trans (wx_get sh_200).symm
  · exact wq_201.trans (wx_get sh_201).symm
  · exact wq_202.trans (wx_get sh_202).symm
  · exact wq_203.trans (wx_get sh_203).symm
set_option maxRecDepth 100000 in
theorem wqb_204 : ∀ k, 204 ≤ k → k < 205 → (LF E0 q0 u q1 v)[pl0.getD k 0]? = (wx (E1 E0 q0 u q1 v) (sg0 (u.2.1.2.2.2.2.2.2.1 9)))[k]? := by
  intro k h1 h2
  rcases (show k = 204 by omega) with rfl
  · exact wq_204.trans (wx_get sh_204).symm
theorem wq_all (k : Nat) (h : k < 205) : (LF E0 q0 u q1 v)[pl0.getD k 0]? = (wx (E1 E0 q0 u q1 v) (sg0 (u.2.1.2.2.2.2.2.2.1 9)))[k]? := by
  by_cases h0 : k < 17
  · exact wqb_0 k (by omega) h0
  by_cases h17 : k < 34
  · exact wqb_17 k (by omega) h17
  by_cases h34 : k < 51
  · exact wqb_34 k (by omega) h34
  by_cases h51 : k < 68
  · exact wqb_51 k (by omega) h51
  by_cases h68 : k < 85
  · exact wqb_68 k (by omega) h68
  by_cases h85 : k < 102
  · exact wqb_85 k (by omega) h85
  by_cases h102 : k < 119
  · exact wqb_102 k (by omega) h102
  by_cases h119 : k < 136
  · exact wqb_119 k (by omega) h119
  by_cases h136 : k < 153
  · exact wqb_136 k (by omega) h136
  by_cases h153 : k < 170
  · exact wqb_153 k (by omega) h153
  by_cases h170 : k < 187
  · exact wqb_170 k (by omega) h170
  by_cases h187 : k < 204
  · exact wqb_187 k (by omega) h187
  exact wqb_204 k (by omega) h
theorem wq_g (k : Nat) (x : Nat × va_E) (h : (wx (E1 E0 q0 u q1 v) (sg0 (u.2.1.2.2.2.2.2.2.1 9)))[k]? = some x) : (LF E0 q0 u q1 v)[pl0.getD k 0]? = some x := by
  have hk : k < 205 := by
    have := (List.getElem?_eq_some_iff.mp h).1
    rw [wx_len] at this
    exact this
  rw [wq_all k hk, h]
set_option maxRecDepth 100000 in
theorem pl_inj : ∀ i, i < 205 → ∀ j, j < 205 → pl0.getD i 0 = pl0.getD j 0 → i = j := by
  have h : va_nd pl0 = true := by decide +kernel
  intro i hi j hj e
  have a : ∀ i, i < 205 → pl0[i]? = some (pl0.getD i 0) := fun i hi => by
    rw [List.getD_eq_getElem?_getD, List.getElem?_eq_getElem (show i < pl0.length from hi)]
    rfl
  exact va_nd_inj pl0 h i j _ (a i hi) ((a j hj).trans (by rw [e]))
theorem wq_P {H : Heap} (h : va_P E0.1 vwCl (LL E0 q0 u q1 v) H) : va_P (E1 E0 q0 u q1 v).1 vwCl (wx (E1 E0 q0 u q1 v) (sg0 (u.2.1.2.2.2.2.2.2.1 9))) H   := va_P.by (LL_flat ▸ h) (fun k => pl0.getD k 0) wq_g
theorem wq_D {A : Nat → Prop} (h : va_D A (LL E0 q0 u q1 v)) : va_D A (wx (E1 E0 q0 u q1 v) (sg0 (u.2.1.2.2.2.2.2.2.1 9))) := va_D.by (LL_flat ▸ h) (fun k => pl0.getD k 0) wq_g (fun i j hi hj e => pl_inj i (by rw [wx_len] at hi; exact hi) j (by rw [wx_len] at hj; exact hj) e)
end WQ

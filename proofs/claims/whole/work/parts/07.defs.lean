abbrev ws_Ar_fill (cI cJ cZ : ClassId) (q_o0 : Nat) (n_o0 : Nat) (v_o0 : (Nat → Int32)) : va_W := [(q_o0, .inl (cI, n_o0, .inl v_o0))]
abbrev rm_Ar_fill : Room := { frames := 0, cells := 0, slots := 0, locals := 0 }
def f_Ar_fill_L5 (n_o0 : Nat) (x1 : Int32) (x3 : Int32) (K rec : Int32 → (Nat → Int32) → Option ((Nat → Int32))) (x2 : Int32) (v_o0 : (Nat → Int32)) : Option ((Nat → Int32)) :=
 (if x3 ≤ x2 then
 (K x2 v_o0)
 else
 (gIn x2 n_o0
 (bnd (upd v_o0 x2.toNatClampNeg x1) (fun v_o0_1 =>
 (bnd (x2 + 1) (fun x2_1 =>
 (rec x2_1 v_o0_1)))))))
def f_Ar_fill (n_o0 : Nat) (x1 : Int32) (v_o0 : (Nat → Int32)) : Option ((Nat → Int32)) :=
 (bnd (Int32.ofNat n_o0) (fun x3 =>
 (itr (fun _ _ => none) (f_Ar_fill_L5 n_o0 x1 x3 (fun x2 v_o0_1 =>
 (some v_o0_1))) FU (0 : Int32) v_o0)))
abbrev ws_Au_shape (cI cJ cZ : ClassId) (q_this q_moves q_finals : Nat) (n_moves n_finals : Nat) (v_size : Int32) (v_letters : Int32) (v_moves : (Nat → Int32)) (v_finals : (Nat → Int32)) : va_W := [(q_this, .inr (0, [.ref q_moves, .ref q_finals, .int v_size, .int v_letters])), (q_moves, .inl (cI, n_moves, .inl v_moves)), (q_finals, .inl (cI, n_finals, .inl v_finals))]
abbrev rm_Au_shape : Room := { frames := 1, cells := 0, slots := 0, locals := 23 }
def f_Au_shape (n_moves : Nat) (n_finals : Nat) (x1 : Int32) (x2 : Int32) (v_moves : (Nat → Int32)) (v_finals : (Nat → Int32)) : Option ((Nat → Int32) × (Nat → Int32) × Int32 × Int32) :=
 (bd1 (f_Ar_fill n_moves (0 : Int32) v_moves) (fun v_moves_1 =>
 (bd1 (f_Ar_fill n_finals (0 : Int32) v_finals) (fun v_finals_1 =>
 (some (v_moves_1, v_finals_1, x1, x2))))))
abbrev ws_Ws_lengthOf (cI cJ cZ : ClassId) : va_W := []
abbrev rm_Ws_lengthOf : Room := { frames := 0, cells := 0, slots := 0, locals := 0 }
def f_Ws_lengthOf_L6 (K rec : Int32 → Int64 → Option (Int32)) (x2 : Int32) (x3 : Int64) : Option (Int32) :=
 (if (0 : Int64) < x3 then
 (if (16 : Int32) ≤ x2 then
 (K x2 x3)
 else
 (bnd (x2 + 1) (fun x2_1 =>
 (bnd (x3 >>> (2 : Int64)) (fun x3_1 =>
 (rec x2_1 x3_1))))))
 else
 (K x2 x3))
def f_Ws_lengthOf (x0 : Int64) : Option (Int32) :=
 (bnd (x0 >>> (2 : Int64)) (fun x3 =>
 (itr (fun _ _ => none) (f_Ws_lengthOf_L6 (fun x2 x3_1 =>
 (some x2))) FU (0 : Int32) x3)))
abbrev ws_Au_hasState (cI cJ cZ : ClassId) (q_this q_moves q_finals : Nat) (v_size : Int32) (v_letters : Int32) : va_W := [(q_this, .inr (0, [.ref q_moves, .ref q_finals, .int v_size, .int v_letters]))]
abbrev rm_Au_hasState : Room := { frames := 0, cells := 0, slots := 0, locals := 0 }
def f_Au_hasState (x1 : Int32) (v_size : Int32) : Option (Int32) :=
 (if x1 < 0 then
 (some (0 : Int32))
 else
 (if v_size ≤ x1 then
 (some (0 : Int32))
 else
 (some (1 : Int32))))
abbrev ws_Au_next (cI cJ cZ : ClassId) (q_this q_moves q_finals : Nat) (n_moves : Nat) (v_size : Int32) (v_letters : Int32) (v_moves : (Nat → Int32)) : va_W := [(q_this, .inr (0, [.ref q_moves, .ref q_finals, .int v_size, .int v_letters])), (q_moves, .inl (cI, n_moves, .inl v_moves))]
abbrev rm_Au_next : Room := { frames := 0, cells := 0, slots := 0, locals := 0 }
def f_Au_next (n_moves : Nat) (x1 : Int32) (x2 : Int32) (v_moves : (Nat → Int32)) : Option (Int32) :=
 (gIn ((x1 * (3 : Int32)) + x2) n_moves
 (some (v_moves ((x1 * (3 : Int32)) + x2).toNatClampNeg)))
abbrev ws_Ws_join (cI cJ cZ : ClassId) : va_W := []
abbrev rm_Ws_join : Room := { frames := 1, cells := 0, slots := 0, locals := 24 }
def f_Ws_join (x0 : Int64) (x2 : Int64) : Option (Int64) :=
 (bd1 (f_Ws_lengthOf x0) (fun r =>
 (bnd ((2 : Int32) * r) (fun x4 =>
 (some ((x0 ^^^ ((1 : Int64) <<< (x4.toInt64 &&& 63))) ||| (x2 <<< (x4.toInt64 &&& 63))))))))
abbrev ws_Au_follow (cI cJ cZ : ClassId) (q_this q_moves q_finals : Nat) (n_moves : Nat) (v_size : Int32) (v_letters : Int32) (v_moves : (Nat → Int32)) : va_W := [(q_this, .inr (0, [.ref q_moves, .ref q_finals, .int v_size, .int v_letters])), (q_moves, .inl (cI, n_moves, .inl v_moves))]
abbrev rm_Au_follow : Room := { frames := 0, cells := 0, slots := 0, locals := 0 }
def f_Au_follow_L9 (n_moves : Nat) (v_moves : (Nat → Int32)) (x3 : Int32) (K rec : Int32 → Int64 → Int32 → Option (Int32)) (x4 : Int32) (x5 : Int64) (x7 : Int32) : Option (Int32) :=
 (if x3 ≤ x7 then
 (K x4 x5 x7)
 else
 (gIn ((x4 * (3 : Int32)) + (x5 &&& (3 : Int64)).toInt32) n_moves
 (bnd (v_moves ((x4 * (3 : Int32)) + (x5 &&& (3 : Int64)).toInt32).toNatClampNeg) (fun x4_1 =>
 (bnd (x5 >>> (2 : Int64)) (fun x5_1 =>
 (bnd (x7 + 1) (fun x7_1 =>
 (rec x4_1 x5_1 x7_1)))))))))
def f_Au_follow (n_moves : Nat) (x1 : Int64) (x3 : Int32) (v_moves : (Nat → Int32)) : Option (Int32) :=
 (itr (fun _ _ _ => none) (f_Au_follow_L9 n_moves v_moves x3 (fun x4 x5 x7 =>
 (some x4))) FU (0 : Int32) x1 (0 : Int32))
abbrev ws_Au_verdict (cI cJ cZ : ClassId) (q_this q_moves q_finals : Nat) (n_moves n_finals : Nat) (v_size : Int32) (v_letters : Int32) (v_moves : (Nat → Int32)) (v_finals : (Nat → Int32)) : va_W := [(q_this, .inr (0, [.ref q_moves, .ref q_finals, .int v_size, .int v_letters])), (q_moves, .inl (cI, n_moves, .inl v_moves)), (q_finals, .inl (cI, n_finals, .inl v_finals))]
abbrev rm_Au_verdict : Room := { frames := 1, cells := 0, slots := 0, locals := 27 }
def f_Au_verdict (n_moves : Nat) (n_finals : Nat) (x1 : Int64) (v_moves : (Nat → Int32)) (v_finals : (Nat → Int32)) : Option (Int32) :=
 (bd1 (f_Ws_lengthOf x1) (fun r =>
 (bd1 (f_Au_follow n_moves x1 r v_moves) (fun r_1 =>
 (gIn r_1 n_finals
 (some (v_finals r_1.toNatClampNeg)))))))

theorem dJ7_fill_53178_0 : decode cJ7_fill_53178 0 = .ok (.iconst 0, 1) := by decide +kernel
theorem dJ7_fill_53178_1 : decode cJ7_fill_53178 1 = .ok (.istore_n 2, 1) := by decide +kernel
theorem dJ7_fill_53178_2 : decode cJ7_fill_53178 2 = .ok (.aload_n 0, 1) := by decide +kernel
theorem dJ7_fill_53178_3 : decode cJ7_fill_53178 3 = .ok (.arraylength, 1) := by decide +kernel
theorem dJ7_fill_53178_4 : decode cJ7_fill_53178 4 = .ok (.istore_n 3, 1) := by decide +kernel
theorem dJ7_fill_53178_5 : decode cJ7_fill_53178 5 = .ok (.iload_n 2, 1) := by decide +kernel
theorem dJ7_fill_53178_6 : decode cJ7_fill_53178 6 = .ok (.iload_n 3, 1) := by decide +kernel
theorem dJ7_fill_53178_7 : decode cJ7_fill_53178 7 = .ok (.if_icmp .ge 13, 3) := by decide +kernel
theorem dJ7_fill_53178_10 : decode cJ7_fill_53178 10 = .ok (.aload_n 0, 1) := by decide +kernel
theorem dJ7_fill_53178_11 : decode cJ7_fill_53178 11 = .ok (.iload_n 2, 1) := by decide +kernel
theorem dJ7_fill_53178_12 : decode cJ7_fill_53178 12 = .ok (.iload_n 1, 1) := by decide +kernel
theorem dJ7_fill_53178_13 : decode cJ7_fill_53178 13 = .ok (.iastore, 1) := by decide +kernel
theorem dJ7_fill_53178_14 : decode cJ7_fill_53178 14 = .ok (.iinc 2 1, 3) := by decide +kernel
theorem dJ7_fill_53178_17 : decode cJ7_fill_53178 17 = .ok (.goto (-12), 3) := by decide +kernel
theorem dJ7_fill_53178_20 : decode cJ7_fill_53178 20 = .ok (.return_, 1) := by decide +kernel
set_option maxRecDepth 100000 in
theorem w_Ar_fill_L5 {p : Program} {l : Launch} {e : Env} {s : State} {m : MethodId} {args : Array Value} {below : List Frame} {meth : Method} {c : Code} {Q : State → Prop} {A : Nat → Prop} {D : va_G} {cI cJ cZ cO : ClassId} {q_o0 : Nat} {n_o0 : Nat} {x1 : Int32} {x3 : Int32} {x : (Nat → Int32)} (C0 : Cx p s m args c A D cI cJ cZ cO cJ7_fill_53178 4 RJ7) (hQ : RtV p l e rm_Ar_fill s m args below meth c Q A D cJ7_fill_53178 (ws_Ar_fill cI cJ cZ q_o0 n_o0 x)) {K : Int32 → (Nat → Int32) → Option ((Nat → Int32))} (hK : ∀ (x2 : Int32) (v_o0 : (Nat → Int32)) (H : Heap) (locs : List Loc) (ls : Array Slot), K x2 v_o0 = some x → Wd s A D (ws_Ar_fill cI cJ cZ q_o0 n_o0 v_o0) H locs → lv_has ls 4 [] → W p l e rm_Ar_fill s m args below meth c H locs 0 0 Q (F0 m 20 ls [])) {rec : Int32 → (Nat → Int32) → Option ((Nat → Int32))} (hrec : ∀ (x2 : Int32) (v_o0 : (Nat → Int32)) (H : Heap) (locs : List Loc) (ls : Array Slot), rec x2 v_o0 = some x → Wd s A D (ws_Ar_fill cI cJ cZ q_o0 n_o0 v_o0) H locs → lv_has ls 4 [(0, .ref q_o0), (1, .int x1), (2, .int x2), (3, .int x3)] → W p l e rm_Ar_fill s m args below meth c H locs 0 0 Q (F0 m 5 ls [])) (x2 : Int32) (v_o0 : (Nat → Int32)) {H : Heap} {locs : List Loc} {ls : Array Slot} (h : f_Ar_fill_L5 n_o0 x1 x3 K rec x2 v_o0 = some x) (w : Wd s A D (ws_Ar_fill cI cJ cZ q_o0 n_o0 v_o0) H locs) (hl : lv_has ls 4 [(0, .ref q_o0), (1, .int x1), (2, .int x2), (3, .int x3)]) : W p l e rm_Ar_fill s m args below meth c H locs 0 0 Q (F0 m 5 ls []) := by
  obtain ⟨hx, hb, hml, hown, hts, -, -⟩ := id C0
  unfold f_Ar_fill_L5 at h
  refine lv_iload_n hx hb dJ7_fill_53178_5 rfl (lv_at hl 2 rfl) ?_
  refine lv_iload_n hx hb dJ7_fill_53178_6 rfl (lv_at hl 3 rfl) ?_
  refine lv_icmp_ge (tgt := 20) hx hb dJ7_fill_53178_7 (by decide) (fun hc => ?_) (fun hc => ?_)
  · have h := if_h hc h
    exact hK _ _ _ _ _ h w (lv_sub hl [] rfl)
  · have h := nf_h hc h
    refine lv_aload_n hx hb dJ7_fill_53178_10 rfl (lv_at hl 0 rfl) ?_
    refine lv_iload_n hx hb dJ7_fill_53178_11 rfl (lv_at hl 2 rfl) ?_
    refine lv_iload_n hx hb dJ7_fill_53178_12 rfl (lv_at hl 1 rfl) ?_
    obtain ⟨hi, h⟩ := gIn_h h
    obtain ⟨v_o0_1, ev_o0_1⟩ : ∃ y, y = (upd v_o0 x2.toNatClampNeg x1) := ⟨_, rfl⟩
    have h := bnd_at ev_o0_1 h
    refine r_iast C0 w 0 rfl (f' := v_o0_1) rfl hi ev_o0_1 dJ7_fill_53178_13 (ws' := (ws_Ar_fill cI cJ cZ q_o0 n_o0 v_o0_1)) rfl (fun H locs w => ?_)
    obtain ⟨x2_1, ex2_1⟩ : ∃ y : Int32, y = (x2 + 1) := ⟨_, rfl⟩
    have h := bnd_at ex2_1 h
    refine lv_iinc (v := x2_1) (lv' := [(2, .int x2_1), (0, .ref q_o0), (1, .int x1), (3, .int x3)]) hx hb dJ7_fill_53178_14 hl (k := 2) rfl (by rw [ex2_1]; rfl) (by decide) rfl (fun ls hl => ?_)
    refine lv_goto (tgt := 5) hx hb dJ7_fill_53178_17 (by decide) ?_
    exact hrec _ _ _ _ _ h w (lv_sub hl [1, 2, 0, 3] rfl)
set_option maxRecDepth 100000 in
theorem wl_Ar_fill_L5 {p : Program} {l : Launch} {e : Env} {s : State} {m : MethodId} {args : Array Value} {below : List Frame} {meth : Method} {c : Code} {Q : State → Prop} {A : Nat → Prop} {D : va_G} {cI cJ cZ cO : ClassId} {q_o0 : Nat} {n_o0 : Nat} {x1 : Int32} {x3 : Int32} {x : (Nat → Int32)} (C0 : Cx p s m args c A D cI cJ cZ cO cJ7_fill_53178 4 RJ7) (hQ : RtV p l e rm_Ar_fill s m args below meth c Q A D cJ7_fill_53178 (ws_Ar_fill cI cJ cZ q_o0 n_o0 x)) {K : Int32 → (Nat → Int32) → Option ((Nat → Int32))} (hK : ∀ (x2 : Int32) (v_o0 : (Nat → Int32)) (H : Heap) (locs : List Loc) (ls : Array Slot), K x2 v_o0 = some x → Wd s A D (ws_Ar_fill cI cJ cZ q_o0 n_o0 v_o0) H locs → lv_has ls 4 [] → W p l e rm_Ar_fill s m args below meth c H locs 0 0 Q (F0 m 20 ls [])) : ∀ (n : Nat) (x2 : Int32) (v_o0 : (Nat → Int32)) (H : Heap) (locs : List Loc) (ls : Array Slot), itr (fun _ _ => none) (f_Ar_fill_L5 n_o0 x1 x3 K) n x2 v_o0 = some x → Wd s A D (ws_Ar_fill cI cJ cZ q_o0 n_o0 v_o0) H locs → lv_has ls 4 [(0, .ref q_o0), (1, .int x1), (2, .int x2), (3, .int x3)] → W p l e rm_Ar_fill s m args below meth c H locs 0 0 Q (F0 m 5 ls []) := by
  intro n
  induction n with
  | zero => intro _ _ _ _ _ h; cases (show none = some _ from h)
  | succ n ih => intro _ _ _ _ _ h w hl; exact w_Ar_fill_L5 C0 hQ hK ih _ _ h w hl
set_option maxRecDepth 100000 in
theorem c_Ar_fill {l : Launch} {D : va_G} {cI cJ cZ cO : ClassId} {q_o0 : Nat} {n_o0 : Nat} {x1 : Int32} {v_o0 : (Nat → Int32)} {x : (Nat → Int32)} (h : f_Ar_fill n_o0 x1 v_o0 = some x) : ctV l D cI cJ cZ cO yJ7_fill_53178 cJ7_fill_53178 4 rm_Ar_fill [.ref q_o0, .int x1] (ws_Ar_fill cI cJ cZ q_o0 n_o0 v_o0) (ws_Ar_fill cI cJ cZ q_o0 n_o0 x) := by
  refine ctV_of (by decide) (Nat.le_of_ble_eq_true rfl) ?_
  intro p e s m below meth c Q A ls C0 hQ w hl
  have hl : lv_has ls 4 [(0, .ref q_o0), (1, .int x1)] := hl
  generalize List.toArray (α := Value) [.ref q_o0, .int x1] = args at C0 hQ ⊢
  obtain ⟨hx, hb, hml, hown, hts, -, -⟩ := id C0
  unfold f_Ar_fill at h
  refine lv_iconst (v := (0 : Int32)) hx hb dJ7_fill_53178_0 (by decide) ?_
  refine lv_istore_n (lv' := [(2, .int (0 : Int32)), (0, .ref q_o0), (1, .int x1)]) hx hb dJ7_fill_53178_1 rfl hl (by decide) rfl (fun ls hl => ?_)
  refine lv_aload_n hx hb dJ7_fill_53178_2 rfl (lv_at hl 1 rfl) ?_
  refine r_alen C0 w 0 0 rfl rfl rfl dJ7_fill_53178_3 ?_
  refine lv_topi (fun x3 ex3 => ?_)
  have h := bnd_at ex3 h
  refine lv_istore_n (lv' := [(3, .int x3), (2, .int (0 : Int32)), (0, .ref q_o0), (1, .int x1)]) hx hb dJ7_fill_53178_4 rfl hl (by decide) rfl (fun ls hl => ?_)
  refine wl_Ar_fill_L5 C0 hQ (fun x2 v_o0_1 H locs ls h w hl => ?_) _ _ _ _ _ _ h w (lv_sub hl [2, 3, 1, 0] rfl)
  cases h
  exact hQ _ _ _ _ dJ7_fill_53178_20 w
theorem dX0_shape_0 : decode cX0_shape 0 = .ok (.aload_n 0, 1) := by decide +kernel
theorem dX0_shape_1 : decode cX0_shape 1 = .ok (.iload_n 1, 1) := by decide +kernel
theorem dX0_shape_2 : decode cX0_shape 2 = .ok (.putfield 18, 3) := by decide +kernel
theorem dX0_shape_5 : decode cX0_shape 5 = .ok (.aload_n 0, 1) := by decide +kernel
theorem dX0_shape_6 : decode cX0_shape 6 = .ok (.iload_n 2, 1) := by decide +kernel
theorem dX0_shape_7 : decode cX0_shape 7 = .ok (.putfield 22, 3) := by decide +kernel
theorem dX0_shape_10 : decode cX0_shape 10 = .ok (.aload_n 0, 1) := by decide +kernel
theorem dX0_shape_11 : decode cX0_shape 11 = .ok (.getfield 9, 3) := by decide +kernel
theorem dX0_shape_14 : decode cX0_shape 14 = .ok (.iconst 0, 1) := by decide +kernel
theorem dX0_shape_15 : decode cX0_shape 15 = .ok (.invokestatic 25, 3) := by decide +kernel
theorem dX0_shape_18 : decode cX0_shape 18 = .ok (.aload_n 0, 1) := by decide +kernel
theorem dX0_shape_19 : decode cX0_shape 19 = .ok (.getfield 15, 3) := by decide +kernel
theorem dX0_shape_22 : decode cX0_shape 22 = .ok (.iconst 0, 1) := by decide +kernel
theorem dX0_shape_23 : decode cX0_shape 23 = .ok (.invokestatic 25, 3) := by decide +kernel
theorem dX0_shape_26 : decode cX0_shape 26 = .ok (.return_, 1) := by decide +kernel
set_option maxRecDepth 100000 in
theorem c_Au_shape {l : Launch} {D : va_G} {cI cJ cZ cO : ClassId} {q_this q_moves q_finals : Nat} {n_moves n_finals : Nat} {x1 : Int32} {x2 : Int32} {v_size : Int32} {v_letters : Int32} {v_moves : (Nat → Int32)} {v_finals : (Nat → Int32)} {x : (Nat → Int32) × (Nat → Int32) × Int32 × Int32} (h : f_Au_shape n_moves n_finals x1 x2 v_moves v_finals = some x) : ctV l D cI cJ cZ cO yX0_shape cX0_shape 3 rm_Au_shape [.ref q_this, .int x1, .int x2] (ws_Au_shape cI cJ cZ q_this q_moves q_finals n_moves n_finals v_size v_letters v_moves v_finals) (ws_Au_shape cI cJ cZ q_this q_moves q_finals n_moves n_finals x.2.2.1 x.2.2.2 x.1 x.2.1) := by
  refine ctV_of (by decide) (Nat.le_of_ble_eq_true rfl) ?_
  intro p e s m below meth c Q A ls C0 hQ w hl
  have hl : lv_has ls 3 [(0, .ref q_this), (1, .int x1), (2, .int x2)] := hl
  generalize List.toArray (α := Value) [.ref q_this, .int x1, .int x2] = args at C0 hQ ⊢
  obtain ⟨hx, hb, hml, hown, hts, -, -⟩ := id C0
  unfold f_Au_shape at h
  refine lv_aload_n hx hb dX0_shape_0 rfl (lv_at hl 0 rfl) ?_
  refine lv_iload_n hx hb dX0_shape_1 rfl (lv_at hl 1 rfl) ?_
  refine r_put C0 w 0 rfl kf_Au 2 (by decide) lf_RX0_18 rfl rfl rfl (Nat.le_of_ble_eq_true rfl) dX0_shape_2 (ws' := (ws_Au_shape cI cJ cZ q_this q_moves q_finals n_moves n_finals x1 v_letters v_moves v_finals)) rfl (fun H locs w => ?_)
  refine lv_aload_n hx hb dX0_shape_5 rfl (lv_at hl 0 rfl) ?_
  refine lv_iload_n hx hb dX0_shape_6 rfl (lv_at hl 2 rfl) ?_
  refine r_put C0 w 0 rfl kf_Au 3 (by decide) lf_RX0_22 rfl rfl rfl (Nat.le_of_ble_eq_true rfl) dX0_shape_7 (ws' := (ws_Au_shape cI cJ cZ q_this q_moves q_finals n_moves n_finals x1 x2 v_moves v_finals)) rfl (fun H locs w => ?_)
  refine lv_aload_n hx hb dX0_shape_10 rfl (lv_at hl 0 rfl) ?_
  refine r_get C0 w 0 rfl kf_Au 0 (by decide) lf_RX0_9 rfl dX0_shape_11 ?_
  refine lv_iconst (v := (0 : Int32)) hx hb dX0_shape_14 (by decide) ?_
  obtain ⟨v_moves_1, hcall, h⟩ := bd1_h h
  have hp := sp_of (ws := (ws_Au_shape cI cJ cZ q_this q_moves q_finals n_moves n_finals x1 x2 v_moves v_finals)) (wc := (ws_Ar_fill cI cJ cZ q_moves n_moves v_moves)) [1] [0, 2] rfl rfl
  have hp' : Rp (pk (ws_Au_shape cI cJ cZ q_this q_moves q_finals n_moves n_finals x1 x2 v_moves v_finals) [0, 2] ++ (ws_Ar_fill cI cJ cZ q_moves n_moves v_moves_1)) (ws_Au_shape cI cJ cZ q_this q_moves q_finals n_moves n_finals x1 x2 v_moves_1 v_finals) := ⟨[0, 2, 1], rfl, rfl⟩
  refine r_SV (As := [.ref q_moves, .int (0 : Int32)]) (rest := []) (wc' := (ws_Ar_fill cI cJ cZ q_moves n_moves v_moves_1)) (ws' := (ws_Au_shape cI cJ cZ q_this q_moves q_finals n_moves n_finals x1 x2 v_moves_1 v_finals)) C0 w (c_Ar_fill hcall) hp hp' lm_RX0_25 ms_Ar_fill ⟨rfl, rfl⟩ ⟨by decide, by decide⟩ ⟨Nat.zero_le _, Nat.zero_le _⟩ rfl hl rfl (Nat.le_of_ble_eq_true rfl) dX0_shape_15 (fun H locs w => ?_)
  refine lv_aload_n hx hb dX0_shape_18 rfl (lv_at hl 0 rfl) ?_
  refine r_get C0 w 0 rfl kf_Au 1 (by decide) lf_RX0_15 rfl dX0_shape_19 ?_
  refine lv_iconst (v := (0 : Int32)) hx hb dX0_shape_22 (by decide) ?_
  obtain ⟨v_finals_1, hcall, h⟩ := bd1_h h
  have hp := sp_of (ws := (ws_Au_shape cI cJ cZ q_this q_moves q_finals n_moves n_finals x1 x2 v_moves_1 v_finals)) (wc := (ws_Ar_fill cI cJ cZ q_finals n_finals v_finals)) [2] [0, 1] rfl rfl
  have hp' : Rp (pk (ws_Au_shape cI cJ cZ q_this q_moves q_finals n_moves n_finals x1 x2 v_moves_1 v_finals) [0, 1] ++ (ws_Ar_fill cI cJ cZ q_finals n_finals v_finals_1)) (ws_Au_shape cI cJ cZ q_this q_moves q_finals n_moves n_finals x1 x2 v_moves_1 v_finals_1) := ⟨[0, 1, 2], rfl, rfl⟩
  refine r_SV (As := [.ref q_finals, .int (0 : Int32)]) (rest := []) (wc' := (ws_Ar_fill cI cJ cZ q_finals n_finals v_finals_1)) (ws' := (ws_Au_shape cI cJ cZ q_this q_moves q_finals n_moves n_finals x1 x2 v_moves_1 v_finals_1)) C0 w (c_Ar_fill hcall) hp hp' lm_RX0_25 ms_Ar_fill ⟨rfl, rfl⟩ ⟨by decide, by decide⟩ ⟨Nat.zero_le _, Nat.zero_le _⟩ rfl hl rfl (Nat.le_of_ble_eq_true rfl) dX0_shape_23 (fun H locs w => ?_)
  cases h
  exact hQ _ _ _ _ dX0_shape_26 w
theorem dX7_lengthOf_0 : decode cX7_lengthOf 0 = .ok (.iconst 0, 1) := by decide +kernel
theorem dX7_lengthOf_1 : decode cX7_lengthOf 1 = .ok (.istore_n 2, 1) := by decide +kernel
theorem dX7_lengthOf_2 : decode cX7_lengthOf 2 = .ok (.lload_n 0, 1) := by decide +kernel
theorem dX7_lengthOf_3 : decode cX7_lengthOf 3 = .ok (.iconst 2, 1) := by decide +kernel
theorem dX7_lengthOf_4 : decode cX7_lengthOf 4 = .ok (.lshr, 1) := by decide +kernel
theorem dX7_lengthOf_5 : decode cX7_lengthOf 5 = .ok (.lstore_n 3, 1) := by decide +kernel
theorem dX7_lengthOf_6 : decode cX7_lengthOf 6 = .ok (.lload_n 3, 1) := by decide +kernel
theorem dX7_lengthOf_7 : decode cX7_lengthOf 7 = .ok (.lconst 0, 1) := by decide +kernel
theorem dX7_lengthOf_8 : decode cX7_lengthOf 8 = .ok (.lcmp, 1) := by decide +kernel
theorem dX7_lengthOf_9 : decode cX7_lengthOf 9 = .ok (.ifCond .le 19, 3) := by decide +kernel
theorem dX7_lengthOf_12 : decode cX7_lengthOf 12 = .ok (.iload_n 2, 1) := by decide +kernel
theorem dX7_lengthOf_13 : decode cX7_lengthOf 13 = .ok (.bipush 16, 2) := by decide +kernel
theorem dX7_lengthOf_15 : decode cX7_lengthOf 15 = .ok (.if_icmp .ge 13, 3) := by decide +kernel
theorem dX7_lengthOf_18 : decode cX7_lengthOf 18 = .ok (.iinc 2 1, 3) := by decide +kernel
theorem dX7_lengthOf_21 : decode cX7_lengthOf 21 = .ok (.lload_n 3, 1) := by decide +kernel
theorem dX7_lengthOf_22 : decode cX7_lengthOf 22 = .ok (.iconst 2, 1) := by decide +kernel
theorem dX7_lengthOf_23 : decode cX7_lengthOf 23 = .ok (.lshr, 1) := by decide +kernel
theorem dX7_lengthOf_24 : decode cX7_lengthOf 24 = .ok (.lstore_n 3, 1) := by decide +kernel
theorem dX7_lengthOf_25 : decode cX7_lengthOf 25 = .ok (.goto (-19), 3) := by decide +kernel
theorem dX7_lengthOf_28 : decode cX7_lengthOf 28 = .ok (.iload_n 2, 1) := by decide +kernel
theorem dX7_lengthOf_29 : decode cX7_lengthOf 29 = .ok (.ireturn, 1) := by decide +kernel
set_option maxRecDepth 100000 in
theorem w_Ws_lengthOf_L6 {p : Program} {l : Launch} {e : Env} {s : State} {m : MethodId} {args : Array Value} {below : List Frame} {meth : Method} {c : Code} {Q : State → Prop} {A : Nat → Prop} {D : va_G} {cI cJ cZ cO : ClassId} {x : Int32} (C0 : Cx p s m args c A D cI cJ cZ cO cX7_lengthOf 5 RX7) (hQ : RtI p l e rm_Ws_lengthOf s m args below meth c Q A D cX7_lengthOf .int (ws_Ws_lengthOf cI cJ cZ) x) {K : Int32 → Int64 → Option (Int32)} (hK : ∀ (x2 : Int32) (x3 : Int64) (H : Heap) (locs : List Loc) (ls : Array Slot), K x2 x3 = some x → Wd s A D (ws_Ws_lengthOf cI cJ cZ) H locs → lv_has ls 5 [(2, .int x2)] → W p l e rm_Ws_lengthOf s m args below meth c H locs 0 0 Q (F0 m 28 ls [])) {rec : Int32 → Int64 → Option (Int32)} (hrec : ∀ (x2 : Int32) (x3 : Int64) (H : Heap) (locs : List Loc) (ls : Array Slot), rec x2 x3 = some x → Wd s A D (ws_Ws_lengthOf cI cJ cZ) H locs → lv_has ls 5 [(2, .int x2), (3, .long x3)] → W p l e rm_Ws_lengthOf s m args below meth c H locs 0 0 Q (F0 m 6 ls [])) (x2 : Int32) (x3 : Int64) {H : Heap} {locs : List Loc} {ls : Array Slot} (h : f_Ws_lengthOf_L6 K rec x2 x3 = some x) (w : Wd s A D (ws_Ws_lengthOf cI cJ cZ) H locs) (hl : lv_has ls 5 [(2, .int x2), (3, .long x3)]) : W p l e rm_Ws_lengthOf s m args below meth c H locs 0 0 Q (F0 m 6 ls []) := by
  obtain ⟨hx, hb, hml, hown, hts, -, -⟩ := id C0
  unfold f_Ws_lengthOf_L6 at h
  refine lv_lload_n hx hb dX7_lengthOf_6 rfl (lv_at hl 1 rfl) ?_
  refine lv_lconst (v := (0 : Int64)) hx hb dX7_lengthOf_7 (by decide) ?_
  refine r_lc_le (tgt := 28) hx hb dX7_lengthOf_8 dX7_lengthOf_9 (by decide) (fun hc => ?_) (fun hc => ?_)
  · have h := nf_h hc h
    exact hK _ _ _ _ _ h w (lv_sub hl [0] rfl)
  · have h := if_h hc h
    refine lv_iload_n hx hb dX7_lengthOf_12 rfl (lv_at hl 0 rfl) ?_
    refine lv_bipush (v := (16 : Int32)) hx hb dX7_lengthOf_13 (by decide) ?_
    refine lv_icmp_ge (tgt := 28) hx hb dX7_lengthOf_15 (by decide) (fun hc => ?_) (fun hc => ?_)
    · have h := if_h hc h
      exact hK _ _ _ _ _ h w (lv_sub hl [0] rfl)
    · have h := nf_h hc h
      obtain ⟨x2_1, ex2_1⟩ : ∃ y : Int32, y = (x2 + 1) := ⟨_, rfl⟩
      have h := bnd_at ex2_1 h
      refine lv_iinc (v := x2_1) (lv' := [(2, .int x2_1), (3, .long x3)]) hx hb dX7_lengthOf_18 hl (k := 0) rfl (by rw [ex2_1]; rfl) (by decide) rfl (fun ls hl => ?_)
      refine lv_lload_n hx hb dX7_lengthOf_21 rfl (lv_at hl 1 rfl) ?_
      refine lv_iconst (v := (2 : Int32)) hx hb dX7_lengthOf_22 (by decide) ?_
      refine lv_lshr (v := (x3 >>> (2 : Int64))) hx hb dX7_lengthOf_23 (lsh_litr (by decide)) ?_
      refine lv_topl (fun x3_1 ex3_1 => ?_)
      have h := bnd_at ex3_1 h
      refine lv_lstore_n (lv' := [(3, .long x3_1), (2, .int x2_1)]) hx hb dX7_lengthOf_24 rfl hl (by decide) rfl (fun ls hl => ?_)
      refine lv_goto (tgt := 6) hx hb dX7_lengthOf_25 (by decide) ?_
      exact hrec _ _ _ _ _ h w (lv_sub hl [1, 0] rfl)
set_option maxRecDepth 100000 in
theorem wl_Ws_lengthOf_L6 {p : Program} {l : Launch} {e : Env} {s : State} {m : MethodId} {args : Array Value} {below : List Frame} {meth : Method} {c : Code} {Q : State → Prop} {A : Nat → Prop} {D : va_G} {cI cJ cZ cO : ClassId} {x : Int32} (C0 : Cx p s m args c A D cI cJ cZ cO cX7_lengthOf 5 RX7) (hQ : RtI p l e rm_Ws_lengthOf s m args below meth c Q A D cX7_lengthOf .int (ws_Ws_lengthOf cI cJ cZ) x) {K : Int32 → Int64 → Option (Int32)} (hK : ∀ (x2 : Int32) (x3 : Int64) (H : Heap) (locs : List Loc) (ls : Array Slot), K x2 x3 = some x → Wd s A D (ws_Ws_lengthOf cI cJ cZ) H locs → lv_has ls 5 [(2, .int x2)] → W p l e rm_Ws_lengthOf s m args below meth c H locs 0 0 Q (F0 m 28 ls [])) : ∀ (n : Nat) (x2 : Int32) (x3 : Int64) (H : Heap) (locs : List Loc) (ls : Array Slot), itr (fun _ _ => none) (f_Ws_lengthOf_L6 K) n x2 x3 = some x → Wd s A D (ws_Ws_lengthOf cI cJ cZ) H locs → lv_has ls 5 [(2, .int x2), (3, .long x3)] → W p l e rm_Ws_lengthOf s m args below meth c H locs 0 0 Q (F0 m 6 ls []) := by
  intro n
  induction n with
  | zero => intro _ _ _ _ _ h; cases (show none = some _ from h)
  | succ n ih => intro _ _ _ _ _ h w hl; exact w_Ws_lengthOf_L6 C0 hQ hK ih _ _ h w hl
set_option maxRecDepth 100000 in
theorem c_Ws_lengthOf {l : Launch} {D : va_G} {cI cJ cZ cO : ClassId} {x0 : Int64} {x : Int32} (h : f_Ws_lengthOf x0 = some x) : ctI l D cI cJ cZ cO yX7_lengthOf cX7_lengthOf 5 .int rm_Ws_lengthOf [.long x0] (ws_Ws_lengthOf cI cJ cZ) (ws_Ws_lengthOf cI cJ cZ) x := by
  refine ctI_of (by decide) (Nat.le_of_ble_eq_true rfl) ?_
  intro p e s m below meth c Q A ls C0 hQ w hl
  have hl : lv_has ls 5 [(0, .long x0)] := hl
  generalize List.toArray (α := Value) [.long x0] = args at C0 hQ ⊢
  obtain ⟨hx, hb, hml, hown, hts, -, -⟩ := id C0
  unfold f_Ws_lengthOf at h
  refine lv_iconst (v := (0 : Int32)) hx hb dX7_lengthOf_0 (by decide) ?_
  refine lv_istore_n (lv' := [(2, .int (0 : Int32)), (0, .long x0)]) hx hb dX7_lengthOf_1 rfl hl (by decide) rfl (fun ls hl => ?_)
  refine lv_lload_n hx hb dX7_lengthOf_2 rfl (lv_at hl 1 rfl) ?_
  refine lv_iconst (v := (2 : Int32)) hx hb dX7_lengthOf_3 (by decide) ?_
  refine lv_lshr (v := (x0 >>> (2 : Int64))) hx hb dX7_lengthOf_4 (lsh_litr (by decide)) ?_
  refine lv_topl (fun x3 ex3 => ?_)
  have h := bnd_at ex3 h
  refine lv_lstore_n (lv' := [(3, .long x3), (2, .int (0 : Int32)), (0, .long x0)]) hx hb dX7_lengthOf_5 rfl hl (by decide) rfl (fun ls hl => ?_)
  refine wl_Ws_lengthOf_L6 C0 hQ (fun x2 x3_1 H locs ls h w hl => ?_) _ _ _ _ _ _ h w (lv_sub hl [1, 0] rfl)
  refine lv_iload_n hx hb dX7_lengthOf_28 rfl (lv_at hl 0 rfl) ?_
  cases h
  exact hQ _ _ _ _ dX7_lengthOf_29 rfl w
theorem dX6_add_0 : decode cX6_add 0 = .ok (.aload_n 0, 1) := by decide +kernel
theorem dX6_add_1 : decode cX6_add 1 = .ok (.getfield 13, 3) := by decide +kernel
theorem dX6_add_4 : decode cX6_add 4 = .ok (.aload_n 0, 1) := by decide +kernel
theorem dX6_add_5 : decode cX6_add 5 = .ok (.getfield 7, 3) := by decide +kernel
theorem dX6_add_8 : decode cX6_add 8 = .ok (.arraylength, 1) := by decide +kernel
theorem dX6_add_9 : decode cX6_add 9 = .ok (.if_icmp .ge 38, 3) := by decide +kernel
theorem dX6_add_12 : decode cX6_add 12 = .ok (.aload_n 0, 1) := by decide +kernel
theorem dX6_add_13 : decode cX6_add 13 = .ok (.getfield 7, 3) := by decide +kernel
theorem dX6_add_16 : decode cX6_add 16 = .ok (.aload_n 0, 1) := by decide +kernel
theorem dX6_add_17 : decode cX6_add 17 = .ok (.getfield 13, 3) := by decide +kernel
theorem dX6_add_20 : decode cX6_add 20 = .ok (.lload_n 1, 1) := by decide +kernel
theorem dX6_add_21 : decode cX6_add 21 = .ok (.lastore, 1) := by decide +kernel
theorem dX6_add_22 : decode cX6_add 22 = .ok (.aload_n 0, 1) := by decide +kernel
theorem dX6_add_23 : decode cX6_add 23 = .ok (.dup, 1) := by decide +kernel
theorem dX6_add_24 : decode cX6_add 24 = .ok (.getfield 13, 3) := by decide +kernel
theorem dX6_add_27 : decode cX6_add 27 = .ok (.iconst 1, 1) := by decide +kernel
theorem dX6_add_28 : decode cX6_add 28 = .ok (.iadd, 1) := by decide +kernel
theorem dX6_add_29 : decode cX6_add 29 = .ok (.putfield 13, 3) := by decide +kernel
theorem dX6_add_32 : decode cX6_add 32 = .ok (.aload_n 0, 1) := by decide +kernel
theorem dX6_add_33 : decode cX6_add 33 = .ok (.aload_n 0, 1) := by decide +kernel
theorem dX6_add_34 : decode cX6_add 34 = .ok (.getfield 17, 3) := by decide +kernel
theorem dX6_add_37 : decode cX6_add 37 = .ok (.lload_n 1, 1) := by decide +kernel
theorem dX6_add_38 : decode cX6_add 38 = .ok (.invokestatic 26, 3) := by decide +kernel
theorem dX6_add_41 : decode cX6_add 41 = .ok (.invokestatic 30, 3) := by decide +kernel
theorem dX6_add_44 : decode cX6_add 44 = .ok (.putfield 17, 3) := by decide +kernel
theorem dX6_add_47 : decode cX6_add 47 = .ok (.return_, 1) := by decide +kernel
set_option maxRecDepth 100000 in
theorem c_WL_add {l : Launch} {D : va_G} {cI cJ cZ cO : ClassId} {q_this q_words : Nat} {n_words : Nat} {x1 : Int64} {v_size : Int32} {v_longest : Int32} {v_words : (Nat → Int64)} {x : (Nat → Int64) × Int32 × Int32} (h : f_WL_add n_words x1 v_size v_longest v_words = some x) : ctV l D cI cJ cZ cO yX6_add cX6_add 3 rm_WL_add [.ref q_this, .long x1] (ws_WL_add cI cJ cZ q_this q_words n_words v_size v_longest v_words) (ws_WL_add cI cJ cZ q_this q_words n_words x.2.1 x.2.2 x.1) := by
  refine ctV_of (by decide) (Nat.le_of_ble_eq_true rfl) ?_
  intro p e s m below meth c Q A ls C0 hQ w hl
  have hl : lv_has ls 3 [(0, .ref q_this), (1, .long x1)] := hl
  generalize List.toArray (α := Value) [.ref q_this, .long x1] = args at C0 hQ ⊢
  obtain ⟨hx, hb, hml, hown, hts, -, -⟩ := id C0
  unfold f_WL_add at h
  refine lv_aload_n hx hb dX6_add_0 rfl (lv_at hl 0 rfl) ?_
  refine r_get C0 w 0 rfl kf_WL 1 (by decide) lf_RX6_13 rfl dX6_add_1 ?_
  refine lv_aload_n hx hb dX6_add_4 rfl (lv_at hl 0 rfl) ?_
  refine r_get C0 w 0 rfl kf_WL 0 (by decide) lf_RX6_7 rfl dX6_add_5 ?_
  refine r_alen C0 w 1 1 rfl rfl rfl dX6_add_8 ?_
  refine lv_icmp_ge (tgt := 47) hx hb dX6_add_9 (by decide) (fun hc => ?_) (fun hc => ?_)
  · have h := if_h hc h
    cases h
    exact hQ _ _ _ _ dX6_add_47 w
  · have h := nf_h hc h
    refine lv_aload_n hx hb dX6_add_12 rfl (lv_at hl 0 rfl) ?_
    refine r_get C0 w 0 rfl kf_WL 0 (by decide) lf_RX6_7 rfl dX6_add_13 ?_
    refine lv_aload_n hx hb dX6_add_16 rfl (lv_at hl 0 rfl) ?_
    refine r_get C0 w 0 rfl kf_WL 1 (by decide) lf_RX6_13 rfl dX6_add_17 ?_
    refine lv_lload_n hx hb dX6_add_20 rfl (lv_at hl 1 rfl) ?_
    obtain ⟨hi, h⟩ := gIn_h h
    obtain ⟨v_words_1, ev_words_1⟩ : ∃ y, y = (vp_updL v_words v_size.toNatClampNeg x1) := ⟨_, rfl⟩
    have h := bnd_at ev_words_1 h
    refine r_last C0 w 1 rfl (f' := v_words_1) rfl hi ev_words_1 dX6_add_21 (ws' := (ws_WL_add cI cJ cZ q_this q_words n_words v_size v_longest v_words_1)) rfl (fun H locs w => ?_)
    refine lv_aload_n hx hb dX6_add_22 rfl (lv_at hl 0 rfl) ?_
    refine lv_dup hx hb dX6_add_23 rfl ?_
    refine r_get C0 w 0 rfl kf_WL 1 (by decide) lf_RX6_13 rfl dX6_add_24 ?_
    refine lv_iconst (v := (1 : Int32)) hx hb dX6_add_27 (by decide) ?_
    refine lv_iadd hx hb dX6_add_28 ?_
    refine lv_topi (fun v_size_1 ev_size_1 => ?_)
    have h := bnd_at ev_size_1 h
    refine r_put C0 w 0 rfl kf_WL 1 (by decide) lf_RX6_13 rfl rfl rfl (Nat.le_of_ble_eq_true rfl) dX6_add_29 (ws' := (ws_WL_add cI cJ cZ q_this q_words n_words v_size_1 v_longest v_words_1)) rfl (fun H locs w => ?_)
    refine lv_aload_n hx hb dX6_add_32 rfl (lv_at hl 0 rfl) ?_
    refine lv_aload_n hx hb dX6_add_33 rfl (lv_at hl 0 rfl) ?_
    refine r_get C0 w 0 rfl kf_WL 2 (by decide) lf_RX6_17 rfl dX6_add_34 ?_
    refine lv_lload_n hx hb dX6_add_37 rfl (lv_at hl 1 rfl) ?_
    obtain ⟨r, hcall, h⟩ := bd1_h h
    obtain ⟨wr, hp, hp'⟩ := rd_of (ws := (ws_WL_add cI cJ cZ q_this q_words n_words v_size_1 v_longest v_words_1)) (wc := (ws_Ws_lengthOf cI cJ cZ)) [] rfl rfl
    refine r_SI (r := r) (As := [.long x1]) (rest := [.int v_longest, .ref q_this]) (wc' := (ws_Ws_lengthOf cI cJ cZ)) (ws' := (ws_WL_add cI cJ cZ q_this q_words n_words v_size_1 v_longest v_words_1)) C0 w (c_Ws_lengthOf hcall) hp hp' lm_RX6_26 ms_Ws_lengthOf ⟨rfl, rfl⟩ ⟨by decide, by decide⟩ ⟨Nat.zero_le _, Nat.zero_le _⟩ rfl hl rfl (Nat.le_of_ble_eq_true rfl) dX6_add_38 (fun H locs w => ?_)
    refine r_max C0 hl lm_RX6_30 mx_st mx_in mx_co ⟨by decide, by decide⟩ (Nat.le_of_ble_eq_true rfl) ⟨Nat.zero_le _, Nat.zero_le _⟩ dX6_add_41 ?_
    refine lv_topi (fun v_longest_1 ev_longest_1 => ?_)
    have h := bnd_at ev_longest_1 h
    refine r_put C0 w 0 rfl kf_WL 2 (by decide) lf_RX6_17 rfl rfl rfl (Nat.le_of_ble_eq_true rfl) dX6_add_44 (ws' := (ws_WL_add cI cJ cZ q_this q_words n_words v_size_1 v_longest_1 v_words_1)) rfl (fun H locs w => ?_)
    cases h
    exact hQ _ _ _ _ dX6_add_47 w
theorem dX6_startAnew_0 : decode cX6_startAnew 0 = .ok (.aload_n 0, 1) := by decide +kernel
theorem dX6_startAnew_1 : decode cX6_startAnew 1 = .ok (.iconst 0, 1) := by decide +kernel
theorem dX6_startAnew_2 : decode cX6_startAnew 2 = .ok (.putfield 13, 3) := by decide +kernel
theorem dX6_startAnew_5 : decode cX6_startAnew 5 = .ok (.aload_n 0, 1) := by decide +kernel
theorem dX6_startAnew_6 : decode cX6_startAnew 6 = .ok (.iconst 0, 1) := by decide +kernel
theorem dX6_startAnew_7 : decode cX6_startAnew 7 = .ok (.putfield 17, 3) := by decide +kernel
theorem dX6_startAnew_10 : decode cX6_startAnew 10 = .ok (.aload_n 0, 1) := by decide +kernel
theorem dX6_startAnew_11 : decode cX6_startAnew 11 = .ok (.lconst 1, 1) := by decide +kernel
theorem dX6_startAnew_12 : decode cX6_startAnew 12 = .ok (.invokevirtual 22, 3) := by decide +kernel
theorem dX6_startAnew_15 : decode cX6_startAnew 15 = .ok (.return_, 1) := by decide +kernel
set_option maxRecDepth 100000 in
theorem c_WL_startAnew {l : Launch} {D : va_G} {cI cJ cZ cO : ClassId} {q_this q_words : Nat} {n_words : Nat} {v_size : Int32} {v_longest : Int32} {v_words : (Nat → Int64)} {x : (Nat → Int64) × Int32 × Int32} (h : f_WL_startAnew n_words v_words = some x) : ctV l D cI cJ cZ cO yX6_startAnew cX6_startAnew 1 rm_WL_startAnew [.ref q_this] (ws_WL_startAnew cI cJ cZ q_this q_words n_words v_size v_longest v_words) (ws_WL_startAnew cI cJ cZ q_this q_words n_words x.2.1 x.2.2 x.1) := by
  refine ctV_of (by decide) (Nat.le_of_ble_eq_true rfl) ?_
  intro p e s m below meth c Q A ls C0 hQ w hl
  have hl : lv_has ls 1 [(0, .ref q_this)] := hl
  generalize List.toArray (α := Value) [.ref q_this] = args at C0 hQ ⊢
  obtain ⟨hx, hb, hml, hown, hts, -, -⟩ := id C0
  unfold f_WL_startAnew at h
  refine lv_aload_n hx hb dX6_startAnew_0 rfl (lv_at hl 0 rfl) ?_
  refine lv_iconst (v := (0 : Int32)) hx hb dX6_startAnew_1 (by decide) ?_
  refine r_put C0 w 0 rfl kf_WL 1 (by decide) lf_RX6_13 rfl rfl rfl (Nat.le_of_ble_eq_true rfl) dX6_startAnew_2 (ws' := (ws_WL_startAnew cI cJ cZ q_this q_words n_words (0 : Int32) v_longest v_words)) rfl (fun H locs w => ?_)
  refine lv_aload_n hx hb dX6_startAnew_5 rfl (lv_at hl 0 rfl) ?_
  refine lv_iconst (v := (0 : Int32)) hx hb dX6_startAnew_6 (by decide) ?_
  refine r_put C0 w 0 rfl kf_WL 2 (by decide) lf_RX6_17 rfl rfl rfl (Nat.le_of_ble_eq_true rfl) dX6_startAnew_7 (ws' := (ws_WL_startAnew cI cJ cZ q_this q_words n_words (0 : Int32) (0 : Int32) v_words)) rfl (fun H locs w => ?_)
  refine lv_aload_n hx hb dX6_startAnew_10 rfl (lv_at hl 0 rfl) ?_
  refine lv_lconst (v := (1 : Int64)) hx hb dX6_startAnew_11 (by decide) ?_
  obtain ⟨v_words_1, v_size_1, v_longest_1, hcall, h⟩ := bd3_h h
  have hp := sp_of (ws := (ws_WL_startAnew cI cJ cZ q_this q_words n_words (0 : Int32) (0 : Int32) v_words)) (wc := (ws_WL_add cI cJ cZ q_this q_words n_words (0 : Int32) (0 : Int32) v_words)) [0, 1] [] rfl rfl
  have hp' : Rp (pk (ws_WL_startAnew cI cJ cZ q_this q_words n_words (0 : Int32) (0 : Int32) v_words) [] ++ (ws_WL_add cI cJ cZ q_this q_words n_words v_size_1 v_longest_1 v_words_1)) (ws_WL_startAnew cI cJ cZ q_this q_words n_words v_size_1 v_longest_1 v_words_1) := ⟨[0, 1], rfl, rfl⟩
  refine r_VV (As := [.long (1 : Int64)]) (rest := []) (wc' := (ws_WL_add cI cJ cZ q_this q_words n_words v_size_1 v_longest_1 v_words_1)) (ws' := (ws_WL_startAnew cI cJ cZ q_this q_words n_words v_size_1 v_longest_1 v_words_1)) C0 w (c_WL_add hcall) hp hp' lm_RX6_22 mv_WL_add ⟨rfl, rfl⟩ ⟨by decide, by decide⟩ ⟨Nat.zero_le _, Nat.zero_le _⟩ (q0 := 0) rfl rfl rfl rfl hl rfl (Nat.le_of_ble_eq_true rfl) dX6_startAnew_12 (fun H locs w => ?_)
  cases h
  exact hQ _ _ _ _ dX6_startAnew_15 w
theorem dX4_startAnew_0 : decode cX4_startAnew 0 = .ok (.aload_n 0, 1) := by decide +kernel
theorem dX4_startAnew_1 : decode cX4_startAnew 1 = .ok (.iload_n 1, 1) := by decide +kernel
theorem dX4_startAnew_2 : decode cX4_startAnew 2 = .ok (.putfield 30, 3) := by decide +kernel
theorem dX4_startAnew_5 : decode cX4_startAnew 5 = .ok (.aload_n 0, 1) := by decide +kernel
theorem dX4_startAnew_6 : decode cX4_startAnew 6 = .ok (.getfield 14, 3) := by decide +kernel
theorem dX4_startAnew_9 : decode cX4_startAnew 9 = .ok (.invokevirtual 34, 3) := by decide +kernel
theorem dX4_startAnew_12 : decode cX4_startAnew 12 = .ok (.aload_n 0, 1) := by decide +kernel
theorem dX4_startAnew_13 : decode cX4_startAnew 13 = .ok (.getfield 20, 3) := by decide +kernel
theorem dX4_startAnew_16 : decode cX4_startAnew 16 = .ok (.invokevirtual 34, 3) := by decide +kernel
theorem dX4_startAnew_19 : decode cX4_startAnew 19 = .ok (.aload_n 0, 1) := by decide +kernel
theorem dX4_startAnew_20 : decode cX4_startAnew 20 = .ok (.getfield 23, 3) := by decide +kernel
theorem dX4_startAnew_23 : decode cX4_startAnew 23 = .ok (.iconst 0, 1) := by decide +kernel
theorem dX4_startAnew_24 : decode cX4_startAnew 24 = .ok (.invokestatic 37, 3) := by decide +kernel
theorem dX4_startAnew_27 : decode cX4_startAnew 27 = .ok (.aload_n 0, 1) := by decide +kernel
theorem dX4_startAnew_28 : decode cX4_startAnew 28 = .ok (.getfield 27, 3) := by decide +kernel
theorem dX4_startAnew_31 : decode cX4_startAnew 31 = .ok (.iconst 0, 1) := by decide +kernel
theorem dX4_startAnew_32 : decode cX4_startAnew 32 = .ok (.invokestatic 37, 3) := by decide +kernel
theorem dX4_startAnew_35 : decode cX4_startAnew 35 = .ok (.return_, 1) := by decide +kernel
set_option maxRecDepth 100000 in
theorem c_Ta_startAnew {l : Launch} {D : va_G} {cI cJ cZ cO : ClassId} {q_this q_prefixes q_suffixes q_known q_bits q_prefixes_words q_suffixes_words : Nat} {x1 : Int32} {v_letters : Int32} {v_prefixes_size : Int32} {v_prefixes_longest : Int32} {v_prefixes_words : (Nat → Int64)} {v_suffixes_size : Int32} {v_suffixes_longest : Int32} {v_suffixes_words : (Nat → Int64)} {v_known : (Nat → Int32)} {v_bits : (Nat → Int32)} {x : (Nat → Int64) × Int32 × Int32 × (Nat → Int64) × Int32 × Int32 × (Nat → Int32) × (Nat → Int32) × Int32} (h : f_Ta_startAnew x1 v_prefixes_words v_suffixes_words v_known v_bits = some x) : ctV l D cI cJ cZ cO yX4_startAnew cX4_startAnew 2 rm_Ta_startAnew [.ref q_this, .int x1] (ws_Ta_startAnew cI cJ cZ q_this q_prefixes q_suffixes q_known q_bits q_prefixes_words q_suffixes_words v_letters v_prefixes_size v_prefixes_longest v_prefixes_words v_suffixes_size v_suffixes_longest v_suffixes_words v_known v_bits) (ws_Ta_startAnew cI cJ cZ q_this q_prefixes q_suffixes q_known q_bits q_prefixes_words q_suffixes_words x.2.2.2.2.2.2.2.2 x.2.1 x.2.2.1 x.1 x.2.2.2.2.1 x.2.2.2.2.2.1 x.2.2.2.1 x.2.2.2.2.2.2.1 x.2.2.2.2.2.2.2.1) := by
  refine ctV_of (by decide) (Nat.le_of_ble_eq_true rfl) ?_
  intro p e s m below meth c Q A ls C0 hQ w hl
  have hl : lv_has ls 2 [(0, .ref q_this), (1, .int x1)] := hl
  generalize List.toArray (α := Value) [.ref q_this, .int x1] = args at C0 hQ ⊢
  obtain ⟨hx, hb, hml, hown, hts, -, -⟩ := id C0
  unfold f_Ta_startAnew at h
  refine lv_aload_n hx hb dX4_startAnew_0 rfl (lv_at hl 0 rfl) ?_
  refine lv_iload_n hx hb dX4_startAnew_1 rfl (lv_at hl 1 rfl) ?_
  refine r_put C0 w 0 rfl kf_Ta 4 (by decide) lf_RX4_30 rfl rfl rfl (Nat.le_of_ble_eq_true rfl) dX4_startAnew_2 (ws' := (ws_Ta_startAnew cI cJ cZ q_this q_prefixes q_suffixes q_known q_bits q_prefixes_words q_suffixes_words x1 v_prefixes_size v_prefixes_longest v_prefixes_words v_suffixes_size v_suffixes_longest v_suffixes_words v_known v_bits)) rfl (fun H locs w => ?_)
  refine lv_aload_n hx hb dX4_startAnew_5 rfl (lv_at hl 0 rfl) ?_
  refine r_get C0 w 0 rfl kf_Ta 0 (by decide) lf_RX4_14 rfl dX4_startAnew_6 ?_
  obtain ⟨v_prefixes_words_1, v_prefixes_size_1, v_prefixes_longest_1, hcall, h⟩ := bd3_h h
  have hp := sp_of (ws := (ws_Ta_startAnew cI cJ cZ q_this q_prefixes q_suffixes q_known q_bits q_prefixes_words q_suffixes_words x1 v_prefixes_size v_prefixes_longest v_prefixes_words v_suffixes_size v_suffixes_longest v_suffixes_words v_known v_bits)) (wc := (ws_WL_startAnew cI cJ cZ q_prefixes q_prefixes_words 40 v_prefixes_size v_prefixes_longest v_prefixes_words)) [1, 2] [0, 3, 4, 5, 6] rfl rfl
  have hp' : Rp (pk (ws_Ta_startAnew cI cJ cZ q_this q_prefixes q_suffixes q_known q_bits q_prefixes_words q_suffixes_words x1 v_prefixes_size v_prefixes_longest v_prefixes_words v_suffixes_size v_suffixes_longest v_suffixes_words v_known v_bits) [0, 3, 4, 5, 6] ++ (ws_WL_startAnew cI cJ cZ q_prefixes q_prefixes_words 40 v_prefixes_size_1 v_prefixes_longest_1 v_prefixes_words_1)) (ws_Ta_startAnew cI cJ cZ q_this q_prefixes q_suffixes q_known q_bits q_prefixes_words q_suffixes_words x1 v_prefixes_size_1 v_prefixes_longest_1 v_prefixes_words_1 v_suffixes_size v_suffixes_longest v_suffixes_words v_known v_bits) := ⟨[0, 5, 6, 1, 2, 3, 4], rfl, rfl⟩
  refine r_VV (As := []) (rest := []) (wc' := (ws_WL_startAnew cI cJ cZ q_prefixes q_prefixes_words 40 v_prefixes_size_1 v_prefixes_longest_1 v_prefixes_words_1)) (ws' := (ws_Ta_startAnew cI cJ cZ q_this q_prefixes q_suffixes q_known q_bits q_prefixes_words q_suffixes_words x1 v_prefixes_size_1 v_prefixes_longest_1 v_prefixes_words_1 v_suffixes_size v_suffixes_longest v_suffixes_words v_known v_bits)) C0 w (c_WL_startAnew hcall) hp hp' lm_RX4_34 mv_WL_startAnew ⟨rfl, rfl⟩ ⟨by decide, by decide⟩ ⟨Nat.zero_le _, Nat.zero_le _⟩ (q0 := 1) rfl rfl rfl rfl hl rfl (Nat.le_of_ble_eq_true rfl) dX4_startAnew_9 (fun H locs w => ?_)
  refine lv_aload_n hx hb dX4_startAnew_12 rfl (lv_at hl 0 rfl) ?_
  refine r_get C0 w 0 rfl kf_Ta 1 (by decide) lf_RX4_20 rfl dX4_startAnew_13 ?_
  obtain ⟨v_suffixes_words_1, v_suffixes_size_1, v_suffixes_longest_1, hcall, h⟩ := bd3_h h
  have hp := sp_of (ws := (ws_Ta_startAnew cI cJ cZ q_this q_prefixes q_suffixes q_known q_bits q_prefixes_words q_suffixes_words x1 v_prefixes_size_1 v_prefixes_longest_1 v_prefixes_words_1 v_suffixes_size v_suffixes_longest v_suffixes_words v_known v_bits)) (wc := (ws_WL_startAnew cI cJ cZ q_suffixes q_suffixes_words 16 v_suffixes_size v_suffixes_longest v_suffixes_words)) [3, 4] [0, 1, 2, 5, 6] rfl rfl
  have hp' : Rp (pk (ws_Ta_startAnew cI cJ cZ q_this q_prefixes q_suffixes q_known q_bits q_prefixes_words q_suffixes_words x1 v_prefixes_size_1 v_prefixes_longest_1 v_prefixes_words_1 v_suffixes_size v_suffixes_longest v_suffixes_words v_known v_bits) [0, 1, 2, 5, 6] ++ (ws_WL_startAnew cI cJ cZ q_suffixes q_suffixes_words 16 v_suffixes_size_1 v_suffixes_longest_1 v_suffixes_words_1)) (ws_Ta_startAnew cI cJ cZ q_this q_prefixes q_suffixes q_known q_bits q_prefixes_words q_suffixes_words x1 v_prefixes_size_1 v_prefixes_longest_1 v_prefixes_words_1 v_suffixes_size_1 v_suffixes_longest_1 v_suffixes_words_1 v_known v_bits) := ⟨[0, 1, 2, 5, 6, 3, 4], rfl, rfl⟩
  refine r_VV (As := []) (rest := []) (wc' := (ws_WL_startAnew cI cJ cZ q_suffixes q_suffixes_words 16 v_suffixes_size_1 v_suffixes_longest_1 v_suffixes_words_1)) (ws' := (ws_Ta_startAnew cI cJ cZ q_this q_prefixes q_suffixes q_known q_bits q_prefixes_words q_suffixes_words x1 v_prefixes_size_1 v_prefixes_longest_1 v_prefixes_words_1 v_suffixes_size_1 v_suffixes_longest_1 v_suffixes_words_1 v_known v_bits)) C0 w (c_WL_startAnew hcall) hp hp' lm_RX4_34 mv_WL_startAnew ⟨rfl, rfl⟩ ⟨by decide, by decide⟩ ⟨Nat.zero_le _, Nat.zero_le _⟩ (q0 := 3) rfl rfl rfl rfl hl rfl (Nat.le_of_ble_eq_true rfl) dX4_startAnew_16 (fun H locs w => ?_)
  refine lv_aload_n hx hb dX4_startAnew_19 rfl (lv_at hl 0 rfl) ?_
  refine r_get C0 w 0 rfl kf_Ta 2 (by decide) lf_RX4_23 rfl dX4_startAnew_20 ?_
  refine lv_iconst (v := (0 : Int32)) hx hb dX4_startAnew_23 (by decide) ?_
  obtain ⟨v_known_1, hcall, h⟩ := bd1_h h
  have hp := sp_of (ws := (ws_Ta_startAnew cI cJ cZ q_this q_prefixes q_suffixes q_known q_bits q_prefixes_words q_suffixes_words x1 v_prefixes_size_1 v_prefixes_longest_1 v_prefixes_words_1 v_suffixes_size_1 v_suffixes_longest_1 v_suffixes_words_1 v_known v_bits)) (wc := (ws_Ar_fill cI cJ cZ q_known 160 v_known)) [5] [0, 1, 2, 3, 4, 6] rfl rfl
  have hp' : Rp (pk (ws_Ta_startAnew cI cJ cZ q_this q_prefixes q_suffixes q_known q_bits q_prefixes_words q_suffixes_words x1 v_prefixes_size_1 v_prefixes_longest_1 v_prefixes_words_1 v_suffixes_size_1 v_suffixes_longest_1 v_suffixes_words_1 v_known v_bits) [0, 1, 2, 3, 4, 6] ++ (ws_Ar_fill cI cJ cZ q_known 160 v_known_1)) (ws_Ta_startAnew cI cJ cZ q_this q_prefixes q_suffixes q_known q_bits q_prefixes_words q_suffixes_words x1 v_prefixes_size_1 v_prefixes_longest_1 v_prefixes_words_1 v_suffixes_size_1 v_suffixes_longest_1 v_suffixes_words_1 v_known_1 v_bits) := ⟨[0, 1, 2, 3, 4, 6, 5], rfl, rfl⟩
  refine r_SV (As := [.ref q_known, .int (0 : Int32)]) (rest := []) (wc' := (ws_Ar_fill cI cJ cZ q_known 160 v_known_1)) (ws' := (ws_Ta_startAnew cI cJ cZ q_this q_prefixes q_suffixes q_known q_bits q_prefixes_words q_suffixes_words x1 v_prefixes_size_1 v_prefixes_longest_1 v_prefixes_words_1 v_suffixes_size_1 v_suffixes_longest_1 v_suffixes_words_1 v_known_1 v_bits)) C0 w (c_Ar_fill hcall) hp hp' lm_RX4_37 ms_Ar_fill ⟨rfl, rfl⟩ ⟨by decide, by decide⟩ ⟨Nat.zero_le _, Nat.zero_le _⟩ rfl hl rfl (Nat.le_of_ble_eq_true rfl) dX4_startAnew_24 (fun H locs w => ?_)
  refine lv_aload_n hx hb dX4_startAnew_27 rfl (lv_at hl 0 rfl) ?_
  refine r_get C0 w 0 rfl kf_Ta 3 (by decide) lf_RX4_27 rfl dX4_startAnew_28 ?_
  refine lv_iconst (v := (0 : Int32)) hx hb dX4_startAnew_31 (by decide) ?_
  obtain ⟨v_bits_1, hcall, h⟩ := bd1_h h
  have hp := sp_of (ws := (ws_Ta_startAnew cI cJ cZ q_this q_prefixes q_suffixes q_known q_bits q_prefixes_words q_suffixes_words x1 v_prefixes_size_1 v_prefixes_longest_1 v_prefixes_words_1 v_suffixes_size_1 v_suffixes_longest_1 v_suffixes_words_1 v_known_1 v_bits)) (wc := (ws_Ar_fill cI cJ cZ q_bits 160 v_bits)) [6] [0, 1, 2, 3, 4, 5] rfl rfl
  have hp' : Rp (pk (ws_Ta_startAnew cI cJ cZ q_this q_prefixes q_suffixes q_known q_bits q_prefixes_words q_suffixes_words x1 v_prefixes_size_1 v_prefixes_longest_1 v_prefixes_words_1 v_suffixes_size_1 v_suffixes_longest_1 v_suffixes_words_1 v_known_1 v_bits) [0, 1, 2, 3, 4, 5] ++ (ws_Ar_fill cI cJ cZ q_bits 160 v_bits_1)) (ws_Ta_startAnew cI cJ cZ q_this q_prefixes q_suffixes q_known q_bits q_prefixes_words q_suffixes_words x1 v_prefixes_size_1 v_prefixes_longest_1 v_prefixes_words_1 v_suffixes_size_1 v_suffixes_longest_1 v_suffixes_words_1 v_known_1 v_bits_1) := ⟨[0, 1, 2, 3, 4, 5, 6], rfl, rfl⟩
  refine r_SV (As := [.ref q_bits, .int (0 : Int32)]) (rest := []) (wc' := (ws_Ar_fill cI cJ cZ q_bits 160 v_bits_1)) (ws' := (ws_Ta_startAnew cI cJ cZ q_this q_prefixes q_suffixes q_known q_bits q_prefixes_words q_suffixes_words x1 v_prefixes_size_1 v_prefixes_longest_1 v_prefixes_words_1 v_suffixes_size_1 v_suffixes_longest_1 v_suffixes_words_1 v_known_1 v_bits_1)) C0 w (c_Ar_fill hcall) hp hp' lm_RX4_37 ms_Ar_fill ⟨rfl, rfl⟩ ⟨by decide, by decide⟩ ⟨Nat.zero_le _, Nat.zero_le _⟩ rfl hl rfl (Nat.le_of_ble_eq_true rfl) dX4_startAnew_32 (fun H locs w => ?_)
  cases h
  exact hQ _ _ _ _ dX4_startAnew_35 w
theorem dX1_startAnew_0 : decode cX1_startAnew 0 = .ok (.aload_n 0, 1) := by decide +kernel
theorem dX1_startAnew_1 : decode cX1_startAnew 1 = .ok (.getfield 12, 3) := by decide +kernel
theorem dX1_startAnew_4 : decode cX1_startAnew 4 = .ok (.iconst 0, 1) := by decide +kernel
theorem dX1_startAnew_5 : decode cX1_startAnew 5 = .ok (.putfield 61, 3) := by decide +kernel
theorem dX1_startAnew_8 : decode cX1_startAnew 8 = .ok (.aload_n 0, 1) := by decide +kernel
theorem dX1_startAnew_9 : decode cX1_startAnew 9 = .ok (.getfield 21, 3) := by decide +kernel
theorem dX1_startAnew_12 : decode cX1_startAnew 12 = .ok (.iload_n 1, 1) := by decide +kernel
theorem dX1_startAnew_13 : decode cX1_startAnew 13 = .ok (.invokevirtual 64, 3) := by decide +kernel
theorem dX1_startAnew_16 : decode cX1_startAnew 16 = .ok (.aload_n 0, 1) := by decide +kernel
theorem dX1_startAnew_17 : decode cX1_startAnew 17 = .ok (.getfield 30, 3) := by decide +kernel
theorem dX1_startAnew_20 : decode cX1_startAnew 20 = .ok (.iconst 0, 1) := by decide +kernel
theorem dX1_startAnew_21 : decode cX1_startAnew 21 = .ok (.iload_n 1, 1) := by decide +kernel
theorem dX1_startAnew_22 : decode cX1_startAnew 22 = .ok (.invokevirtual 67, 3) := by decide +kernel
theorem dX1_startAnew_25 : decode cX1_startAnew 25 = .ok (.aload_n 0, 1) := by decide +kernel
theorem dX1_startAnew_26 : decode cX1_startAnew 26 = .ok (.iconst 0, 1) := by decide +kernel
theorem dX1_startAnew_27 : decode cX1_startAnew 27 = .ok (.putfield 45, 3) := by decide +kernel
theorem dX1_startAnew_30 : decode cX1_startAnew 30 = .ok (.aload_n 0, 1) := by decide +kernel
theorem dX1_startAnew_31 : decode cX1_startAnew 31 = .ok (.ldc2_w 49, 3) := by decide +kernel
theorem dX1_startAnew_34 : decode cX1_startAnew 34 = .ok (.putfield 51, 3) := by decide +kernel
theorem dX1_startAnew_37 : decode cX1_startAnew 37 = .ok (.aload_n 0, 1) := by decide +kernel
theorem dX1_startAnew_38 : decode cX1_startAnew 38 = .ok (.iconst 0, 1) := by decide +kernel
theorem dX1_startAnew_39 : decode cX1_startAnew 39 = .ok (.putfield 55, 3) := by decide +kernel
theorem dX1_startAnew_42 : decode cX1_startAnew 42 = .ok (.aload_n 0, 1) := by decide +kernel
theorem dX1_startAnew_43 : decode cX1_startAnew 43 = .ok (.iconst 0, 1) := by decide +kernel
theorem dX1_startAnew_44 : decode cX1_startAnew 44 = .ok (.putfield 58, 3) := by decide +kernel
theorem dX1_startAnew_47 : decode cX1_startAnew 47 = .ok (.return_, 1) := by decide +kernel
set_option maxRecDepth 100000 in
theorem c_Le_startAnew {l : Launch} {D : va_G} {cI cJ cZ cO : ClassId} {q_this q_asked q_table q_hypothesis q_representatives q_asked_entries q_table_prefixes q_table_suffixes q_table_known q_table_bits q_table_prefixes_words q_table_suffixes_words q_hypothesis_moves q_hypothesis_finals : Nat} {x1 : Int32} {v_mode : Int32} {v_budget : Int32} {v_formed : Int32} {v_counterexample : Int64} {v_corrections : Int32} {v_deceived : Int32} {v_asked_size : Int32} {v_table_letters : Int32} {v_table_prefixes_size : Int32} {v_table_prefixes_longest : Int32} {v_table_prefixes_words : (Nat → Int64)} {v_table_suffixes_size : Int32} {v_table_suffixes_longest : Int32} {v_table_suffixes_words : (Nat → Int64)} {v_table_known : (Nat → Int32)} {v_table_bits : (Nat → Int32)} {v_hypothesis_size : Int32} {v_hypothesis_letters : Int32} {v_hypothesis_moves : (Nat → Int32)} {v_hypothesis_finals : (Nat → Int32)} {x : Int32 × (Nat → Int64) × Int32 × Int32 × (Nat → Int64) × Int32 × Int32 × (Nat → Int32) × (Nat → Int32) × Int32 × (Nat → Int32) × (Nat → Int32) × Int32 × Int32 × Int32 × Int64 × Int32 × Int32} (h : f_Le_startAnew x1 v_table_prefixes_words v_table_suffixes_words v_table_known v_table_bits v_hypothesis_moves v_hypothesis_finals = some x) : ctV l D cI cJ cZ cO yX1_startAnew cX1_startAnew 2 rm_Le_startAnew [.ref q_this, .int x1] (ws_Le_startAnew cI cJ cZ q_this q_asked q_table q_hypothesis q_representatives q_asked_entries q_table_prefixes q_table_suffixes q_table_known q_table_bits q_table_prefixes_words q_table_suffixes_words q_hypothesis_moves q_hypothesis_finals v_mode v_budget v_formed v_counterexample v_corrections v_deceived v_asked_size v_table_letters v_table_prefixes_size v_table_prefixes_longest v_table_prefixes_words v_table_suffixes_size v_table_suffixes_longest v_table_suffixes_words v_table_known v_table_bits v_hypothesis_size v_hypothesis_letters v_hypothesis_moves v_hypothesis_finals) (ws_Le_startAnew cI cJ cZ q_this q_asked q_table q_hypothesis q_representatives q_asked_entries q_table_prefixes q_table_suffixes q_table_known q_table_bits q_table_prefixes_words q_table_suffixes_words q_hypothesis_moves q_hypothesis_finals v_mode v_budget x.2.2.2.2.2.2.2.2.2.2.2.2.2.2.1 x.2.2.2.2.2.2.2.2.2.2.2.2.2.2.2.1 x.2.2.2.2.2.2.2.2.2.2.2.2.2.2.2.2.1 x.2.2.2.2.2.2.2.2.2.2.2.2.2.2.2.2.2 x.1 x.2.2.2.2.2.2.2.2.2.1 x.2.2.1 x.2.2.2.1 x.2.1 x.2.2.2.2.2.1 x.2.2.2.2.2.2.1 x.2.2.2.2.1 x.2.2.2.2.2.2.2.1 x.2.2.2.2.2.2.2.2.1 x.2.2.2.2.2.2.2.2.2.2.2.2.1 x.2.2.2.2.2.2.2.2.2.2.2.2.2.1 x.2.2.2.2.2.2.2.2.2.2.1 x.2.2.2.2.2.2.2.2.2.2.2.1) := by
  refine ctV_of (by decide) (Nat.le_of_ble_eq_true rfl) ?_
  intro p e s m below meth c Q A ls C0 hQ w hl
  have hl : lv_has ls 2 [(0, .ref q_this), (1, .int x1)] := hl
  generalize List.toArray (α := Value) [.ref q_this, .int x1] = args at C0 hQ ⊢
  obtain ⟨hx, hb, hml, hown, hts, -, -⟩ := id C0
  unfold f_Le_startAnew at h
  refine lv_aload_n hx hb dX1_startAnew_0 rfl (lv_at hl 0 rfl) ?_
  refine r_get C0 w 0 rfl kf_Le 0 (by decide) lf_RX1_12 rfl dX1_startAnew_1 ?_
  refine lv_iconst (v := (0 : Int32)) hx hb dX1_startAnew_4 (by decide) ?_
  refine r_put C0 w 1 rfl kf_Qu 1 (by decide) lf_RX1_61 rfl rfl rfl (Nat.le_of_ble_eq_true rfl) dX1_startAnew_5 (ws' := (ws_Le_startAnew cI cJ cZ q_this q_asked q_table q_hypothesis q_representatives q_asked_entries q_table_prefixes q_table_suffixes q_table_known q_table_bits q_table_prefixes_words q_table_suffixes_words q_hypothesis_moves q_hypothesis_finals v_mode v_budget v_formed v_counterexample v_corrections v_deceived (0 : Int32) v_table_letters v_table_prefixes_size v_table_prefixes_longest v_table_prefixes_words v_table_suffixes_size v_table_suffixes_longest v_table_suffixes_words v_table_known v_table_bits v_hypothesis_size v_hypothesis_letters v_hypothesis_moves v_hypothesis_finals)) rfl (fun H locs w => ?_)
  refine lv_aload_n hx hb dX1_startAnew_8 rfl (lv_at hl 0 rfl) ?_
  refine r_get C0 w 0 rfl kf_Le 1 (by decide) lf_RX1_21 rfl dX1_startAnew_9 ?_
  refine lv_iload_n hx hb dX1_startAnew_12 rfl (lv_at hl 1 rfl) ?_
  obtain ⟨v_table_prefixes_words_1, v_table_prefixes_size_1, v_table_prefixes_longest_1, v_table_suffixes_words_1, v_table_suffixes_size_1, v_table_suffixes_longest_1, v_table_known_1, v_table_bits_1, v_table_letters_1, hcall, h⟩ := bd9_h h
  have hp := sp_of (ws := (ws_Le_startAnew cI cJ cZ q_this q_asked q_table q_hypothesis q_representatives q_asked_entries q_table_prefixes q_table_suffixes q_table_known q_table_bits q_table_prefixes_words q_table_suffixes_words q_hypothesis_moves q_hypothesis_finals v_mode v_budget v_formed v_counterexample v_corrections v_deceived (0 : Int32) v_table_letters v_table_prefixes_size v_table_prefixes_longest v_table_prefixes_words v_table_suffixes_size v_table_suffixes_longest v_table_suffixes_words v_table_known v_table_bits v_hypothesis_size v_hypothesis_letters v_hypothesis_moves v_hypothesis_finals)) (wc := (ws_Ta_startAnew cI cJ cZ q_table q_table_prefixes q_table_suffixes q_table_known q_table_bits q_table_prefixes_words q_table_suffixes_words v_table_letters v_table_prefixes_size v_table_prefixes_longest v_table_prefixes_words v_table_suffixes_size v_table_suffixes_longest v_table_suffixes_words v_table_known v_table_bits)) [2, 3, 4, 5, 6, 7, 8] [0, 1, 9, 10, 11] rfl rfl
  have hp' : Rp (pk (ws_Le_startAnew cI cJ cZ q_this q_asked q_table q_hypothesis q_representatives q_asked_entries q_table_prefixes q_table_suffixes q_table_known q_table_bits q_table_prefixes_words q_table_suffixes_words q_hypothesis_moves q_hypothesis_finals v_mode v_budget v_formed v_counterexample v_corrections v_deceived (0 : Int32) v_table_letters v_table_prefixes_size v_table_prefixes_longest v_table_prefixes_words v_table_suffixes_size v_table_suffixes_longest v_table_suffixes_words v_table_known v_table_bits v_hypothesis_size v_hypothesis_letters v_hypothesis_moves v_hypothesis_finals) [0, 1, 9, 10, 11] ++ (ws_Ta_startAnew cI cJ cZ q_table q_table_prefixes q_table_suffixes q_table_known q_table_bits q_table_prefixes_words q_table_suffixes_words v_table_letters_1 v_table_prefixes_size_1 v_table_prefixes_longest_1 v_table_prefixes_words_1 v_table_suffixes_size_1 v_table_suffixes_longest_1 v_table_suffixes_words_1 v_table_known_1 v_table_bits_1)) (ws_Le_startAnew cI cJ cZ q_this q_asked q_table q_hypothesis q_representatives q_asked_entries q_table_prefixes q_table_suffixes q_table_known q_table_bits q_table_prefixes_words q_table_suffixes_words q_hypothesis_moves q_hypothesis_finals v_mode v_budget v_formed v_counterexample v_corrections v_deceived (0 : Int32) v_table_letters_1 v_table_prefixes_size_1 v_table_prefixes_longest_1 v_table_prefixes_words_1 v_table_suffixes_size_1 v_table_suffixes_longest_1 v_table_suffixes_words_1 v_table_known_1 v_table_bits_1 v_hypothesis_size v_hypothesis_letters v_hypothesis_moves v_hypothesis_finals) := ⟨[0, 1, 5, 6, 7, 8, 9, 10, 11, 2, 3, 4], rfl, rfl⟩
  refine r_VV (As := [.int x1]) (rest := []) (wc' := (ws_Ta_startAnew cI cJ cZ q_table q_table_prefixes q_table_suffixes q_table_known q_table_bits q_table_prefixes_words q_table_suffixes_words v_table_letters_1 v_table_prefixes_size_1 v_table_prefixes_longest_1 v_table_prefixes_words_1 v_table_suffixes_size_1 v_table_suffixes_longest_1 v_table_suffixes_words_1 v_table_known_1 v_table_bits_1)) (ws' := (ws_Le_startAnew cI cJ cZ q_this q_asked q_table q_hypothesis q_representatives q_asked_entries q_table_prefixes q_table_suffixes q_table_known q_table_bits q_table_prefixes_words q_table_suffixes_words q_hypothesis_moves q_hypothesis_finals v_mode v_budget v_formed v_counterexample v_corrections v_deceived (0 : Int32) v_table_letters_1 v_table_prefixes_size_1 v_table_prefixes_longest_1 v_table_prefixes_words_1 v_table_suffixes_size_1 v_table_suffixes_longest_1 v_table_suffixes_words_1 v_table_known_1 v_table_bits_1 v_hypothesis_size v_hypothesis_letters v_hypothesis_moves v_hypothesis_finals)) C0 w (c_Ta_startAnew hcall) hp hp' lm_RX1_64 mv_Ta_startAnew ⟨rfl, rfl⟩ ⟨by decide, by decide⟩ ⟨Nat.zero_le _, Nat.zero_le _⟩ (q0 := 2) rfl rfl rfl rfl hl rfl (Nat.le_of_ble_eq_true rfl) dX1_startAnew_13 (fun H locs w => ?_)
  refine lv_aload_n hx hb dX1_startAnew_16 rfl (lv_at hl 0 rfl) ?_
  refine r_get C0 w 0 rfl kf_Le 2 (by decide) lf_RX1_30 rfl dX1_startAnew_17 ?_
  refine lv_iconst (v := (0 : Int32)) hx hb dX1_startAnew_20 (by decide) ?_
  refine lv_iload_n hx hb dX1_startAnew_21 rfl (lv_at hl 1 rfl) ?_
  obtain ⟨v_hypothesis_moves_1, v_hypothesis_finals_1, v_hypothesis_size_1, v_hypothesis_letters_1, hcall, h⟩ := bd4_h h
  have hp := sp_of (ws := (ws_Le_startAnew cI cJ cZ q_this q_asked q_table q_hypothesis q_representatives q_asked_entries q_table_prefixes q_table_suffixes q_table_known q_table_bits q_table_prefixes_words q_table_suffixes_words q_hypothesis_moves q_hypothesis_finals v_mode v_budget v_formed v_counterexample v_corrections v_deceived (0 : Int32) v_table_letters_1 v_table_prefixes_size_1 v_table_prefixes_longest_1 v_table_prefixes_words_1 v_table_suffixes_size_1 v_table_suffixes_longest_1 v_table_suffixes_words_1 v_table_known_1 v_table_bits_1 v_hypothesis_size v_hypothesis_letters v_hypothesis_moves v_hypothesis_finals)) (wc := (ws_Au_shape cI cJ cZ q_hypothesis q_hypothesis_moves q_hypothesis_finals 120 40 v_hypothesis_size v_hypothesis_letters v_hypothesis_moves v_hypothesis_finals)) [9, 10, 11] [0, 1, 2, 3, 4, 5, 6, 7, 8] rfl rfl
  have hp' : Rp (pk (ws_Le_startAnew cI cJ cZ q_this q_asked q_table q_hypothesis q_representatives q_asked_entries q_table_prefixes q_table_suffixes q_table_known q_table_bits q_table_prefixes_words q_table_suffixes_words q_hypothesis_moves q_hypothesis_finals v_mode v_budget v_formed v_counterexample v_corrections v_deceived (0 : Int32) v_table_letters_1 v_table_prefixes_size_1 v_table_prefixes_longest_1 v_table_prefixes_words_1 v_table_suffixes_size_1 v_table_suffixes_longest_1 v_table_suffixes_words_1 v_table_known_1 v_table_bits_1 v_hypothesis_size v_hypothesis_letters v_hypothesis_moves v_hypothesis_finals) [0, 1, 2, 3, 4, 5, 6, 7, 8] ++ (ws_Au_shape cI cJ cZ q_hypothesis q_hypothesis_moves q_hypothesis_finals 120 40 v_hypothesis_size_1 v_hypothesis_letters_1 v_hypothesis_moves_1 v_hypothesis_finals_1)) (ws_Le_startAnew cI cJ cZ q_this q_asked q_table q_hypothesis q_representatives q_asked_entries q_table_prefixes q_table_suffixes q_table_known q_table_bits q_table_prefixes_words q_table_suffixes_words q_hypothesis_moves q_hypothesis_finals v_mode v_budget v_formed v_counterexample v_corrections v_deceived (0 : Int32) v_table_letters_1 v_table_prefixes_size_1 v_table_prefixes_longest_1 v_table_prefixes_words_1 v_table_suffixes_size_1 v_table_suffixes_longest_1 v_table_suffixes_words_1 v_table_known_1 v_table_bits_1 v_hypothesis_size_1 v_hypothesis_letters_1 v_hypothesis_moves_1 v_hypothesis_finals_1) := ⟨[0, 1, 2, 3, 4, 5, 6, 7, 8, 9, 10, 11], rfl, rfl⟩
  refine r_VV (As := [.int (0 : Int32), .int x1]) (rest := []) (wc' := (ws_Au_shape cI cJ cZ q_hypothesis q_hypothesis_moves q_hypothesis_finals 120 40 v_hypothesis_size_1 v_hypothesis_letters_1 v_hypothesis_moves_1 v_hypothesis_finals_1)) (ws' := (ws_Le_startAnew cI cJ cZ q_this q_asked q_table q_hypothesis q_representatives q_asked_entries q_table_prefixes q_table_suffixes q_table_known q_table_bits q_table_prefixes_words q_table_suffixes_words q_hypothesis_moves q_hypothesis_finals v_mode v_budget v_formed v_counterexample v_corrections v_deceived (0 : Int32) v_table_letters_1 v_table_prefixes_size_1 v_table_prefixes_longest_1 v_table_prefixes_words_1 v_table_suffixes_size_1 v_table_suffixes_longest_1 v_table_suffixes_words_1 v_table_known_1 v_table_bits_1 v_hypothesis_size_1 v_hypothesis_letters_1 v_hypothesis_moves_1 v_hypothesis_finals_1)) C0 w (c_Au_shape hcall) hp hp' lm_RX1_67 mv_Au_shape ⟨rfl, rfl⟩ ⟨by decide, by decide⟩ ⟨Nat.zero_le _, Nat.zero_le _⟩ (q0 := 9) rfl rfl rfl rfl hl rfl (Nat.le_of_ble_eq_true rfl) dX1_startAnew_22 (fun H locs w => ?_)
  refine lv_aload_n hx hb dX1_startAnew_25 rfl (lv_at hl 0 rfl) ?_
  refine lv_iconst (v := (0 : Int32)) hx hb dX1_startAnew_26 (by decide) ?_
  refine r_put C0 w 0 rfl kf_Le 6 (by decide) lf_RX1_45 rfl rfl rfl (Nat.le_of_ble_eq_true rfl) dX1_startAnew_27 (ws' := (ws_Le_startAnew cI cJ cZ q_this q_asked q_table q_hypothesis q_representatives q_asked_entries q_table_prefixes q_table_suffixes q_table_known q_table_bits q_table_prefixes_words q_table_suffixes_words q_hypothesis_moves q_hypothesis_finals v_mode v_budget (0 : Int32) v_counterexample v_corrections v_deceived (0 : Int32) v_table_letters_1 v_table_prefixes_size_1 v_table_prefixes_longest_1 v_table_prefixes_words_1 v_table_suffixes_size_1 v_table_suffixes_longest_1 v_table_suffixes_words_1 v_table_known_1 v_table_bits_1 v_hypothesis_size_1 v_hypothesis_letters_1 v_hypothesis_moves_1 v_hypothesis_finals_1)) rfl (fun H locs w => ?_)
  refine lv_aload_n hx hb dX1_startAnew_30 rfl (lv_at hl 0 rfl) ?_
  refine lv_ldc2 (v := (-1 : Int64)) hx hb hown (hts _ ll_RX1_49) dX1_startAnew_31 ?_
  refine r_put C0 w 0 rfl kf_Le 7 (by decide) lf_RX1_51 rfl rfl rfl (Nat.le_of_ble_eq_true rfl) dX1_startAnew_34 (ws' := (ws_Le_startAnew cI cJ cZ q_this q_asked q_table q_hypothesis q_representatives q_asked_entries q_table_prefixes q_table_suffixes q_table_known q_table_bits q_table_prefixes_words q_table_suffixes_words q_hypothesis_moves q_hypothesis_finals v_mode v_budget (0 : Int32) (-1 : Int64) v_corrections v_deceived (0 : Int32) v_table_letters_1 v_table_prefixes_size_1 v_table_prefixes_longest_1 v_table_prefixes_words_1 v_table_suffixes_size_1 v_table_suffixes_longest_1 v_table_suffixes_words_1 v_table_known_1 v_table_bits_1 v_hypothesis_size_1 v_hypothesis_letters_1 v_hypothesis_moves_1 v_hypothesis_finals_1)) rfl (fun H locs w => ?_)
  refine lv_aload_n hx hb dX1_startAnew_37 rfl (lv_at hl 0 rfl) ?_
  refine lv_iconst (v := (0 : Int32)) hx hb dX1_startAnew_38 (by decide) ?_
  refine r_put C0 w 0 rfl kf_Le 8 (by decide) lf_RX1_55 rfl rfl rfl (Nat.le_of_ble_eq_true rfl) dX1_startAnew_39 (ws' := (ws_Le_startAnew cI cJ cZ q_this q_asked q_table q_hypothesis q_representatives q_asked_entries q_table_prefixes q_table_suffixes q_table_known q_table_bits q_table_prefixes_words q_table_suffixes_words q_hypothesis_moves q_hypothesis_finals v_mode v_budget (0 : Int32) (-1 : Int64) (0 : Int32) v_deceived (0 : Int32) v_table_letters_1 v_table_prefixes_size_1 v_table_prefixes_longest_1 v_table_prefixes_words_1 v_table_suffixes_size_1 v_table_suffixes_longest_1 v_table_suffixes_words_1 v_table_known_1 v_table_bits_1 v_hypothesis_size_1 v_hypothesis_letters_1 v_hypothesis_moves_1 v_hypothesis_finals_1)) rfl (fun H locs w => ?_)
  refine lv_aload_n hx hb dX1_startAnew_42 rfl (lv_at hl 0 rfl) ?_
  refine lv_iconst (v := (0 : Int32)) hx hb dX1_startAnew_43 (by decide) ?_
  refine r_put C0 w 0 rfl kf_Le 9 (by decide) lf_RX1_58 rfl rfl rfl (Nat.le_of_ble_eq_true rfl) dX1_startAnew_44 (ws' := (ws_Le_startAnew cI cJ cZ q_this q_asked q_table q_hypothesis q_representatives q_asked_entries q_table_prefixes q_table_suffixes q_table_known q_table_bits q_table_prefixes_words q_table_suffixes_words q_hypothesis_moves q_hypothesis_finals v_mode v_budget (0 : Int32) (-1 : Int64) (0 : Int32) (0 : Int32) (0 : Int32) v_table_letters_1 v_table_prefixes_size_1 v_table_prefixes_longest_1 v_table_prefixes_words_1 v_table_suffixes_size_1 v_table_suffixes_longest_1 v_table_suffixes_words_1 v_table_known_1 v_table_bits_1 v_hypothesis_size_1 v_hypothesis_letters_1 v_hypothesis_moves_1 v_hypothesis_finals_1)) rfl (fun H locs w => ?_)
  cases h
  exact hQ _ _ _ _ dX1_startAnew_47 w
theorem dX8_startLearner_0 : decode cX8_startLearner 0 = .ok (.aload_n 0, 1) := by decide +kernel
theorem dX8_startLearner_1 : decode cX8_startLearner 1 = .ok (.getfield 19, 3) := by decide +kernel
theorem dX8_startLearner_4 : decode cX8_startLearner 4 = .ok (.aload_n 0, 1) := by decide +kernel
theorem dX8_startLearner_5 : decode cX8_startLearner 5 = .ok (.getfield 10, 3) := by decide +kernel
theorem dX8_startLearner_8 : decode cX8_startLearner 8 = .ok (.getfield 23, 3) := by decide +kernel
theorem dX8_startLearner_11 : decode cX8_startLearner 11 = .ok (.getfield 27, 3) := by decide +kernel
theorem dX8_startLearner_14 : decode cX8_startLearner 14 = .ok (.invokevirtual 33, 3) := by decide +kernel
theorem dX8_startLearner_17 : decode cX8_startLearner 17 = .ok (.return_, 1) := by decide +kernel
set_option maxRecDepth 100000 in
theorem c_Wo_startLearner {l : Launch} {D : va_G} {cI cJ cZ cO : ClassId} {q_this q_teacher q_learner q_teacher_machine q_teacher_lies q_teacher_machine_moves q_teacher_machine_finals q_learner_asked q_learner_table q_learner_hypothesis q_learner_representatives q_learner_asked_entries q_learner_table_prefixes q_learner_table_suffixes q_learner_table_known q_learner_table_bits q_learner_table_prefixes_words q_learner_table_suffixes_words q_learner_hypothesis_moves q_learner_hypothesis_finals : Nat} {v_teacher_lieCount : Int32} {v_teacher_machine_size : Int32} {v_teacher_machine_letters : Int32} {v_learner_mode : Int32} {v_learner_budget : Int32} {v_learner_formed : Int32} {v_learner_counterexample : Int64} {v_learner_corrections : Int32} {v_learner_deceived : Int32} {v_learner_asked_size : Int32} {v_learner_table_letters : Int32} {v_learner_table_prefixes_size : Int32} {v_learner_table_prefixes_longest : Int32} {v_learner_table_prefixes_words : (Nat → Int64)} {v_learner_table_suffixes_size : Int32} {v_learner_table_suffixes_longest : Int32} {v_learner_table_suffixes_words : (Nat → Int64)} {v_learner_table_known : (Nat → Int32)} {v_learner_table_bits : (Nat → Int32)} {v_learner_hypothesis_size : Int32} {v_learner_hypothesis_letters : Int32} {v_learner_hypothesis_moves : (Nat → Int32)} {v_learner_hypothesis_finals : (Nat → Int32)} {x : Int32 × (Nat → Int64) × Int32 × Int32 × (Nat → Int64) × Int32 × Int32 × (Nat → Int32) × (Nat → Int32) × Int32 × (Nat → Int32) × (Nat → Int32) × Int32 × Int32 × Int32 × Int64 × Int32 × Int32} (h : f_Wo_startLearner v_teacher_machine_letters v_learner_table_prefixes_words v_learner_table_suffixes_words v_learner_table_known v_learner_table_bits v_learner_hypothesis_moves v_learner_hypothesis_finals = some x) : ctV l D cI cJ cZ cO yX8_startLearner cX8_startLearner 1 rm_Wo_startLearner [.ref q_this] (ws_Wo_startLearner cI cJ cZ q_this q_teacher q_learner q_teacher_machine q_teacher_lies q_teacher_machine_moves q_teacher_machine_finals q_learner_asked q_learner_table q_learner_hypothesis q_learner_representatives q_learner_asked_entries q_learner_table_prefixes q_learner_table_suffixes q_learner_table_known q_learner_table_bits q_learner_table_prefixes_words q_learner_table_suffixes_words q_learner_hypothesis_moves q_learner_hypothesis_finals v_teacher_lieCount v_teacher_machine_size v_teacher_machine_letters v_learner_mode v_learner_budget v_learner_formed v_learner_counterexample v_learner_corrections v_learner_deceived v_learner_asked_size v_learner_table_letters v_learner_table_prefixes_size v_learner_table_prefixes_longest v_learner_table_prefixes_words v_learner_table_suffixes_size v_learner_table_suffixes_longest v_learner_table_suffixes_words v_learner_table_known v_learner_table_bits v_learner_hypothesis_size v_learner_hypothesis_letters v_learner_hypothesis_moves v_learner_hypothesis_finals) (ws_Wo_startLearner cI cJ cZ q_this q_teacher q_learner q_teacher_machine q_teacher_lies q_teacher_machine_moves q_teacher_machine_finals q_learner_asked q_learner_table q_learner_hypothesis q_learner_representatives q_learner_asked_entries q_learner_table_prefixes q_learner_table_suffixes q_learner_table_known q_learner_table_bits q_learner_table_prefixes_words q_learner_table_suffixes_words q_learner_hypothesis_moves q_learner_hypothesis_finals v_teacher_lieCount v_teacher_machine_size v_teacher_machine_letters v_learner_mode v_learner_budget x.2.2.2.2.2.2.2.2.2.2.2.2.2.2.1 x.2.2.2.2.2.2.2.2.2.2.2.2.2.2.2.1 x.2.2.2.2.2.2.2.2.2.2.2.2.2.2.2.2.1 x.2.2.2.2.2.2.2.2.2.2.2.2.2.2.2.2.2 x.1 x.2.2.2.2.2.2.2.2.2.1 x.2.2.1 x.2.2.2.1 x.2.1 x.2.2.2.2.2.1 x.2.2.2.2.2.2.1 x.2.2.2.2.1 x.2.2.2.2.2.2.2.1 x.2.2.2.2.2.2.2.2.1 x.2.2.2.2.2.2.2.2.2.2.2.2.1 x.2.2.2.2.2.2.2.2.2.2.2.2.2.1 x.2.2.2.2.2.2.2.2.2.2.1 x.2.2.2.2.2.2.2.2.2.2.2.1) := by
  refine ctV_of (by decide) (Nat.le_of_ble_eq_true rfl) ?_
  intro p e s m below meth c Q A ls C0 hQ w hl
  have hl : lv_has ls 1 [(0, .ref q_this)] := hl
  generalize List.toArray (α := Value) [.ref q_this] = args at C0 hQ ⊢
  obtain ⟨hx, hb, hml, hown, hts, -, -⟩ := id C0
  unfold f_Wo_startLearner at h
  refine lv_aload_n hx hb dX8_startLearner_0 rfl (lv_at hl 0 rfl) ?_
  refine r_get C0 w 0 rfl kf_Wo 1 (by decide) lf_RX8_19 rfl dX8_startLearner_1 ?_
  refine lv_aload_n hx hb dX8_startLearner_4 rfl (lv_at hl 0 rfl) ?_
  refine r_get C0 w 0 rfl kf_Wo 0 (by decide) lf_RX8_10 rfl dX8_startLearner_5 ?_
  refine r_get C0 w 1 rfl kf_Te 0 (by decide) lf_RX8_23 rfl dX8_startLearner_8 ?_
  refine r_get C0 w 2 rfl kf_Au 3 (by decide) lf_RX8_27 rfl dX8_startLearner_11 ?_
  obtain ⟨v_learner_asked_size_1, v_learner_table_prefixes_words_1, v_learner_table_prefixes_size_1, v_learner_table_prefixes_longest_1, v_learner_table_suffixes_words_1, v_learner_table_suffixes_size_1, v_learner_table_suffixes_longest_1, v_learner_table_known_1, v_learner_table_bits_1, v_learner_table_letters_1, v_learner_hypothesis_moves_1, v_learner_hypothesis_finals_1, v_learner_hypothesis_size_1, v_learner_hypothesis_letters_1, v_learner_formed_1, v_learner_counterexample_1, v_learner_corrections_1, v_learner_deceived_1, hcall, h⟩ := bd18_h h
  have hp := sp_of (ws := (ws_Wo_startLearner cI cJ cZ q_this q_teacher q_learner q_teacher_machine q_teacher_lies q_teacher_machine_moves q_teacher_machine_finals q_learner_asked q_learner_table q_learner_hypothesis q_learner_representatives q_learner_asked_entries q_learner_table_prefixes q_learner_table_suffixes q_learner_table_known q_learner_table_bits q_learner_table_prefixes_words q_learner_table_suffixes_words q_learner_hypothesis_moves q_learner_hypothesis_finals v_teacher_lieCount v_teacher_machine_size v_teacher_machine_letters v_learner_mode v_learner_budget v_learner_formed v_learner_counterexample v_learner_corrections v_learner_deceived v_learner_asked_size v_learner_table_letters v_learner_table_prefixes_size v_learner_table_prefixes_longest v_learner_table_prefixes_words v_learner_table_suffixes_size v_learner_table_suffixes_longest v_learner_table_suffixes_words v_learner_table_known v_learner_table_bits v_learner_hypothesis_size v_learner_hypothesis_letters v_learner_hypothesis_moves v_learner_hypothesis_finals)) (wc := (ws_Le_startAnew cI cJ cZ q_learner q_learner_asked q_learner_table q_learner_hypothesis q_learner_representatives q_learner_asked_entries q_learner_table_prefixes q_learner_table_suffixes q_learner_table_known q_learner_table_bits q_learner_table_prefixes_words q_learner_table_suffixes_words q_learner_hypothesis_moves q_learner_hypothesis_finals v_learner_mode v_learner_budget v_learner_formed v_learner_counterexample v_learner_corrections v_learner_deceived v_learner_asked_size v_learner_table_letters v_learner_table_prefixes_size v_learner_table_prefixes_longest v_learner_table_prefixes_words v_learner_table_suffixes_size v_learner_table_suffixes_longest v_learner_table_suffixes_words v_learner_table_known v_learner_table_bits v_learner_hypothesis_size v_learner_hypothesis_letters v_learner_hypothesis_moves v_learner_hypothesis_finals)) [3, 4, 5, 6, 7, 8, 9, 10, 11, 12, 13, 14] [0, 1, 2] rfl rfl
  have hp' : Rp (pk (ws_Wo_startLearner cI cJ cZ q_this q_teacher q_learner q_teacher_machine q_teacher_lies q_teacher_machine_moves q_teacher_machine_finals q_learner_asked q_learner_table q_learner_hypothesis q_learner_representatives q_learner_asked_entries q_learner_table_prefixes q_learner_table_suffixes q_learner_table_known q_learner_table_bits q_learner_table_prefixes_words q_learner_table_suffixes_words q_learner_hypothesis_moves q_learner_hypothesis_finals v_teacher_lieCount v_teacher_machine_size v_teacher_machine_letters v_learner_mode v_learner_budget v_learner_formed v_learner_counterexample v_learner_corrections v_learner_deceived v_learner_asked_size v_learner_table_letters v_learner_table_prefixes_size v_learner_table_prefixes_longest v_learner_table_prefixes_words v_learner_table_suffixes_size v_learner_table_suffixes_longest v_learner_table_suffixes_words v_learner_table_known v_learner_table_bits v_learner_hypothesis_size v_learner_hypothesis_letters v_learner_hypothesis_moves v_learner_hypothesis_finals) [0, 1, 2] ++ (ws_Le_startAnew cI cJ cZ q_learner q_learner_asked q_learner_table q_learner_hypothesis q_learner_representatives q_learner_asked_entries q_learner_table_prefixes q_learner_table_suffixes q_learner_table_known q_learner_table_bits q_learner_table_prefixes_words q_learner_table_suffixes_words q_learner_hypothesis_moves q_learner_hypothesis_finals v_learner_mode v_learner_budget v_learner_formed_1 v_learner_counterexample_1 v_learner_corrections_1 v_learner_deceived_1 v_learner_asked_size_1 v_learner_table_letters_1 v_learner_table_prefixes_size_1 v_learner_table_prefixes_longest_1 v_learner_table_prefixes_words_1 v_learner_table_suffixes_size_1 v_learner_table_suffixes_longest_1 v_learner_table_suffixes_words_1 v_learner_table_known_1 v_learner_table_bits_1 v_learner_hypothesis_size_1 v_learner_hypothesis_letters_1 v_learner_hypothesis_moves_1 v_learner_hypothesis_finals_1)) (ws_Wo_startLearner cI cJ cZ q_this q_teacher q_learner q_teacher_machine q_teacher_lies q_teacher_machine_moves q_teacher_machine_finals q_learner_asked q_learner_table q_learner_hypothesis q_learner_representatives q_learner_asked_entries q_learner_table_prefixes q_learner_table_suffixes q_learner_table_known q_learner_table_bits q_learner_table_prefixes_words q_learner_table_suffixes_words q_learner_hypothesis_moves q_learner_hypothesis_finals v_teacher_lieCount v_teacher_machine_size v_teacher_machine_letters v_learner_mode v_learner_budget v_learner_formed_1 v_learner_counterexample_1 v_learner_corrections_1 v_learner_deceived_1 v_learner_asked_size_1 v_learner_table_letters_1 v_learner_table_prefixes_size_1 v_learner_table_prefixes_longest_1 v_learner_table_prefixes_words_1 v_learner_table_suffixes_size_1 v_learner_table_suffixes_longest_1 v_learner_table_suffixes_words_1 v_learner_table_known_1 v_learner_table_bits_1 v_learner_hypothesis_size_1 v_learner_hypothesis_letters_1 v_learner_hypothesis_moves_1 v_learner_hypothesis_finals_1) := ⟨[0, 1, 2, 3, 4, 5, 6, 7, 8, 9, 10, 11, 12, 13, 14], rfl, rfl⟩
  refine r_VV (As := [.int v_teacher_machine_letters]) (rest := []) (wc' := (ws_Le_startAnew cI cJ cZ q_learner q_learner_asked q_learner_table q_learner_hypothesis q_learner_representatives q_learner_asked_entries q_learner_table_prefixes q_learner_table_suffixes q_learner_table_known q_learner_table_bits q_learner_table_prefixes_words q_learner_table_suffixes_words q_learner_hypothesis_moves q_learner_hypothesis_finals v_learner_mode v_learner_budget v_learner_formed_1 v_learner_counterexample_1 v_learner_corrections_1 v_learner_deceived_1 v_learner_asked_size_1 v_learner_table_letters_1 v_learner_table_prefixes_size_1 v_learner_table_prefixes_longest_1 v_learner_table_prefixes_words_1 v_learner_table_suffixes_size_1 v_learner_table_suffixes_longest_1 v_learner_table_suffixes_words_1 v_learner_table_known_1 v_learner_table_bits_1 v_learner_hypothesis_size_1 v_learner_hypothesis_letters_1 v_learner_hypothesis_moves_1 v_learner_hypothesis_finals_1)) (ws' := (ws_Wo_startLearner cI cJ cZ q_this q_teacher q_learner q_teacher_machine q_teacher_lies q_teacher_machine_moves q_teacher_machine_finals q_learner_asked q_learner_table q_learner_hypothesis q_learner_representatives q_learner_asked_entries q_learner_table_prefixes q_learner_table_suffixes q_learner_table_known q_learner_table_bits q_learner_table_prefixes_words q_learner_table_suffixes_words q_learner_hypothesis_moves q_learner_hypothesis_finals v_teacher_lieCount v_teacher_machine_size v_teacher_machine_letters v_learner_mode v_learner_budget v_learner_formed_1 v_learner_counterexample_1 v_learner_corrections_1 v_learner_deceived_1 v_learner_asked_size_1 v_learner_table_letters_1 v_learner_table_prefixes_size_1 v_learner_table_prefixes_longest_1 v_learner_table_prefixes_words_1 v_learner_table_suffixes_size_1 v_learner_table_suffixes_longest_1 v_learner_table_suffixes_words_1 v_learner_table_known_1 v_learner_table_bits_1 v_learner_hypothesis_size_1 v_learner_hypothesis_letters_1 v_learner_hypothesis_moves_1 v_learner_hypothesis_finals_1)) C0 w (c_Le_startAnew hcall) hp hp' lm_RX8_33 mv_Le_startAnew ⟨rfl, rfl⟩ ⟨by decide, by decide⟩ ⟨Nat.zero_le _, Nat.zero_le _⟩ (q0 := 3) rfl rfl rfl rfl hl rfl (Nat.le_of_ble_eq_true rfl) dX8_startLearner_14 (fun H locs w => ?_)
  cases h
  exact hQ _ _ _ _ dX8_startLearner_17 w
theorem dX9_reset_0 : decode cX9_reset 0 = .ok (.iload_n 1, 1) := by decide +kernel
theorem dX9_reset_1 : decode cX9_reset 1 = .ok (.iconst 1, 1) := by decide +kernel
theorem dX9_reset_2 : decode cX9_reset 2 = .ok (.if_icmp .lt 19, 3) := by decide +kernel
theorem dX9_reset_5 : decode cX9_reset 5 = .ok (.iload_n 1, 1) := by decide +kernel
theorem dX9_reset_6 : decode cX9_reset 6 = .ok (.bipush 8, 2) := by decide +kernel
theorem dX9_reset_8 : decode cX9_reset 8 = .ok (.if_icmp .gt 13, 3) := by decide +kernel
theorem dX9_reset_11 : decode cX9_reset 11 = .ok (.iload_n 2, 1) := by decide +kernel
theorem dX9_reset_12 : decode cX9_reset 12 = .ok (.iconst 1, 1) := by decide +kernel
theorem dX9_reset_13 : decode cX9_reset 13 = .ok (.if_icmp .lt 8, 3) := by decide +kernel
theorem dX9_reset_16 : decode cX9_reset 16 = .ok (.iload_n 2, 1) := by decide +kernel
theorem dX9_reset_17 : decode cX9_reset 17 = .ok (.iconst 3, 1) := by decide +kernel
theorem dX9_reset_18 : decode cX9_reset 18 = .ok (.if_icmp .le 6, 3) := by decide +kernel
theorem dX9_reset_21 : decode cX9_reset 21 = .ok (.bipush (-2), 2) := by decide +kernel
theorem dX9_reset_23 : decode cX9_reset 23 = .ok (.ireturn, 1) := by decide +kernel
theorem dX9_reset_24 : decode cX9_reset 24 = .ok (.aload_n 0, 1) := by decide +kernel
theorem dX9_reset_25 : decode cX9_reset 25 = .ok (.getfield 10, 3) := by decide +kernel
theorem dX9_reset_28 : decode cX9_reset 28 = .ok (.getfield 35, 3) := by decide +kernel
theorem dX9_reset_31 : decode cX9_reset 31 = .ok (.getfield 39, 3) := by decide +kernel
theorem dX9_reset_34 : decode cX9_reset 34 = .ok (.iload_n 1, 1) := by decide +kernel
theorem dX9_reset_35 : decode cX9_reset 35 = .ok (.iload_n 2, 1) := by decide +kernel
theorem dX9_reset_36 : decode cX9_reset 36 = .ok (.invokevirtual 45, 3) := by decide +kernel
theorem dX9_reset_39 : decode cX9_reset 39 = .ok (.aload_n 0, 1) := by decide +kernel
theorem dX9_reset_40 : decode cX9_reset 40 = .ok (.getfield 10, 3) := by decide +kernel
theorem dX9_reset_43 : decode cX9_reset 43 = .ok (.getfield 35, 3) := by decide +kernel
theorem dX9_reset_46 : decode cX9_reset 46 = .ok (.iconst 0, 1) := by decide +kernel
theorem dX9_reset_47 : decode cX9_reset 47 = .ok (.putfield 51, 3) := by decide +kernel
theorem dX9_reset_50 : decode cX9_reset 50 = .ok (.aload_n 0, 1) := by decide +kernel
theorem dX9_reset_51 : decode cX9_reset 51 = .ok (.getfield 10, 3) := by decide +kernel
theorem dX9_reset_54 : decode cX9_reset 54 = .ok (.invokevirtual 54, 3) := by decide +kernel
theorem dX9_reset_57 : decode cX9_reset 57 = .ok (.iload_n 1, 1) := by decide +kernel
theorem dX9_reset_58 : decode cX9_reset 58 = .ok (.ireturn, 1) := by decide +kernel
set_option maxRecDepth 100000 in
theorem c_TL_reset {l : Launch} {D : va_G} {cI cJ cZ cO : ClassId} {q_this q_world q_slots q_text q_search q_world_teacher q_world_learner q_world_teacher_machine q_world_teacher_lies q_world_teacher_machine_moves q_world_teacher_machine_finals q_world_learner_asked q_world_learner_table q_world_learner_hypothesis q_world_learner_representatives q_world_learner_asked_entries q_world_learner_table_prefixes q_world_learner_table_suffixes q_world_learner_table_known q_world_learner_table_bits q_world_learner_table_prefixes_words q_world_learner_table_suffixes_words q_world_learner_hypothesis_moves q_world_learner_hypothesis_finals : Nat} {x1 : Int32} {x2 : Int32} {v_textLength : Int32} {v_world_teacher_lieCount : Int32} {v_world_teacher_machine_size : Int32} {v_world_teacher_machine_letters : Int32} {v_world_teacher_machine_moves : (Nat → Int32)} {v_world_teacher_machine_finals : (Nat → Int32)} {v_world_learner_mode : Int32} {v_world_learner_budget : Int32} {v_world_learner_formed : Int32} {v_world_learner_counterexample : Int64} {v_world_learner_corrections : Int32} {v_world_learner_deceived : Int32} {v_world_learner_asked_size : Int32} {v_world_learner_table_letters : Int32} {v_world_learner_table_prefixes_size : Int32} {v_world_learner_table_prefixes_longest : Int32} {v_world_learner_table_prefixes_words : (Nat → Int64)} {v_world_learner_table_suffixes_size : Int32} {v_world_learner_table_suffixes_longest : Int32} {v_world_learner_table_suffixes_words : (Nat → Int64)} {v_world_learner_table_known : (Nat → Int32)} {v_world_learner_table_bits : (Nat → Int32)} {v_world_learner_hypothesis_size : Int32} {v_world_learner_hypothesis_letters : Int32} {v_world_learner_hypothesis_moves : (Nat → Int32)} {v_world_learner_hypothesis_finals : (Nat → Int32)} {x : Int32 × (Nat → Int32) × (Nat → Int32) × Int32 × Int32 × Int32 × Int32 × (Nat → Int64) × Int32 × Int32 × (Nat → Int64) × Int32 × Int32 × (Nat → Int32) × (Nat → Int32) × Int32 × (Nat → Int32) × (Nat → Int32) × Int32 × Int32 × Int32 × Int64 × Int32 × Int32} (h : f_TL_reset x1 x2 v_world_teacher_lieCount v_world_teacher_machine_size v_world_teacher_machine_letters v_world_teacher_machine_moves v_world_teacher_machine_finals v_world_learner_formed v_world_learner_counterexample v_world_learner_corrections v_world_learner_deceived v_world_learner_asked_size v_world_learner_table_letters v_world_learner_table_prefixes_size v_world_learner_table_prefixes_longest v_world_learner_table_prefixes_words v_world_learner_table_suffixes_size v_world_learner_table_suffixes_longest v_world_learner_table_suffixes_words v_world_learner_table_known v_world_learner_table_bits v_world_learner_hypothesis_size v_world_learner_hypothesis_letters v_world_learner_hypothesis_moves v_world_learner_hypothesis_finals = some x) : ctI l D cI cJ cZ cO yX9_reset cX9_reset 3 .int rm_TL_reset [.ref q_this, .int x1, .int x2] (ws_TL_reset cI cJ cZ q_this q_world q_slots q_text q_search q_world_teacher q_world_learner q_world_teacher_machine q_world_teacher_lies q_world_teacher_machine_moves q_world_teacher_machine_finals q_world_learner_asked q_world_learner_table q_world_learner_hypothesis q_world_learner_representatives q_world_learner_asked_entries q_world_learner_table_prefixes q_world_learner_table_suffixes q_world_learner_table_known q_world_learner_table_bits q_world_learner_table_prefixes_words q_world_learner_table_suffixes_words q_world_learner_hypothesis_moves q_world_learner_hypothesis_finals v_textLength v_world_teacher_lieCount v_world_teacher_machine_size v_world_teacher_machine_letters v_world_teacher_machine_moves v_world_teacher_machine_finals v_world_learner_mode v_world_learner_budget v_world_learner_formed v_world_learner_counterexample v_world_learner_corrections v_world_learner_deceived v_world_learner_asked_size v_world_learner_table_letters v_world_learner_table_prefixes_size v_world_learner_table_prefixes_longest v_world_learner_table_prefixes_words v_world_learner_table_suffixes_size v_world_learner_table_suffixes_longest v_world_learner_table_suffixes_words v_world_learner_table_known v_world_learner_table_bits v_world_learner_hypothesis_size v_world_learner_hypothesis_letters v_world_learner_hypothesis_moves v_world_learner_hypothesis_finals) (ws_TL_reset cI cJ cZ q_this q_world q_slots q_text q_search q_world_teacher q_world_learner q_world_teacher_machine q_world_teacher_lies q_world_teacher_machine_moves q_world_teacher_machine_finals q_world_learner_asked q_world_learner_table q_world_learner_hypothesis q_world_learner_representatives q_world_learner_asked_entries q_world_learner_table_prefixes q_world_learner_table_suffixes q_world_learner_table_known q_world_learner_table_bits q_world_learner_table_prefixes_words q_world_learner_table_suffixes_words q_world_learner_hypothesis_moves q_world_learner_hypothesis_finals v_textLength x.2.2.2.2.2.1 x.2.2.2.1 x.2.2.2.2.1 x.2.1 x.2.2.1 v_world_learner_mode v_world_learner_budget x.2.2.2.2.2.2.2.2.2.2.2.2.2.2.2.2.2.2.2.2.1 x.2.2.2.2.2.2.2.2.2.2.2.2.2.2.2.2.2.2.2.2.2.1 x.2.2.2.2.2.2.2.2.2.2.2.2.2.2.2.2.2.2.2.2.2.2.1 x.2.2.2.2.2.2.2.2.2.2.2.2.2.2.2.2.2.2.2.2.2.2.2 x.2.2.2.2.2.2.1 x.2.2.2.2.2.2.2.2.2.2.2.2.2.2.2.1 x.2.2.2.2.2.2.2.2.1 x.2.2.2.2.2.2.2.2.2.1 x.2.2.2.2.2.2.2.1 x.2.2.2.2.2.2.2.2.2.2.2.1 x.2.2.2.2.2.2.2.2.2.2.2.2.1 x.2.2.2.2.2.2.2.2.2.2.1 x.2.2.2.2.2.2.2.2.2.2.2.2.2.1 x.2.2.2.2.2.2.2.2.2.2.2.2.2.2.1 x.2.2.2.2.2.2.2.2.2.2.2.2.2.2.2.2.2.2.1 x.2.2.2.2.2.2.2.2.2.2.2.2.2.2.2.2.2.2.2.1 x.2.2.2.2.2.2.2.2.2.2.2.2.2.2.2.2.1 x.2.2.2.2.2.2.2.2.2.2.2.2.2.2.2.2.2.1) x.1 := by
  refine ctI_of (by decide) (Nat.le_of_ble_eq_true rfl) ?_
  intro p e s m below meth c Q A ls C0 hQ w hl
  have hl : lv_has ls 3 [(0, .ref q_this), (1, .int x1), (2, .int x2)] := hl
  generalize List.toArray (α := Value) [.ref q_this, .int x1, .int x2] = args at C0 hQ ⊢
  obtain ⟨hx, hb, hml, hown, hts, -, -⟩ := id C0
  unfold f_TL_reset at h
  refine lv_iload_n hx hb dX9_reset_0 rfl (lv_at hl 1 rfl) ?_
  refine lv_iconst (v := (1 : Int32)) hx hb dX9_reset_1 (by decide) ?_
  refine lv_icmp_lt (tgt := 21) hx hb dX9_reset_2 (by decide) (fun hc => ?_) (fun hc => ?_)
  · have h := if_h hc h
    refine lv_bipush (v := (-2 : Int32)) hx hb dX9_reset_21 (by decide) ?_
    cases h
    exact hQ _ _ _ _ dX9_reset_23 rfl w
  · have h := nf_h hc h
    refine lv_iload_n hx hb dX9_reset_5 rfl (lv_at hl 1 rfl) ?_
    refine lv_bipush (v := (8 : Int32)) hx hb dX9_reset_6 (by decide) ?_
    refine lv_icmp_gt (tgt := 21) hx hb dX9_reset_8 (by decide) (fun hc => ?_) (fun hc => ?_)
    · have h := if_h hc h
      refine lv_bipush (v := (-2 : Int32)) hx hb dX9_reset_21 (by decide) ?_
      cases h
      exact hQ _ _ _ _ dX9_reset_23 rfl w
    · have h := nf_h hc h
      refine lv_iload_n hx hb dX9_reset_11 rfl (lv_at hl 2 rfl) ?_
      refine lv_iconst (v := (1 : Int32)) hx hb dX9_reset_12 (by decide) ?_
      refine lv_icmp_lt (tgt := 21) hx hb dX9_reset_13 (by decide) (fun hc => ?_) (fun hc => ?_)
      · have h := if_h hc h
        refine lv_bipush (v := (-2 : Int32)) hx hb dX9_reset_21 (by decide) ?_
        cases h
        exact hQ _ _ _ _ dX9_reset_23 rfl w
      · have h := nf_h hc h
        refine lv_iload_n hx hb dX9_reset_16 rfl (lv_at hl 2 rfl) ?_
        refine lv_iconst (v := (3 : Int32)) hx hb dX9_reset_17 (by decide) ?_
        refine lv_icmp_le (tgt := 24) hx hb dX9_reset_18 (by decide) (fun hc => ?_) (fun hc => ?_)
        · have h := if_h hc h
          refine lv_aload_n hx hb dX9_reset_24 rfl (lv_at hl 0 rfl) ?_
          refine r_get C0 w 0 rfl kf_TL 0 (by decide) lf_RX9_10 rfl dX9_reset_25 ?_
          refine r_get C0 w 1 rfl kf_Wo 0 (by decide) lf_RX9_35 rfl dX9_reset_28 ?_
          refine r_get C0 w 2 rfl kf_Te 0 (by decide) lf_RX9_39 rfl dX9_reset_31 ?_
          refine lv_iload_n hx hb dX9_reset_34 rfl (lv_at hl 1 rfl) ?_
          refine lv_iload_n hx hb dX9_reset_35 rfl (lv_at hl 2 rfl) ?_
          obtain ⟨v_world_teacher_machine_moves_1, v_world_teacher_machine_finals_1, v_world_teacher_machine_size_1, v_world_teacher_machine_letters_1, hcall, h⟩ := bd4_h h
          have hp := sp_of (ws := (ws_TL_reset cI cJ cZ q_this q_world q_slots q_text q_search q_world_teacher q_world_learner q_world_teacher_machine q_world_teacher_lies q_world_teacher_machine_moves q_world_teacher_machine_finals q_world_learner_asked q_world_learner_table q_world_learner_hypothesis q_world_learner_representatives q_world_learner_asked_entries q_world_learner_table_prefixes q_world_learner_table_suffixes q_world_learner_table_known q_world_learner_table_bits q_world_learner_table_prefixes_words q_world_learner_table_suffixes_words q_world_learner_hypothesis_moves q_world_learner_hypothesis_finals v_textLength v_world_teacher_lieCount v_world_teacher_machine_size v_world_teacher_machine_letters v_world_teacher_machine_moves v_world_teacher_machine_finals v_world_learner_mode v_world_learner_budget v_world_learner_formed v_world_learner_counterexample v_world_learner_corrections v_world_learner_deceived v_world_learner_asked_size v_world_learner_table_letters v_world_learner_table_prefixes_size v_world_learner_table_prefixes_longest v_world_learner_table_prefixes_words v_world_learner_table_suffixes_size v_world_learner_table_suffixes_longest v_world_learner_table_suffixes_words v_world_learner_table_known v_world_learner_table_bits v_world_learner_hypothesis_size v_world_learner_hypothesis_letters v_world_learner_hypothesis_moves v_world_learner_hypothesis_finals)) (wc := (ws_Au_shape cI cJ cZ q_world_teacher_machine q_world_teacher_machine_moves q_world_teacher_machine_finals 24 8 v_world_teacher_machine_size v_world_teacher_machine_letters v_world_teacher_machine_moves v_world_teacher_machine_finals)) [3, 4, 5] [0, 1, 2, 6, 7, 8, 9, 10, 11, 12, 13, 14, 15, 16, 17] rfl rfl
          have hp' : Rp (pk (ws_TL_reset cI cJ cZ q_this q_world q_slots q_text q_search q_world_teacher q_world_learner q_world_teacher_machine q_world_teacher_lies q_world_teacher_machine_moves q_world_teacher_machine_finals q_world_learner_asked q_world_learner_table q_world_learner_hypothesis q_world_learner_representatives q_world_learner_asked_entries q_world_learner_table_prefixes q_world_learner_table_suffixes q_world_learner_table_known q_world_learner_table_bits q_world_learner_table_prefixes_words q_world_learner_table_suffixes_words q_world_learner_hypothesis_moves q_world_learner_hypothesis_finals v_textLength v_world_teacher_lieCount v_world_teacher_machine_size v_world_teacher_machine_letters v_world_teacher_machine_moves v_world_teacher_machine_finals v_world_learner_mode v_world_learner_budget v_world_learner_formed v_world_learner_counterexample v_world_learner_corrections v_world_learner_deceived v_world_learner_asked_size v_world_learner_table_letters v_world_learner_table_prefixes_size v_world_learner_table_prefixes_longest v_world_learner_table_prefixes_words v_world_learner_table_suffixes_size v_world_learner_table_suffixes_longest v_world_learner_table_suffixes_words v_world_learner_table_known v_world_learner_table_bits v_world_learner_hypothesis_size v_world_learner_hypothesis_letters v_world_learner_hypothesis_moves v_world_learner_hypothesis_finals) [0, 1, 2, 6, 7, 8, 9, 10, 11, 12, 13, 14, 15, 16, 17] ++ (ws_Au_shape cI cJ cZ q_world_teacher_machine q_world_teacher_machine_moves q_world_teacher_machine_finals 24 8 v_world_teacher_machine_size_1 v_world_teacher_machine_letters_1 v_world_teacher_machine_moves_1 v_world_teacher_machine_finals_1)) (ws_TL_reset cI cJ cZ q_this q_world q_slots q_text q_search q_world_teacher q_world_learner q_world_teacher_machine q_world_teacher_lies q_world_teacher_machine_moves q_world_teacher_machine_finals q_world_learner_asked q_world_learner_table q_world_learner_hypothesis q_world_learner_representatives q_world_learner_asked_entries q_world_learner_table_prefixes q_world_learner_table_suffixes q_world_learner_table_known q_world_learner_table_bits q_world_learner_table_prefixes_words q_world_learner_table_suffixes_words q_world_learner_hypothesis_moves q_world_learner_hypothesis_finals v_textLength v_world_teacher_lieCount v_world_teacher_machine_size_1 v_world_teacher_machine_letters_1 v_world_teacher_machine_moves_1 v_world_teacher_machine_finals_1 v_world_learner_mode v_world_learner_budget v_world_learner_formed v_world_learner_counterexample v_world_learner_corrections v_world_learner_deceived v_world_learner_asked_size v_world_learner_table_letters v_world_learner_table_prefixes_size v_world_learner_table_prefixes_longest v_world_learner_table_prefixes_words v_world_learner_table_suffixes_size v_world_learner_table_suffixes_longest v_world_learner_table_suffixes_words v_world_learner_table_known v_world_learner_table_bits v_world_learner_hypothesis_size v_world_learner_hypothesis_letters v_world_learner_hypothesis_moves v_world_learner_hypothesis_finals) := ⟨[0, 1, 2, 15, 16, 17, 3, 4, 5, 6, 7, 8, 9, 10, 11, 12, 13, 14], rfl, rfl⟩
          refine r_VV (As := [.int x1, .int x2]) (rest := []) (wc' := (ws_Au_shape cI cJ cZ q_world_teacher_machine q_world_teacher_machine_moves q_world_teacher_machine_finals 24 8 v_world_teacher_machine_size_1 v_world_teacher_machine_letters_1 v_world_teacher_machine_moves_1 v_world_teacher_machine_finals_1)) (ws' := (ws_TL_reset cI cJ cZ q_this q_world q_slots q_text q_search q_world_teacher q_world_learner q_world_teacher_machine q_world_teacher_lies q_world_teacher_machine_moves q_world_teacher_machine_finals q_world_learner_asked q_world_learner_table q_world_learner_hypothesis q_world_learner_representatives q_world_learner_asked_entries q_world_learner_table_prefixes q_world_learner_table_suffixes q_world_learner_table_known q_world_learner_table_bits q_world_learner_table_prefixes_words q_world_learner_table_suffixes_words q_world_learner_hypothesis_moves q_world_learner_hypothesis_finals v_textLength v_world_teacher_lieCount v_world_teacher_machine_size_1 v_world_teacher_machine_letters_1 v_world_teacher_machine_moves_1 v_world_teacher_machine_finals_1 v_world_learner_mode v_world_learner_budget v_world_learner_formed v_world_learner_counterexample v_world_learner_corrections v_world_learner_deceived v_world_learner_asked_size v_world_learner_table_letters v_world_learner_table_prefixes_size v_world_learner_table_prefixes_longest v_world_learner_table_prefixes_words v_world_learner_table_suffixes_size v_world_learner_table_suffixes_longest v_world_learner_table_suffixes_words v_world_learner_table_known v_world_learner_table_bits v_world_learner_hypothesis_size v_world_learner_hypothesis_letters v_world_learner_hypothesis_moves v_world_learner_hypothesis_finals)) C0 w (c_Au_shape hcall) hp hp' lm_RX9_45 mv_Au_shape ⟨rfl, rfl⟩ ⟨by decide, by decide⟩ ⟨Nat.zero_le _, Nat.zero_le _⟩ (q0 := 3) rfl rfl rfl rfl hl rfl (Nat.le_of_ble_eq_true rfl) dX9_reset_36 (fun H locs w => ?_)
          refine lv_aload_n hx hb dX9_reset_39 rfl (lv_at hl 0 rfl) ?_
          refine r_get C0 w 0 rfl kf_TL 0 (by decide) lf_RX9_10 rfl dX9_reset_40 ?_
          refine r_get C0 w 1 rfl kf_Wo 0 (by decide) lf_RX9_35 rfl dX9_reset_43 ?_
          refine lv_iconst (v := (0 : Int32)) hx hb dX9_reset_46 (by decide) ?_
          refine r_put C0 w 2 rfl kf_Te 2 (by decide) lf_RX9_51 rfl rfl rfl (Nat.le_of_ble_eq_true rfl) dX9_reset_47 (ws' := (ws_TL_reset cI cJ cZ q_this q_world q_slots q_text q_search q_world_teacher q_world_learner q_world_teacher_machine q_world_teacher_lies q_world_teacher_machine_moves q_world_teacher_machine_finals q_world_learner_asked q_world_learner_table q_world_learner_hypothesis q_world_learner_representatives q_world_learner_asked_entries q_world_learner_table_prefixes q_world_learner_table_suffixes q_world_learner_table_known q_world_learner_table_bits q_world_learner_table_prefixes_words q_world_learner_table_suffixes_words q_world_learner_hypothesis_moves q_world_learner_hypothesis_finals v_textLength (0 : Int32) v_world_teacher_machine_size_1 v_world_teacher_machine_letters_1 v_world_teacher_machine_moves_1 v_world_teacher_machine_finals_1 v_world_learner_mode v_world_learner_budget v_world_learner_formed v_world_learner_counterexample v_world_learner_corrections v_world_learner_deceived v_world_learner_asked_size v_world_learner_table_letters v_world_learner_table_prefixes_size v_world_learner_table_prefixes_longest v_world_learner_table_prefixes_words v_world_learner_table_suffixes_size v_world_learner_table_suffixes_longest v_world_learner_table_suffixes_words v_world_learner_table_known v_world_learner_table_bits v_world_learner_hypothesis_size v_world_learner_hypothesis_letters v_world_learner_hypothesis_moves v_world_learner_hypothesis_finals)) rfl (fun H locs w => ?_)
          refine lv_aload_n hx hb dX9_reset_50 rfl (lv_at hl 0 rfl) ?_
          refine r_get C0 w 0 rfl kf_TL 0 (by decide) lf_RX9_10 rfl dX9_reset_51 ?_
          obtain ⟨v_world_learner_asked_size_1, v_world_learner_table_prefixes_words_1, v_world_learner_table_prefixes_size_1, v_world_learner_table_prefixes_longest_1, v_world_learner_table_suffixes_words_1, v_world_learner_table_suffixes_size_1, v_world_learner_table_suffixes_longest_1, v_world_learner_table_known_1, v_world_learner_table_bits_1, v_world_learner_table_letters_1, v_world_learner_hypothesis_moves_1, v_world_learner_hypothesis_finals_1, v_world_learner_hypothesis_size_1, v_world_learner_hypothesis_letters_1, v_world_learner_formed_1, v_world_learner_counterexample_1, v_world_learner_corrections_1, v_world_learner_deceived_1, hcall, h⟩ := bd18_h h
          have hp := sp_of (ws := (ws_TL_reset cI cJ cZ q_this q_world q_slots q_text q_search q_world_teacher q_world_learner q_world_teacher_machine q_world_teacher_lies q_world_teacher_machine_moves q_world_teacher_machine_finals q_world_learner_asked q_world_learner_table q_world_learner_hypothesis q_world_learner_representatives q_world_learner_asked_entries q_world_learner_table_prefixes q_world_learner_table_suffixes q_world_learner_table_known q_world_learner_table_bits q_world_learner_table_prefixes_words q_world_learner_table_suffixes_words q_world_learner_hypothesis_moves q_world_learner_hypothesis_finals v_textLength (0 : Int32) v_world_teacher_machine_size_1 v_world_teacher_machine_letters_1 v_world_teacher_machine_moves_1 v_world_teacher_machine_finals_1 v_world_learner_mode v_world_learner_budget v_world_learner_formed v_world_learner_counterexample v_world_learner_corrections v_world_learner_deceived v_world_learner_asked_size v_world_learner_table_letters v_world_learner_table_prefixes_size v_world_learner_table_prefixes_longest v_world_learner_table_prefixes_words v_world_learner_table_suffixes_size v_world_learner_table_suffixes_longest v_world_learner_table_suffixes_words v_world_learner_table_known v_world_learner_table_bits v_world_learner_hypothesis_size v_world_learner_hypothesis_letters v_world_learner_hypothesis_moves v_world_learner_hypothesis_finals)) (wc := (ws_Wo_startLearner cI cJ cZ q_world q_world_teacher q_world_learner q_world_teacher_machine q_world_teacher_lies q_world_teacher_machine_moves q_world_teacher_machine_finals q_world_learner_asked q_world_learner_table q_world_learner_hypothesis q_world_learner_representatives q_world_learner_asked_entries q_world_learner_table_prefixes q_world_learner_table_suffixes q_world_learner_table_known q_world_learner_table_bits q_world_learner_table_prefixes_words q_world_learner_table_suffixes_words q_world_learner_hypothesis_moves q_world_learner_hypothesis_finals (0 : Int32) v_world_teacher_machine_size_1 v_world_teacher_machine_letters_1 v_world_learner_mode v_world_learner_budget v_world_learner_formed v_world_learner_counterexample v_world_learner_corrections v_world_learner_deceived v_world_learner_asked_size v_world_learner_table_letters v_world_learner_table_prefixes_size v_world_learner_table_prefixes_longest v_world_learner_table_prefixes_words v_world_learner_table_suffixes_size v_world_learner_table_suffixes_longest v_world_learner_table_suffixes_words v_world_learner_table_known v_world_learner_table_bits v_world_learner_hypothesis_size v_world_learner_hypothesis_letters v_world_learner_hypothesis_moves v_world_learner_hypothesis_finals)) [1, 2, 3, 6, 7, 8, 9, 10, 11, 12, 13, 14, 15, 16, 17] [0, 4, 5] rfl rfl
          have hp' : Rp (pk (ws_TL_reset cI cJ cZ q_this q_world q_slots q_text q_search q_world_teacher q_world_learner q_world_teacher_machine q_world_teacher_lies q_world_teacher_machine_moves q_world_teacher_machine_finals q_world_learner_asked q_world_learner_table q_world_learner_hypothesis q_world_learner_representatives q_world_learner_asked_entries q_world_learner_table_prefixes q_world_learner_table_suffixes q_world_learner_table_known q_world_learner_table_bits q_world_learner_table_prefixes_words q_world_learner_table_suffixes_words q_world_learner_hypothesis_moves q_world_learner_hypothesis_finals v_textLength (0 : Int32) v_world_teacher_machine_size_1 v_world_teacher_machine_letters_1 v_world_teacher_machine_moves_1 v_world_teacher_machine_finals_1 v_world_learner_mode v_world_learner_budget v_world_learner_formed v_world_learner_counterexample v_world_learner_corrections v_world_learner_deceived v_world_learner_asked_size v_world_learner_table_letters v_world_learner_table_prefixes_size v_world_learner_table_prefixes_longest v_world_learner_table_prefixes_words v_world_learner_table_suffixes_size v_world_learner_table_suffixes_longest v_world_learner_table_suffixes_words v_world_learner_table_known v_world_learner_table_bits v_world_learner_hypothesis_size v_world_learner_hypothesis_letters v_world_learner_hypothesis_moves v_world_learner_hypothesis_finals) [0, 4, 5] ++ (ws_Wo_startLearner cI cJ cZ q_world q_world_teacher q_world_learner q_world_teacher_machine q_world_teacher_lies q_world_teacher_machine_moves q_world_teacher_machine_finals q_world_learner_asked q_world_learner_table q_world_learner_hypothesis q_world_learner_representatives q_world_learner_asked_entries q_world_learner_table_prefixes q_world_learner_table_suffixes q_world_learner_table_known q_world_learner_table_bits q_world_learner_table_prefixes_words q_world_learner_table_suffixes_words q_world_learner_hypothesis_moves q_world_learner_hypothesis_finals (0 : Int32) v_world_teacher_machine_size_1 v_world_teacher_machine_letters_1 v_world_learner_mode v_world_learner_budget v_world_learner_formed_1 v_world_learner_counterexample_1 v_world_learner_corrections_1 v_world_learner_deceived_1 v_world_learner_asked_size_1 v_world_learner_table_letters_1 v_world_learner_table_prefixes_size_1 v_world_learner_table_prefixes_longest_1 v_world_learner_table_prefixes_words_1 v_world_learner_table_suffixes_size_1 v_world_learner_table_suffixes_longest_1 v_world_learner_table_suffixes_words_1 v_world_learner_table_known_1 v_world_learner_table_bits_1 v_world_learner_hypothesis_size_1 v_world_learner_hypothesis_letters_1 v_world_learner_hypothesis_moves_1 v_world_learner_hypothesis_finals_1)) (ws_TL_reset cI cJ cZ q_this q_world q_slots q_text q_search q_world_teacher q_world_learner q_world_teacher_machine q_world_teacher_lies q_world_teacher_machine_moves q_world_teacher_machine_finals q_world_learner_asked q_world_learner_table q_world_learner_hypothesis q_world_learner_representatives q_world_learner_asked_entries q_world_learner_table_prefixes q_world_learner_table_suffixes q_world_learner_table_known q_world_learner_table_bits q_world_learner_table_prefixes_words q_world_learner_table_suffixes_words q_world_learner_hypothesis_moves q_world_learner_hypothesis_finals v_textLength (0 : Int32) v_world_teacher_machine_size_1 v_world_teacher_machine_letters_1 v_world_teacher_machine_moves_1 v_world_teacher_machine_finals_1 v_world_learner_mode v_world_learner_budget v_world_learner_formed_1 v_world_learner_counterexample_1 v_world_learner_corrections_1 v_world_learner_deceived_1 v_world_learner_asked_size_1 v_world_learner_table_letters_1 v_world_learner_table_prefixes_size_1 v_world_learner_table_prefixes_longest_1 v_world_learner_table_prefixes_words_1 v_world_learner_table_suffixes_size_1 v_world_learner_table_suffixes_longest_1 v_world_learner_table_suffixes_words_1 v_world_learner_table_known_1 v_world_learner_table_bits_1 v_world_learner_hypothesis_size_1 v_world_learner_hypothesis_letters_1 v_world_learner_hypothesis_moves_1 v_world_learner_hypothesis_finals_1) := ⟨[0, 3, 4, 5, 1, 2, 6, 7, 8, 9, 10, 11, 12, 13, 14, 15, 16, 17], rfl, rfl⟩
          refine r_VV (As := []) (rest := []) (wc' := (ws_Wo_startLearner cI cJ cZ q_world q_world_teacher q_world_learner q_world_teacher_machine q_world_teacher_lies q_world_teacher_machine_moves q_world_teacher_machine_finals q_world_learner_asked q_world_learner_table q_world_learner_hypothesis q_world_learner_representatives q_world_learner_asked_entries q_world_learner_table_prefixes q_world_learner_table_suffixes q_world_learner_table_known q_world_learner_table_bits q_world_learner_table_prefixes_words q_world_learner_table_suffixes_words q_world_learner_hypothesis_moves q_world_learner_hypothesis_finals (0 : Int32) v_world_teacher_machine_size_1 v_world_teacher_machine_letters_1 v_world_learner_mode v_world_learner_budget v_world_learner_formed_1 v_world_learner_counterexample_1 v_world_learner_corrections_1 v_world_learner_deceived_1 v_world_learner_asked_size_1 v_world_learner_table_letters_1 v_world_learner_table_prefixes_size_1 v_world_learner_table_prefixes_longest_1 v_world_learner_table_prefixes_words_1 v_world_learner_table_suffixes_size_1 v_world_learner_table_suffixes_longest_1 v_world_learner_table_suffixes_words_1 v_world_learner_table_known_1 v_world_learner_table_bits_1 v_world_learner_hypothesis_size_1 v_world_learner_hypothesis_letters_1 v_world_learner_hypothesis_moves_1 v_world_learner_hypothesis_finals_1)) (ws' := (ws_TL_reset cI cJ cZ q_this q_world q_slots q_text q_search q_world_teacher q_world_learner q_world_teacher_machine q_world_teacher_lies q_world_teacher_machine_moves q_world_teacher_machine_finals q_world_learner_asked q_world_learner_table q_world_learner_hypothesis q_world_learner_representatives q_world_learner_asked_entries q_world_learner_table_prefixes q_world_learner_table_suffixes q_world_learner_table_known q_world_learner_table_bits q_world_learner_table_prefixes_words q_world_learner_table_suffixes_words q_world_learner_hypothesis_moves q_world_learner_hypothesis_finals v_textLength (0 : Int32) v_world_teacher_machine_size_1 v_world_teacher_machine_letters_1 v_world_teacher_machine_moves_1 v_world_teacher_machine_finals_1 v_world_learner_mode v_world_learner_budget v_world_learner_formed_1 v_world_learner_counterexample_1 v_world_learner_corrections_1 v_world_learner_deceived_1 v_world_learner_asked_size_1 v_world_learner_table_letters_1 v_world_learner_table_prefixes_size_1 v_world_learner_table_prefixes_longest_1 v_world_learner_table_prefixes_words_1 v_world_learner_table_suffixes_size_1 v_world_learner_table_suffixes_longest_1 v_world_learner_table_suffixes_words_1 v_world_learner_table_known_1 v_world_learner_table_bits_1 v_world_learner_hypothesis_size_1 v_world_learner_hypothesis_letters_1 v_world_learner_hypothesis_moves_1 v_world_learner_hypothesis_finals_1)) C0 w (c_Wo_startLearner hcall) hp hp' lm_RX9_54 mv_Wo_startLearner ⟨rfl, rfl⟩ ⟨by decide, by decide⟩ ⟨Nat.zero_le _, Nat.zero_le _⟩ (q0 := 1) rfl rfl rfl rfl hl rfl (Nat.le_of_ble_eq_true rfl) dX9_reset_54 (fun H locs w => ?_)
          refine lv_iload_n hx hb dX9_reset_57 rfl (lv_at hl 1 rfl) ?_
          cases h
          exact hQ _ _ _ _ dX9_reset_58 rfl w
        · have h := nf_h hc h
          refine lv_bipush (v := (-2 : Int32)) hx hb dX9_reset_21 (by decide) ?_
          cases h
          exact hQ _ _ _ _ dX9_reset_23 rfl w
theorem dX0_hasLetter_0 : decode cX0_hasLetter 0 = .ok (.iload_n 1, 1) := by decide +kernel
theorem dX0_hasLetter_1 : decode cX0_hasLetter 1 = .ok (.ifCond .lt 15, 3) := by decide +kernel
theorem dX0_hasLetter_4 : decode cX0_hasLetter 4 = .ok (.iload_n 1, 1) := by decide +kernel
theorem dX0_hasLetter_5 : decode cX0_hasLetter 5 = .ok (.aload_n 0, 1) := by decide +kernel
theorem dX0_hasLetter_6 : decode cX0_hasLetter 6 = .ok (.getfield 22, 3) := by decide +kernel
theorem dX0_hasLetter_9 : decode cX0_hasLetter 9 = .ok (.if_icmp .ge 7, 3) := by decide +kernel
theorem dX0_hasLetter_12 : decode cX0_hasLetter 12 = .ok (.iconst 1, 1) := by decide +kernel
theorem dX0_hasLetter_13 : decode cX0_hasLetter 13 = .ok (.goto 4, 3) := by decide +kernel
theorem dX0_hasLetter_16 : decode cX0_hasLetter 16 = .ok (.iconst 0, 1) := by decide +kernel
theorem dX0_hasLetter_17 : decode cX0_hasLetter 17 = .ok (.ireturn, 1) := by decide +kernel
set_option maxRecDepth 100000 in
theorem c_Au_hasLetter {l : Launch} {D : va_G} {cI cJ cZ cO : ClassId} {q_this q_moves q_finals : Nat} {x1 : Int32} {v_size : Int32} {v_letters : Int32} {x : Int32} (h : f_Au_hasLetter x1 v_letters = some x) : ctI l D cI cJ cZ cO yX0_hasLetter cX0_hasLetter 2 .boolean rm_Au_hasLetter [.ref q_this, .int x1] (ws_Au_hasLetter cI cJ cZ q_this q_moves q_finals v_size v_letters) (ws_Au_hasLetter cI cJ cZ q_this q_moves q_finals v_size v_letters) x := by
  refine ctI_of (by decide) (Nat.le_of_ble_eq_true rfl) ?_
  intro p e s m below meth c Q A ls C0 hQ w hl
  have hl : lv_has ls 2 [(0, .ref q_this), (1, .int x1)] := hl
  generalize List.toArray (α := Value) [.ref q_this, .int x1] = args at C0 hQ ⊢
  obtain ⟨hx, hb, hml, hown, hts, -, -⟩ := id C0
  unfold f_Au_hasLetter at h
  refine lv_iload_n hx hb dX0_hasLetter_0 rfl (lv_at hl 1 rfl) ?_
  refine lv_if_lt (tgt := 16) hx hb dX0_hasLetter_1 (by decide) (fun hc => ?_) (fun hc => ?_)
  · have h := if_h hc h
    refine lv_iconst (v := (0 : Int32)) hx hb dX0_hasLetter_16 (by decide) ?_
    cases h
    exact hQ _ _ _ _ dX0_hasLetter_17 (gB_n (v := (0 : Int32)) (Or.inl rfl)) w
  · have h := nf_h hc h
    refine lv_iload_n hx hb dX0_hasLetter_4 rfl (lv_at hl 1 rfl) ?_
    refine lv_aload_n hx hb dX0_hasLetter_5 rfl (lv_at hl 0 rfl) ?_
    refine r_get C0 w 0 rfl kf_Au 3 (by decide) lf_RX0_22 rfl dX0_hasLetter_6 ?_
    refine lv_icmp_ge (tgt := 16) hx hb dX0_hasLetter_9 (by decide) (fun hc => ?_) (fun hc => ?_)
    · have h := if_h hc h
      refine lv_iconst (v := (0 : Int32)) hx hb dX0_hasLetter_16 (by decide) ?_
      cases h
      exact hQ _ _ _ _ dX0_hasLetter_17 (gB_n (v := (0 : Int32)) (Or.inl rfl)) w
    · have h := nf_h hc h
      refine lv_iconst (v := (1 : Int32)) hx hb dX0_hasLetter_12 (by decide) ?_
      refine lv_goto (tgt := 17) hx hb dX0_hasLetter_13 (by decide) ?_
      cases h
      exact hQ _ _ _ _ dX0_hasLetter_17 (gB_n (v := (1 : Int32)) (Or.inr rfl)) w
theorem dX0_hasState_0 : decode cX0_hasState 0 = .ok (.iload_n 1, 1) := by decide +kernel
theorem dX0_hasState_1 : decode cX0_hasState 1 = .ok (.ifCond .lt 15, 3) := by decide +kernel
theorem dX0_hasState_4 : decode cX0_hasState 4 = .ok (.iload_n 1, 1) := by decide +kernel
theorem dX0_hasState_5 : decode cX0_hasState 5 = .ok (.aload_n 0, 1) := by decide +kernel
theorem dX0_hasState_6 : decode cX0_hasState 6 = .ok (.getfield 18, 3) := by decide +kernel
theorem dX0_hasState_9 : decode cX0_hasState 9 = .ok (.if_icmp .ge 7, 3) := by decide +kernel
theorem dX0_hasState_12 : decode cX0_hasState 12 = .ok (.iconst 1, 1) := by decide +kernel
theorem dX0_hasState_13 : decode cX0_hasState 13 = .ok (.goto 4, 3) := by decide +kernel
theorem dX0_hasState_16 : decode cX0_hasState 16 = .ok (.iconst 0, 1) := by decide +kernel
theorem dX0_hasState_17 : decode cX0_hasState 17 = .ok (.ireturn, 1) := by decide +kernel
set_option maxRecDepth 100000 in
theorem c_Au_hasState {l : Launch} {D : va_G} {cI cJ cZ cO : ClassId} {q_this q_moves q_finals : Nat} {x1 : Int32} {v_size : Int32} {v_letters : Int32} {x : Int32} (h : f_Au_hasState x1 v_size = some x) : ctI l D cI cJ cZ cO yX0_hasState cX0_hasState 2 .boolean rm_Au_hasState [.ref q_this, .int x1] (ws_Au_hasState cI cJ cZ q_this q_moves q_finals v_size v_letters) (ws_Au_hasState cI cJ cZ q_this q_moves q_finals v_size v_letters) x := by
  refine ctI_of (by decide) (Nat.le_of_ble_eq_true rfl) ?_
  intro p e s m below meth c Q A ls C0 hQ w hl
  have hl : lv_has ls 2 [(0, .ref q_this), (1, .int x1)] := hl
  generalize List.toArray (α := Value) [.ref q_this, .int x1] = args at C0 hQ ⊢
  obtain ⟨hx, hb, hml, hown, hts, -, -⟩ := id C0
  unfold f_Au_hasState at h
  refine lv_iload_n hx hb dX0_hasState_0 rfl (lv_at hl 1 rfl) ?_
  refine lv_if_lt (tgt := 16) hx hb dX0_hasState_1 (by decide) (fun hc => ?_) (fun hc => ?_)
  · have h := if_h hc h
    refine lv_iconst (v := (0 : Int32)) hx hb dX0_hasState_16 (by decide) ?_
    cases h
    exact hQ _ _ _ _ dX0_hasState_17 (gB_n (v := (0 : Int32)) (Or.inl rfl)) w
  · have h := nf_h hc h
    refine lv_iload_n hx hb dX0_hasState_4 rfl (lv_at hl 1 rfl) ?_
    refine lv_aload_n hx hb dX0_hasState_5 rfl (lv_at hl 0 rfl) ?_
    refine r_get C0 w 0 rfl kf_Au 2 (by decide) lf_RX0_18 rfl dX0_hasState_6 ?_
    refine lv_icmp_ge (tgt := 16) hx hb dX0_hasState_9 (by decide) (fun hc => ?_) (fun hc => ?_)
    · have h := if_h hc h
      refine lv_iconst (v := (0 : Int32)) hx hb dX0_hasState_16 (by decide) ?_
      cases h
      exact hQ _ _ _ _ dX0_hasState_17 (gB_n (v := (0 : Int32)) (Or.inl rfl)) w
    · have h := nf_h hc h
      refine lv_iconst (v := (1 : Int32)) hx hb dX0_hasState_12 (by decide) ?_
      refine lv_goto (tgt := 17) hx hb dX0_hasState_13 (by decide) ?_
      cases h
      exact hQ _ _ _ _ dX0_hasState_17 (gB_n (v := (1 : Int32)) (Or.inr rfl)) w
theorem dX0_lead_0 : decode cX0_lead 0 = .ok (.aload_n 0, 1) := by decide +kernel
theorem dX0_lead_1 : decode cX0_lead 1 = .ok (.getfield 9, 3) := by decide +kernel
theorem dX0_lead_4 : decode cX0_lead 4 = .ok (.iload_n 1, 1) := by decide +kernel
theorem dX0_lead_5 : decode cX0_lead 5 = .ok (.iconst 3, 1) := by decide +kernel
theorem dX0_lead_6 : decode cX0_lead 6 = .ok (.imul, 1) := by decide +kernel
theorem dX0_lead_7 : decode cX0_lead 7 = .ok (.iload_n 2, 1) := by decide +kernel
theorem dX0_lead_8 : decode cX0_lead 8 = .ok (.iadd, 1) := by decide +kernel
theorem dX0_lead_9 : decode cX0_lead 9 = .ok (.iload_n 3, 1) := by decide +kernel
theorem dX0_lead_10 : decode cX0_lead 10 = .ok (.iastore, 1) := by decide +kernel
theorem dX0_lead_11 : decode cX0_lead 11 = .ok (.return_, 1) := by decide +kernel
set_option maxRecDepth 100000 in
theorem c_Au_lead {l : Launch} {D : va_G} {cI cJ cZ cO : ClassId} {q_this q_moves q_finals : Nat} {n_moves : Nat} {x1 : Int32} {x2 : Int32} {x3 : Int32} {v_size : Int32} {v_letters : Int32} {v_moves : (Nat → Int32)} {x : (Nat → Int32)} (h : f_Au_lead n_moves x1 x2 x3 v_moves = some x) : ctV l D cI cJ cZ cO yX0_lead cX0_lead 4 rm_Au_lead [.ref q_this, .int x1, .int x2, .int x3] (ws_Au_lead cI cJ cZ q_this q_moves q_finals n_moves v_size v_letters v_moves) (ws_Au_lead cI cJ cZ q_this q_moves q_finals n_moves v_size v_letters x) := by
  refine ctV_of (by decide) (Nat.le_of_ble_eq_true rfl) ?_
  intro p e s m below meth c Q A ls C0 hQ w hl
  have hl : lv_has ls 4 [(0, .ref q_this), (1, .int x1), (2, .int x2), (3, .int x3)] := hl
  generalize List.toArray (α := Value) [.ref q_this, .int x1, .int x2, .int x3] = args at C0 hQ ⊢
  obtain ⟨hx, hb, hml, hown, hts, -, -⟩ := id C0
  unfold f_Au_lead at h
  refine lv_aload_n hx hb dX0_lead_0 rfl (lv_at hl 0 rfl) ?_
  refine r_get C0 w 0 rfl kf_Au 0 (by decide) lf_RX0_9 rfl dX0_lead_1 ?_
  refine lv_iload_n hx hb dX0_lead_4 rfl (lv_at hl 1 rfl) ?_
  refine lv_iconst (v := (3 : Int32)) hx hb dX0_lead_5 (by decide) ?_
  refine lv_imul hx hb dX0_lead_6 ?_
  refine lv_iload_n hx hb dX0_lead_7 rfl (lv_at hl 2 rfl) ?_
  refine lv_iadd hx hb dX0_lead_8 ?_
  refine lv_iload_n hx hb dX0_lead_9 rfl (lv_at hl 3 rfl) ?_
  obtain ⟨hi, h⟩ := gIn_h h
  obtain ⟨v_moves_1, ev_moves_1⟩ : ∃ y, y = (upd v_moves ((x1 * (3 : Int32)) + x2).toNatClampNeg x3) := ⟨_, rfl⟩
  have h := bnd_at ev_moves_1 h
  refine r_iast C0 w 1 rfl (f' := v_moves_1) rfl hi ev_moves_1 dX0_lead_10 (ws' := (ws_Au_lead cI cJ cZ q_this q_moves q_finals n_moves v_size v_letters v_moves_1)) rfl (fun H locs w => ?_)
  cases h
  exact hQ _ _ _ _ dX0_lead_11 w
theorem dX0_next_0 : decode cX0_next 0 = .ok (.aload_n 0, 1) := by decide +kernel
theorem dX0_next_1 : decode cX0_next 1 = .ok (.getfield 9, 3) := by decide +kernel
theorem dX0_next_4 : decode cX0_next 4 = .ok (.iload_n 1, 1) := by decide +kernel
theorem dX0_next_5 : decode cX0_next 5 = .ok (.iconst 3, 1) := by decide +kernel
theorem dX0_next_6 : decode cX0_next 6 = .ok (.imul, 1) := by decide +kernel
theorem dX0_next_7 : decode cX0_next 7 = .ok (.iload_n 2, 1) := by decide +kernel
theorem dX0_next_8 : decode cX0_next 8 = .ok (.iadd, 1) := by decide +kernel
theorem dX0_next_9 : decode cX0_next 9 = .ok (.iaload, 1) := by decide +kernel
theorem dX0_next_10 : decode cX0_next 10 = .ok (.ireturn, 1) := by decide +kernel
set_option maxRecDepth 100000 in
theorem c_Au_next {l : Launch} {D : va_G} {cI cJ cZ cO : ClassId} {q_this q_moves q_finals : Nat} {n_moves : Nat} {x1 : Int32} {x2 : Int32} {v_size : Int32} {v_letters : Int32} {v_moves : (Nat → Int32)} {x : Int32} (h : f_Au_next n_moves x1 x2 v_moves = some x) : ctI l D cI cJ cZ cO yX0_next cX0_next 3 .int rm_Au_next [.ref q_this, .int x1, .int x2] (ws_Au_next cI cJ cZ q_this q_moves q_finals n_moves v_size v_letters v_moves) (ws_Au_next cI cJ cZ q_this q_moves q_finals n_moves v_size v_letters v_moves) x := by
  refine ctI_of (by decide) (Nat.le_of_ble_eq_true rfl) ?_
  intro p e s m below meth c Q A ls C0 hQ w hl
  have hl : lv_has ls 3 [(0, .ref q_this), (1, .int x1), (2, .int x2)] := hl
  generalize List.toArray (α := Value) [.ref q_this, .int x1, .int x2] = args at C0 hQ ⊢
  obtain ⟨hx, hb, hml, hown, hts, -, -⟩ := id C0
  unfold f_Au_next at h
  refine lv_aload_n hx hb dX0_next_0 rfl (lv_at hl 0 rfl) ?_
  refine r_get C0 w 0 rfl kf_Au 0 (by decide) lf_RX0_9 rfl dX0_next_1 ?_
  refine lv_iload_n hx hb dX0_next_4 rfl (lv_at hl 1 rfl) ?_
  refine lv_iconst (v := (3 : Int32)) hx hb dX0_next_5 (by decide) ?_
  refine lv_imul hx hb dX0_next_6 ?_
  refine lv_iload_n hx hb dX0_next_7 rfl (lv_at hl 2 rfl) ?_
  refine lv_iadd hx hb dX0_next_8 ?_
  obtain ⟨hi, h⟩ := gIn_h h
  refine r_iald C0 w 1 rfl rfl hi dX0_next_9 ?_
  cases h
  exact hQ _ _ _ _ dX0_next_10 rfl w
theorem dX9_setMove_0 : decode cX9_setMove 0 = .ok (.aload_n 0, 1) := by decide +kernel
theorem dX9_setMove_1 : decode cX9_setMove 1 = .ok (.getfield 10, 3) := by decide +kernel
theorem dX9_setMove_4 : decode cX9_setMove 4 = .ok (.getfield 35, 3) := by decide +kernel
theorem dX9_setMove_7 : decode cX9_setMove 7 = .ok (.getfield 39, 3) := by decide +kernel
theorem dX9_setMove_10 : decode cX9_setMove 10 = .ok (.astore 4, 2) := by decide +kernel
theorem dX9_setMove_12 : decode cX9_setMove 12 = .ok (.aload 4, 2) := by decide +kernel
theorem dX9_setMove_14 : decode cX9_setMove 14 = .ok (.iload_n 1, 1) := by decide +kernel
theorem dX9_setMove_15 : decode cX9_setMove 15 = .ok (.invokevirtual 57, 3) := by decide +kernel
theorem dX9_setMove_18 : decode cX9_setMove 18 = .ok (.ifCond .eq 21, 3) := by decide +kernel
theorem dX9_setMove_21 : decode cX9_setMove 21 = .ok (.aload 4, 2) := by decide +kernel
theorem dX9_setMove_23 : decode cX9_setMove 23 = .ok (.iload_n 2, 1) := by decide +kernel
theorem dX9_setMove_24 : decode cX9_setMove 24 = .ok (.invokevirtual 61, 3) := by decide +kernel
theorem dX9_setMove_27 : decode cX9_setMove 27 = .ok (.ifCond .eq 12, 3) := by decide +kernel
theorem dX9_setMove_30 : decode cX9_setMove 30 = .ok (.aload 4, 2) := by decide +kernel
theorem dX9_setMove_32 : decode cX9_setMove 32 = .ok (.iload_n 3, 1) := by decide +kernel
theorem dX9_setMove_33 : decode cX9_setMove 33 = .ok (.invokevirtual 57, 3) := by decide +kernel
theorem dX9_setMove_36 : decode cX9_setMove 36 = .ok (.ifCond .ne 6, 3) := by decide +kernel
theorem dX9_setMove_39 : decode cX9_setMove 39 = .ok (.bipush (-2), 2) := by decide +kernel
theorem dX9_setMove_41 : decode cX9_setMove 41 = .ok (.ireturn, 1) := by decide +kernel
theorem dX9_setMove_42 : decode cX9_setMove 42 = .ok (.aload 4, 2) := by decide +kernel
theorem dX9_setMove_44 : decode cX9_setMove 44 = .ok (.iload_n 1, 1) := by decide +kernel
theorem dX9_setMove_45 : decode cX9_setMove 45 = .ok (.iload_n 2, 1) := by decide +kernel
theorem dX9_setMove_46 : decode cX9_setMove 46 = .ok (.invokevirtual 64, 3) := by decide +kernel
theorem dX9_setMove_49 : decode cX9_setMove 49 = .ok (.istore 5, 2) := by decide +kernel
theorem dX9_setMove_51 : decode cX9_setMove 51 = .ok (.aload 4, 2) := by decide +kernel
theorem dX9_setMove_53 : decode cX9_setMove 53 = .ok (.iload_n 1, 1) := by decide +kernel
theorem dX9_setMove_54 : decode cX9_setMove 54 = .ok (.iload_n 2, 1) := by decide +kernel
theorem dX9_setMove_55 : decode cX9_setMove 55 = .ok (.iload_n 3, 1) := by decide +kernel
theorem dX9_setMove_56 : decode cX9_setMove 56 = .ok (.invokevirtual 68, 3) := by decide +kernel
theorem dX9_setMove_59 : decode cX9_setMove 59 = .ok (.aload_n 0, 1) := by decide +kernel
theorem dX9_setMove_60 : decode cX9_setMove 60 = .ok (.getfield 10, 3) := by decide +kernel
theorem dX9_setMove_63 : decode cX9_setMove 63 = .ok (.invokevirtual 54, 3) := by decide +kernel
theorem dX9_setMove_66 : decode cX9_setMove 66 = .ok (.iload 5, 2) := by decide +kernel
theorem dX9_setMove_68 : decode cX9_setMove 68 = .ok (.ireturn, 1) := by decide +kernel
set_option maxRecDepth 100000 in
theorem c_TL_setMove {l : Launch} {D : va_G} {cI cJ cZ cO : ClassId} {q_this q_world q_slots q_text q_search q_world_teacher q_world_learner q_world_teacher_machine q_world_teacher_lies q_world_teacher_machine_moves q_world_teacher_machine_finals q_world_learner_asked q_world_learner_table q_world_learner_hypothesis q_world_learner_representatives q_world_learner_asked_entries q_world_learner_table_prefixes q_world_learner_table_suffixes q_world_learner_table_known q_world_learner_table_bits q_world_learner_table_prefixes_words q_world_learner_table_suffixes_words q_world_learner_hypothesis_moves q_world_learner_hypothesis_finals : Nat} {x1 : Int32} {x2 : Int32} {x3 : Int32} {v_textLength : Int32} {v_world_teacher_lieCount : Int32} {v_world_teacher_machine_size : Int32} {v_world_teacher_machine_letters : Int32} {v_world_teacher_machine_moves : (Nat → Int32)} {v_world_learner_mode : Int32} {v_world_learner_budget : Int32} {v_world_learner_formed : Int32} {v_world_learner_counterexample : Int64} {v_world_learner_corrections : Int32} {v_world_learner_deceived : Int32} {v_world_learner_asked_size : Int32} {v_world_learner_table_letters : Int32} {v_world_learner_table_prefixes_size : Int32} {v_world_learner_table_prefixes_longest : Int32} {v_world_learner_table_prefixes_words : (Nat → Int64)} {v_world_learner_table_suffixes_size : Int32} {v_world_learner_table_suffixes_longest : Int32} {v_world_learner_table_suffixes_words : (Nat → Int64)} {v_world_learner_table_known : (Nat → Int32)} {v_world_learner_table_bits : (Nat → Int32)} {v_world_learner_hypothesis_size : Int32} {v_world_learner_hypothesis_letters : Int32} {v_world_learner_hypothesis_moves : (Nat → Int32)} {v_world_learner_hypothesis_finals : (Nat → Int32)} {x : Int32 × (Nat → Int32) × Int32 × (Nat → Int64) × Int32 × Int32 × (Nat → Int64) × Int32 × Int32 × (Nat → Int32) × (Nat → Int32) × Int32 × (Nat → Int32) × (Nat → Int32) × Int32 × Int32 × Int32 × Int64 × Int32 × Int32} (h : f_TL_setMove x1 x2 x3 v_world_teacher_machine_size v_world_teacher_machine_letters v_world_teacher_machine_moves v_world_learner_formed v_world_learner_counterexample v_world_learner_corrections v_world_learner_deceived v_world_learner_asked_size v_world_learner_table_letters v_world_learner_table_prefixes_size v_world_learner_table_prefixes_longest v_world_learner_table_prefixes_words v_world_learner_table_suffixes_size v_world_learner_table_suffixes_longest v_world_learner_table_suffixes_words v_world_learner_table_known v_world_learner_table_bits v_world_learner_hypothesis_size v_world_learner_hypothesis_letters v_world_learner_hypothesis_moves v_world_learner_hypothesis_finals = some x) : ctI l D cI cJ cZ cO yX9_setMove cX9_setMove 6 .int rm_TL_setMove [.ref q_this, .int x1, .int x2, .int x3] (ws_TL_setMove cI cJ cZ q_this q_world q_slots q_text q_search q_world_teacher q_world_learner q_world_teacher_machine q_world_teacher_lies q_world_teacher_machine_moves q_world_teacher_machine_finals q_world_learner_asked q_world_learner_table q_world_learner_hypothesis q_world_learner_representatives q_world_learner_asked_entries q_world_learner_table_prefixes q_world_learner_table_suffixes q_world_learner_table_known q_world_learner_table_bits q_world_learner_table_prefixes_words q_world_learner_table_suffixes_words q_world_learner_hypothesis_moves q_world_learner_hypothesis_finals v_textLength v_world_teacher_lieCount v_world_teacher_machine_size v_world_teacher_machine_letters v_world_teacher_machine_moves v_world_learner_mode v_world_learner_budget v_world_learner_formed v_world_learner_counterexample v_world_learner_corrections v_world_learner_deceived v_world_learner_asked_size v_world_learner_table_letters v_world_learner_table_prefixes_size v_world_learner_table_prefixes_longest v_world_learner_table_prefixes_words v_world_learner_table_suffixes_size v_world_learner_table_suffixes_longest v_world_learner_table_suffixes_words v_world_learner_table_known v_world_learner_table_bits v_world_learner_hypothesis_size v_world_learner_hypothesis_letters v_world_learner_hypothesis_moves v_world_learner_hypothesis_finals) (ws_TL_setMove cI cJ cZ q_this q_world q_slots q_text q_search q_world_teacher q_world_learner q_world_teacher_machine q_world_teacher_lies q_world_teacher_machine_moves q_world_teacher_machine_finals q_world_learner_asked q_world_learner_table q_world_learner_hypothesis q_world_learner_representatives q_world_learner_asked_entries q_world_learner_table_prefixes q_world_learner_table_suffixes q_world_learner_table_known q_world_learner_table_bits q_world_learner_table_prefixes_words q_world_learner_table_suffixes_words q_world_learner_hypothesis_moves q_world_learner_hypothesis_finals v_textLength v_world_teacher_lieCount v_world_teacher_machine_size v_world_teacher_machine_letters x.2.1 v_world_learner_mode v_world_learner_budget x.2.2.2.2.2.2.2.2.2.2.2.2.2.2.2.2.1 x.2.2.2.2.2.2.2.2.2.2.2.2.2.2.2.2.2.1 x.2.2.2.2.2.2.2.2.2.2.2.2.2.2.2.2.2.2.1 x.2.2.2.2.2.2.2.2.2.2.2.2.2.2.2.2.2.2.2 x.2.2.1 x.2.2.2.2.2.2.2.2.2.2.2.1 x.2.2.2.2.1 x.2.2.2.2.2.1 x.2.2.2.1 x.2.2.2.2.2.2.2.1 x.2.2.2.2.2.2.2.2.1 x.2.2.2.2.2.2.1 x.2.2.2.2.2.2.2.2.2.1 x.2.2.2.2.2.2.2.2.2.2.1 x.2.2.2.2.2.2.2.2.2.2.2.2.2.2.1 x.2.2.2.2.2.2.2.2.2.2.2.2.2.2.2.1 x.2.2.2.2.2.2.2.2.2.2.2.2.1 x.2.2.2.2.2.2.2.2.2.2.2.2.2.1) x.1 := by
  refine ctI_of (by decide) (Nat.le_of_ble_eq_true rfl) ?_
  intro p e s m below meth c Q A ls C0 hQ w hl
  have hl : lv_has ls 6 [(0, .ref q_this), (1, .int x1), (2, .int x2), (3, .int x3)] := hl
  generalize List.toArray (α := Value) [.ref q_this, .int x1, .int x2, .int x3] = args at C0 hQ ⊢
  obtain ⟨hx, hb, hml, hown, hts, -, -⟩ := id C0
  unfold f_TL_setMove at h
  refine lv_aload_n hx hb dX9_setMove_0 rfl (lv_at hl 0 rfl) ?_
  refine r_get C0 w 0 rfl kf_TL 0 (by decide) lf_RX9_10 rfl dX9_setMove_1 ?_
  refine r_get C0 w 1 rfl kf_Wo 0 (by decide) lf_RX9_35 rfl dX9_setMove_4 ?_
  refine r_get C0 w 2 rfl kf_Te 0 (by decide) lf_RX9_39 rfl dX9_setMove_7 ?_
  refine lv_astore (lv' := [(4, .ref q_world_teacher_machine), (0, .ref q_this), (1, .int x1), (2, .int x2), (3, .int x3)]) hx hb dX9_setMove_10 hl (by decide) rfl (fun ls hl => ?_)
  refine lv_aload hx hb dX9_setMove_12 (lv_at hl 0 rfl) ?_
  refine lv_iload_n hx hb dX9_setMove_14 rfl (lv_at hl 2 rfl) ?_
  obtain ⟨r, hcall, h⟩ := bd1_h h
  obtain ⟨wr, hp, hp'⟩ := rd_of (ws := (ws_TL_setMove cI cJ cZ q_this q_world q_slots q_text q_search q_world_teacher q_world_learner q_world_teacher_machine q_world_teacher_lies q_world_teacher_machine_moves q_world_teacher_machine_finals q_world_learner_asked q_world_learner_table q_world_learner_hypothesis q_world_learner_representatives q_world_learner_asked_entries q_world_learner_table_prefixes q_world_learner_table_suffixes q_world_learner_table_known q_world_learner_table_bits q_world_learner_table_prefixes_words q_world_learner_table_suffixes_words q_world_learner_hypothesis_moves q_world_learner_hypothesis_finals v_textLength v_world_teacher_lieCount v_world_teacher_machine_size v_world_teacher_machine_letters v_world_teacher_machine_moves v_world_learner_mode v_world_learner_budget v_world_learner_formed v_world_learner_counterexample v_world_learner_corrections v_world_learner_deceived v_world_learner_asked_size v_world_learner_table_letters v_world_learner_table_prefixes_size v_world_learner_table_prefixes_longest v_world_learner_table_prefixes_words v_world_learner_table_suffixes_size v_world_learner_table_suffixes_longest v_world_learner_table_suffixes_words v_world_learner_table_known v_world_learner_table_bits v_world_learner_hypothesis_size v_world_learner_hypothesis_letters v_world_learner_hypothesis_moves v_world_learner_hypothesis_finals)) (wc := (ws_Au_hasState cI cJ cZ q_world_teacher_machine q_world_teacher_machine_moves q_world_teacher_machine_finals v_world_teacher_machine_size v_world_teacher_machine_letters)) [3] rfl rfl
  refine r_VI (r := r) (As := [.int x1]) (rest := []) (wc' := (ws_Au_hasState cI cJ cZ q_world_teacher_machine q_world_teacher_machine_moves q_world_teacher_machine_finals v_world_teacher_machine_size v_world_teacher_machine_letters)) (ws' := (ws_TL_setMove cI cJ cZ q_this q_world q_slots q_text q_search q_world_teacher q_world_learner q_world_teacher_machine q_world_teacher_lies q_world_teacher_machine_moves q_world_teacher_machine_finals q_world_learner_asked q_world_learner_table q_world_learner_hypothesis q_world_learner_representatives q_world_learner_asked_entries q_world_learner_table_prefixes q_world_learner_table_suffixes q_world_learner_table_known q_world_learner_table_bits q_world_learner_table_prefixes_words q_world_learner_table_suffixes_words q_world_learner_hypothesis_moves q_world_learner_hypothesis_finals v_textLength v_world_teacher_lieCount v_world_teacher_machine_size v_world_teacher_machine_letters v_world_teacher_machine_moves v_world_learner_mode v_world_learner_budget v_world_learner_formed v_world_learner_counterexample v_world_learner_corrections v_world_learner_deceived v_world_learner_asked_size v_world_learner_table_letters v_world_learner_table_prefixes_size v_world_learner_table_prefixes_longest v_world_learner_table_prefixes_words v_world_learner_table_suffixes_size v_world_learner_table_suffixes_longest v_world_learner_table_suffixes_words v_world_learner_table_known v_world_learner_table_bits v_world_learner_hypothesis_size v_world_learner_hypothesis_letters v_world_learner_hypothesis_moves v_world_learner_hypothesis_finals)) C0 w (c_Au_hasState hcall) hp hp' lm_RX9_57 mv_Au_hasState ⟨rfl, rfl⟩ ⟨by decide, by decide⟩ ⟨Nat.zero_le _, Nat.zero_le _⟩ (q0 := 3) rfl rfl rfl rfl hl rfl (Nat.le_of_ble_eq_true rfl) dX9_setMove_15 (fun H locs w => ?_)
  refine lv_if_eq (tgt := 39) hx hb dX9_setMove_18 (by decide) (fun hc => ?_) (fun hc => ?_)
  · have h := if_h hc h
    refine lv_bipush (v := (-2 : Int32)) hx hb dX9_setMove_39 (by decide) ?_
    cases h
    exact hQ _ _ _ _ dX9_setMove_41 rfl w
  · have h := nf_h hc h
    refine lv_aload hx hb dX9_setMove_21 (lv_at hl 0 rfl) ?_
    refine lv_iload_n hx hb dX9_setMove_23 rfl (lv_at hl 3 rfl) ?_
    obtain ⟨r_1, hcall, h⟩ := bd1_h h
    obtain ⟨wr, hp, hp'⟩ := rd_of (ws := (ws_TL_setMove cI cJ cZ q_this q_world q_slots q_text q_search q_world_teacher q_world_learner q_world_teacher_machine q_world_teacher_lies q_world_teacher_machine_moves q_world_teacher_machine_finals q_world_learner_asked q_world_learner_table q_world_learner_hypothesis q_world_learner_representatives q_world_learner_asked_entries q_world_learner_table_prefixes q_world_learner_table_suffixes q_world_learner_table_known q_world_learner_table_bits q_world_learner_table_prefixes_words q_world_learner_table_suffixes_words q_world_learner_hypothesis_moves q_world_learner_hypothesis_finals v_textLength v_world_teacher_lieCount v_world_teacher_machine_size v_world_teacher_machine_letters v_world_teacher_machine_moves v_world_learner_mode v_world_learner_budget v_world_learner_formed v_world_learner_counterexample v_world_learner_corrections v_world_learner_deceived v_world_learner_asked_size v_world_learner_table_letters v_world_learner_table_prefixes_size v_world_learner_table_prefixes_longest v_world_learner_table_prefixes_words v_world_learner_table_suffixes_size v_world_learner_table_suffixes_longest v_world_learner_table_suffixes_words v_world_learner_table_known v_world_learner_table_bits v_world_learner_hypothesis_size v_world_learner_hypothesis_letters v_world_learner_hypothesis_moves v_world_learner_hypothesis_finals)) (wc := (ws_Au_hasLetter cI cJ cZ q_world_teacher_machine q_world_teacher_machine_moves q_world_teacher_machine_finals v_world_teacher_machine_size v_world_teacher_machine_letters)) [3] rfl rfl
    refine r_VI (r := r_1) (As := [.int x2]) (rest := []) (wc' := (ws_Au_hasLetter cI cJ cZ q_world_teacher_machine q_world_teacher_machine_moves q_world_teacher_machine_finals v_world_teacher_machine_size v_world_teacher_machine_letters)) (ws' := (ws_TL_setMove cI cJ cZ q_this q_world q_slots q_text q_search q_world_teacher q_world_learner q_world_teacher_machine q_world_teacher_lies q_world_teacher_machine_moves q_world_teacher_machine_finals q_world_learner_asked q_world_learner_table q_world_learner_hypothesis q_world_learner_representatives q_world_learner_asked_entries q_world_learner_table_prefixes q_world_learner_table_suffixes q_world_learner_table_known q_world_learner_table_bits q_world_learner_table_prefixes_words q_world_learner_table_suffixes_words q_world_learner_hypothesis_moves q_world_learner_hypothesis_finals v_textLength v_world_teacher_lieCount v_world_teacher_machine_size v_world_teacher_machine_letters v_world_teacher_machine_moves v_world_learner_mode v_world_learner_budget v_world_learner_formed v_world_learner_counterexample v_world_learner_corrections v_world_learner_deceived v_world_learner_asked_size v_world_learner_table_letters v_world_learner_table_prefixes_size v_world_learner_table_prefixes_longest v_world_learner_table_prefixes_words v_world_learner_table_suffixes_size v_world_learner_table_suffixes_longest v_world_learner_table_suffixes_words v_world_learner_table_known v_world_learner_table_bits v_world_learner_hypothesis_size v_world_learner_hypothesis_letters v_world_learner_hypothesis_moves v_world_learner_hypothesis_finals)) C0 w (c_Au_hasLetter hcall) hp hp' lm_RX9_61 mv_Au_hasLetter ⟨rfl, rfl⟩ ⟨by decide, by decide⟩ ⟨Nat.zero_le _, Nat.zero_le _⟩ (q0 := 3) rfl rfl rfl rfl hl rfl (Nat.le_of_ble_eq_true rfl) dX9_setMove_24 (fun H locs w => ?_)
    refine lv_if_eq (tgt := 39) hx hb dX9_setMove_27 (by decide) (fun hc => ?_) (fun hc => ?_)
    · have h := if_h hc h
      refine lv_bipush (v := (-2 : Int32)) hx hb dX9_setMove_39 (by decide) ?_
      cases h
      exact hQ _ _ _ _ dX9_setMove_41 rfl w
    · have h := nf_h hc h
      refine lv_aload hx hb dX9_setMove_30 (lv_at hl 0 rfl) ?_
      refine lv_iload_n hx hb dX9_setMove_32 rfl (lv_at hl 4 rfl) ?_
      obtain ⟨r_2, hcall, h⟩ := bd1_h h
      obtain ⟨wr, hp, hp'⟩ := rd_of (ws := (ws_TL_setMove cI cJ cZ q_this q_world q_slots q_text q_search q_world_teacher q_world_learner q_world_teacher_machine q_world_teacher_lies q_world_teacher_machine_moves q_world_teacher_machine_finals q_world_learner_asked q_world_learner_table q_world_learner_hypothesis q_world_learner_representatives q_world_learner_asked_entries q_world_learner_table_prefixes q_world_learner_table_suffixes q_world_learner_table_known q_world_learner_table_bits q_world_learner_table_prefixes_words q_world_learner_table_suffixes_words q_world_learner_hypothesis_moves q_world_learner_hypothesis_finals v_textLength v_world_teacher_lieCount v_world_teacher_machine_size v_world_teacher_machine_letters v_world_teacher_machine_moves v_world_learner_mode v_world_learner_budget v_world_learner_formed v_world_learner_counterexample v_world_learner_corrections v_world_learner_deceived v_world_learner_asked_size v_world_learner_table_letters v_world_learner_table_prefixes_size v_world_learner_table_prefixes_longest v_world_learner_table_prefixes_words v_world_learner_table_suffixes_size v_world_learner_table_suffixes_longest v_world_learner_table_suffixes_words v_world_learner_table_known v_world_learner_table_bits v_world_learner_hypothesis_size v_world_learner_hypothesis_letters v_world_learner_hypothesis_moves v_world_learner_hypothesis_finals)) (wc := (ws_Au_hasState cI cJ cZ q_world_teacher_machine q_world_teacher_machine_moves q_world_teacher_machine_finals v_world_teacher_machine_size v_world_teacher_machine_letters)) [3] rfl rfl
      refine r_VI (r := r_2) (As := [.int x3]) (rest := []) (wc' := (ws_Au_hasState cI cJ cZ q_world_teacher_machine q_world_teacher_machine_moves q_world_teacher_machine_finals v_world_teacher_machine_size v_world_teacher_machine_letters)) (ws' := (ws_TL_setMove cI cJ cZ q_this q_world q_slots q_text q_search q_world_teacher q_world_learner q_world_teacher_machine q_world_teacher_lies q_world_teacher_machine_moves q_world_teacher_machine_finals q_world_learner_asked q_world_learner_table q_world_learner_hypothesis q_world_learner_representatives q_world_learner_asked_entries q_world_learner_table_prefixes q_world_learner_table_suffixes q_world_learner_table_known q_world_learner_table_bits q_world_learner_table_prefixes_words q_world_learner_table_suffixes_words q_world_learner_hypothesis_moves q_world_learner_hypothesis_finals v_textLength v_world_teacher_lieCount v_world_teacher_machine_size v_world_teacher_machine_letters v_world_teacher_machine_moves v_world_learner_mode v_world_learner_budget v_world_learner_formed v_world_learner_counterexample v_world_learner_corrections v_world_learner_deceived v_world_learner_asked_size v_world_learner_table_letters v_world_learner_table_prefixes_size v_world_learner_table_prefixes_longest v_world_learner_table_prefixes_words v_world_learner_table_suffixes_size v_world_learner_table_suffixes_longest v_world_learner_table_suffixes_words v_world_learner_table_known v_world_learner_table_bits v_world_learner_hypothesis_size v_world_learner_hypothesis_letters v_world_learner_hypothesis_moves v_world_learner_hypothesis_finals)) C0 w (c_Au_hasState hcall) hp hp' lm_RX9_57 mv_Au_hasState ⟨rfl, rfl⟩ ⟨by decide, by decide⟩ ⟨Nat.zero_le _, Nat.zero_le _⟩ (q0 := 3) rfl rfl rfl rfl hl rfl (Nat.le_of_ble_eq_true rfl) dX9_setMove_33 (fun H locs w => ?_)
      refine lv_if_ne (tgt := 42) hx hb dX9_setMove_36 (by decide) (fun hc => ?_) (fun hc => ?_)
      · have h := nf_h hc h
        refine lv_aload hx hb dX9_setMove_42 (lv_at hl 0 rfl) ?_
        refine lv_iload_n hx hb dX9_setMove_44 rfl (lv_at hl 2 rfl) ?_
        refine lv_iload_n hx hb dX9_setMove_45 rfl (lv_at hl 3 rfl) ?_
        obtain ⟨r_3, hcall, h⟩ := bd1_h h
        obtain ⟨wr, hp, hp'⟩ := rd_of (ws := (ws_TL_setMove cI cJ cZ q_this q_world q_slots q_text q_search q_world_teacher q_world_learner q_world_teacher_machine q_world_teacher_lies q_world_teacher_machine_moves q_world_teacher_machine_finals q_world_learner_asked q_world_learner_table q_world_learner_hypothesis q_world_learner_representatives q_world_learner_asked_entries q_world_learner_table_prefixes q_world_learner_table_suffixes q_world_learner_table_known q_world_learner_table_bits q_world_learner_table_prefixes_words q_world_learner_table_suffixes_words q_world_learner_hypothesis_moves q_world_learner_hypothesis_finals v_textLength v_world_teacher_lieCount v_world_teacher_machine_size v_world_teacher_machine_letters v_world_teacher_machine_moves v_world_learner_mode v_world_learner_budget v_world_learner_formed v_world_learner_counterexample v_world_learner_corrections v_world_learner_deceived v_world_learner_asked_size v_world_learner_table_letters v_world_learner_table_prefixes_size v_world_learner_table_prefixes_longest v_world_learner_table_prefixes_words v_world_learner_table_suffixes_size v_world_learner_table_suffixes_longest v_world_learner_table_suffixes_words v_world_learner_table_known v_world_learner_table_bits v_world_learner_hypothesis_size v_world_learner_hypothesis_letters v_world_learner_hypothesis_moves v_world_learner_hypothesis_finals)) (wc := (ws_Au_next cI cJ cZ q_world_teacher_machine q_world_teacher_machine_moves q_world_teacher_machine_finals 24 v_world_teacher_machine_size v_world_teacher_machine_letters v_world_teacher_machine_moves)) [3, 4] rfl rfl
        refine r_VI (r := r_3) (As := [.int x1, .int x2]) (rest := []) (wc' := (ws_Au_next cI cJ cZ q_world_teacher_machine q_world_teacher_machine_moves q_world_teacher_machine_finals 24 v_world_teacher_machine_size v_world_teacher_machine_letters v_world_teacher_machine_moves)) (ws' := (ws_TL_setMove cI cJ cZ q_this q_world q_slots q_text q_search q_world_teacher q_world_learner q_world_teacher_machine q_world_teacher_lies q_world_teacher_machine_moves q_world_teacher_machine_finals q_world_learner_asked q_world_learner_table q_world_learner_hypothesis q_world_learner_representatives q_world_learner_asked_entries q_world_learner_table_prefixes q_world_learner_table_suffixes q_world_learner_table_known q_world_learner_table_bits q_world_learner_table_prefixes_words q_world_learner_table_suffixes_words q_world_learner_hypothesis_moves q_world_learner_hypothesis_finals v_textLength v_world_teacher_lieCount v_world_teacher_machine_size v_world_teacher_machine_letters v_world_teacher_machine_moves v_world_learner_mode v_world_learner_budget v_world_learner_formed v_world_learner_counterexample v_world_learner_corrections v_world_learner_deceived v_world_learner_asked_size v_world_learner_table_letters v_world_learner_table_prefixes_size v_world_learner_table_prefixes_longest v_world_learner_table_prefixes_words v_world_learner_table_suffixes_size v_world_learner_table_suffixes_longest v_world_learner_table_suffixes_words v_world_learner_table_known v_world_learner_table_bits v_world_learner_hypothesis_size v_world_learner_hypothesis_letters v_world_learner_hypothesis_moves v_world_learner_hypothesis_finals)) C0 w (c_Au_next hcall) hp hp' lm_RX9_64 mv_Au_next ⟨rfl, rfl⟩ ⟨by decide, by decide⟩ ⟨Nat.zero_le _, Nat.zero_le _⟩ (q0 := 3) rfl rfl rfl rfl hl rfl (Nat.le_of_ble_eq_true rfl) dX9_setMove_46 (fun H locs w => ?_)
        refine lv_istore (lv' := [(5, .int r_3), (4, .ref q_world_teacher_machine), (0, .ref q_this), (1, .int x1), (2, .int x2), (3, .int x3)]) hx hb dX9_setMove_49 hl (by decide) rfl (fun ls hl => ?_)
        refine lv_aload hx hb dX9_setMove_51 (lv_at hl 1 rfl) ?_
        refine lv_iload_n hx hb dX9_setMove_53 rfl (lv_at hl 3 rfl) ?_
        refine lv_iload_n hx hb dX9_setMove_54 rfl (lv_at hl 4 rfl) ?_
        refine lv_iload_n hx hb dX9_setMove_55 rfl (lv_at hl 5 rfl) ?_
        obtain ⟨v_world_teacher_machine_moves_1, hcall, h⟩ := bd1_h h
        have hp := sp_of (ws := (ws_TL_setMove cI cJ cZ q_this q_world q_slots q_text q_search q_world_teacher q_world_learner q_world_teacher_machine q_world_teacher_lies q_world_teacher_machine_moves q_world_teacher_machine_finals q_world_learner_asked q_world_learner_table q_world_learner_hypothesis q_world_learner_representatives q_world_learner_asked_entries q_world_learner_table_prefixes q_world_learner_table_suffixes q_world_learner_table_known q_world_learner_table_bits q_world_learner_table_prefixes_words q_world_learner_table_suffixes_words q_world_learner_hypothesis_moves q_world_learner_hypothesis_finals v_textLength v_world_teacher_lieCount v_world_teacher_machine_size v_world_teacher_machine_letters v_world_teacher_machine_moves v_world_learner_mode v_world_learner_budget v_world_learner_formed v_world_learner_counterexample v_world_learner_corrections v_world_learner_deceived v_world_learner_asked_size v_world_learner_table_letters v_world_learner_table_prefixes_size v_world_learner_table_prefixes_longest v_world_learner_table_prefixes_words v_world_learner_table_suffixes_size v_world_learner_table_suffixes_longest v_world_learner_table_suffixes_words v_world_learner_table_known v_world_learner_table_bits v_world_learner_hypothesis_size v_world_learner_hypothesis_letters v_world_learner_hypothesis_moves v_world_learner_hypothesis_finals)) (wc := (ws_Au_lead cI cJ cZ q_world_teacher_machine q_world_teacher_machine_moves q_world_teacher_machine_finals 24 v_world_teacher_machine_size v_world_teacher_machine_letters v_world_teacher_machine_moves)) [3, 4] [0, 1, 2, 5, 6, 7, 8, 9, 10, 11, 12, 13, 14, 15, 16] rfl rfl
        have hp' : Rp (pk (ws_TL_setMove cI cJ cZ q_this q_world q_slots q_text q_search q_world_teacher q_world_learner q_world_teacher_machine q_world_teacher_lies q_world_teacher_machine_moves q_world_teacher_machine_finals q_world_learner_asked q_world_learner_table q_world_learner_hypothesis q_world_learner_representatives q_world_learner_asked_entries q_world_learner_table_prefixes q_world_learner_table_suffixes q_world_learner_table_known q_world_learner_table_bits q_world_learner_table_prefixes_words q_world_learner_table_suffixes_words q_world_learner_hypothesis_moves q_world_learner_hypothesis_finals v_textLength v_world_teacher_lieCount v_world_teacher_machine_size v_world_teacher_machine_letters v_world_teacher_machine_moves v_world_learner_mode v_world_learner_budget v_world_learner_formed v_world_learner_counterexample v_world_learner_corrections v_world_learner_deceived v_world_learner_asked_size v_world_learner_table_letters v_world_learner_table_prefixes_size v_world_learner_table_prefixes_longest v_world_learner_table_prefixes_words v_world_learner_table_suffixes_size v_world_learner_table_suffixes_longest v_world_learner_table_suffixes_words v_world_learner_table_known v_world_learner_table_bits v_world_learner_hypothesis_size v_world_learner_hypothesis_letters v_world_learner_hypothesis_moves v_world_learner_hypothesis_finals) [0, 1, 2, 5, 6, 7, 8, 9, 10, 11, 12, 13, 14, 15, 16] ++ (ws_Au_lead cI cJ cZ q_world_teacher_machine q_world_teacher_machine_moves q_world_teacher_machine_finals 24 v_world_teacher_machine_size v_world_teacher_machine_letters v_world_teacher_machine_moves_1)) (ws_TL_setMove cI cJ cZ q_this q_world q_slots q_text q_search q_world_teacher q_world_learner q_world_teacher_machine q_world_teacher_lies q_world_teacher_machine_moves q_world_teacher_machine_finals q_world_learner_asked q_world_learner_table q_world_learner_hypothesis q_world_learner_representatives q_world_learner_asked_entries q_world_learner_table_prefixes q_world_learner_table_suffixes q_world_learner_table_known q_world_learner_table_bits q_world_learner_table_prefixes_words q_world_learner_table_suffixes_words q_world_learner_hypothesis_moves q_world_learner_hypothesis_finals v_textLength v_world_teacher_lieCount v_world_teacher_machine_size v_world_teacher_machine_letters v_world_teacher_machine_moves_1 v_world_learner_mode v_world_learner_budget v_world_learner_formed v_world_learner_counterexample v_world_learner_corrections v_world_learner_deceived v_world_learner_asked_size v_world_learner_table_letters v_world_learner_table_prefixes_size v_world_learner_table_prefixes_longest v_world_learner_table_prefixes_words v_world_learner_table_suffixes_size v_world_learner_table_suffixes_longest v_world_learner_table_suffixes_words v_world_learner_table_known v_world_learner_table_bits v_world_learner_hypothesis_size v_world_learner_hypothesis_letters v_world_learner_hypothesis_moves v_world_learner_hypothesis_finals) := ⟨[0, 1, 2, 15, 16, 3, 4, 5, 6, 7, 8, 9, 10, 11, 12, 13, 14], rfl, rfl⟩
        refine r_VV (As := [.int x1, .int x2, .int x3]) (rest := []) (wc' := (ws_Au_lead cI cJ cZ q_world_teacher_machine q_world_teacher_machine_moves q_world_teacher_machine_finals 24 v_world_teacher_machine_size v_world_teacher_machine_letters v_world_teacher_machine_moves_1)) (ws' := (ws_TL_setMove cI cJ cZ q_this q_world q_slots q_text q_search q_world_teacher q_world_learner q_world_teacher_machine q_world_teacher_lies q_world_teacher_machine_moves q_world_teacher_machine_finals q_world_learner_asked q_world_learner_table q_world_learner_hypothesis q_world_learner_representatives q_world_learner_asked_entries q_world_learner_table_prefixes q_world_learner_table_suffixes q_world_learner_table_known q_world_learner_table_bits q_world_learner_table_prefixes_words q_world_learner_table_suffixes_words q_world_learner_hypothesis_moves q_world_learner_hypothesis_finals v_textLength v_world_teacher_lieCount v_world_teacher_machine_size v_world_teacher_machine_letters v_world_teacher_machine_moves_1 v_world_learner_mode v_world_learner_budget v_world_learner_formed v_world_learner_counterexample v_world_learner_corrections v_world_learner_deceived v_world_learner_asked_size v_world_learner_table_letters v_world_learner_table_prefixes_size v_world_learner_table_prefixes_longest v_world_learner_table_prefixes_words v_world_learner_table_suffixes_size v_world_learner_table_suffixes_longest v_world_learner_table_suffixes_words v_world_learner_table_known v_world_learner_table_bits v_world_learner_hypothesis_size v_world_learner_hypothesis_letters v_world_learner_hypothesis_moves v_world_learner_hypothesis_finals)) C0 w (c_Au_lead hcall) hp hp' lm_RX9_68 mv_Au_lead ⟨rfl, rfl⟩ ⟨by decide, by decide⟩ ⟨Nat.zero_le _, Nat.zero_le _⟩ (q0 := 3) rfl rfl rfl rfl hl rfl (Nat.le_of_ble_eq_true rfl) dX9_setMove_56 (fun H locs w => ?_)
        refine lv_aload_n hx hb dX9_setMove_59 rfl (lv_at hl 2 rfl) ?_
        refine r_get C0 w 0 rfl kf_TL 0 (by decide) lf_RX9_10 rfl dX9_setMove_60 ?_
        obtain ⟨v_world_learner_asked_size_1, v_world_learner_table_prefixes_words_1, v_world_learner_table_prefixes_size_1, v_world_learner_table_prefixes_longest_1, v_world_learner_table_suffixes_words_1, v_world_learner_table_suffixes_size_1, v_world_learner_table_suffixes_longest_1, v_world_learner_table_known_1, v_world_learner_table_bits_1, v_world_learner_table_letters_1, v_world_learner_hypothesis_moves_1, v_world_learner_hypothesis_finals_1, v_world_learner_hypothesis_size_1, v_world_learner_hypothesis_letters_1, v_world_learner_formed_1, v_world_learner_counterexample_1, v_world_learner_corrections_1, v_world_learner_deceived_1, hcall, h⟩ := bd18_h h
        have hp := sp_of (ws := (ws_TL_setMove cI cJ cZ q_this q_world q_slots q_text q_search q_world_teacher q_world_learner q_world_teacher_machine q_world_teacher_lies q_world_teacher_machine_moves q_world_teacher_machine_finals q_world_learner_asked q_world_learner_table q_world_learner_hypothesis q_world_learner_representatives q_world_learner_asked_entries q_world_learner_table_prefixes q_world_learner_table_suffixes q_world_learner_table_known q_world_learner_table_bits q_world_learner_table_prefixes_words q_world_learner_table_suffixes_words q_world_learner_hypothesis_moves q_world_learner_hypothesis_finals v_textLength v_world_teacher_lieCount v_world_teacher_machine_size v_world_teacher_machine_letters v_world_teacher_machine_moves_1 v_world_learner_mode v_world_learner_budget v_world_learner_formed v_world_learner_counterexample v_world_learner_corrections v_world_learner_deceived v_world_learner_asked_size v_world_learner_table_letters v_world_learner_table_prefixes_size v_world_learner_table_prefixes_longest v_world_learner_table_prefixes_words v_world_learner_table_suffixes_size v_world_learner_table_suffixes_longest v_world_learner_table_suffixes_words v_world_learner_table_known v_world_learner_table_bits v_world_learner_hypothesis_size v_world_learner_hypothesis_letters v_world_learner_hypothesis_moves v_world_learner_hypothesis_finals)) (wc := (ws_Wo_startLearner cI cJ cZ q_world q_world_teacher q_world_learner q_world_teacher_machine q_world_teacher_lies q_world_teacher_machine_moves q_world_teacher_machine_finals q_world_learner_asked q_world_learner_table q_world_learner_hypothesis q_world_learner_representatives q_world_learner_asked_entries q_world_learner_table_prefixes q_world_learner_table_suffixes q_world_learner_table_known q_world_learner_table_bits q_world_learner_table_prefixes_words q_world_learner_table_suffixes_words q_world_learner_hypothesis_moves q_world_learner_hypothesis_finals v_world_teacher_lieCount v_world_teacher_machine_size v_world_teacher_machine_letters v_world_learner_mode v_world_learner_budget v_world_learner_formed v_world_learner_counterexample v_world_learner_corrections v_world_learner_deceived v_world_learner_asked_size v_world_learner_table_letters v_world_learner_table_prefixes_size v_world_learner_table_prefixes_longest v_world_learner_table_prefixes_words v_world_learner_table_suffixes_size v_world_learner_table_suffixes_longest v_world_learner_table_suffixes_words v_world_learner_table_known v_world_learner_table_bits v_world_learner_hypothesis_size v_world_learner_hypothesis_letters v_world_learner_hypothesis_moves v_world_learner_hypothesis_finals)) [1, 2, 3, 5, 6, 7, 8, 9, 10, 11, 12, 13, 14, 15, 16] [0, 4] rfl rfl
        have hp' : Rp (pk (ws_TL_setMove cI cJ cZ q_this q_world q_slots q_text q_search q_world_teacher q_world_learner q_world_teacher_machine q_world_teacher_lies q_world_teacher_machine_moves q_world_teacher_machine_finals q_world_learner_asked q_world_learner_table q_world_learner_hypothesis q_world_learner_representatives q_world_learner_asked_entries q_world_learner_table_prefixes q_world_learner_table_suffixes q_world_learner_table_known q_world_learner_table_bits q_world_learner_table_prefixes_words q_world_learner_table_suffixes_words q_world_learner_hypothesis_moves q_world_learner_hypothesis_finals v_textLength v_world_teacher_lieCount v_world_teacher_machine_size v_world_teacher_machine_letters v_world_teacher_machine_moves_1 v_world_learner_mode v_world_learner_budget v_world_learner_formed v_world_learner_counterexample v_world_learner_corrections v_world_learner_deceived v_world_learner_asked_size v_world_learner_table_letters v_world_learner_table_prefixes_size v_world_learner_table_prefixes_longest v_world_learner_table_prefixes_words v_world_learner_table_suffixes_size v_world_learner_table_suffixes_longest v_world_learner_table_suffixes_words v_world_learner_table_known v_world_learner_table_bits v_world_learner_hypothesis_size v_world_learner_hypothesis_letters v_world_learner_hypothesis_moves v_world_learner_hypothesis_finals) [0, 4] ++ (ws_Wo_startLearner cI cJ cZ q_world q_world_teacher q_world_learner q_world_teacher_machine q_world_teacher_lies q_world_teacher_machine_moves q_world_teacher_machine_finals q_world_learner_asked q_world_learner_table q_world_learner_hypothesis q_world_learner_representatives q_world_learner_asked_entries q_world_learner_table_prefixes q_world_learner_table_suffixes q_world_learner_table_known q_world_learner_table_bits q_world_learner_table_prefixes_words q_world_learner_table_suffixes_words q_world_learner_hypothesis_moves q_world_learner_hypothesis_finals v_world_teacher_lieCount v_world_teacher_machine_size v_world_teacher_machine_letters v_world_learner_mode v_world_learner_budget v_world_learner_formed_1 v_world_learner_counterexample_1 v_world_learner_corrections_1 v_world_learner_deceived_1 v_world_learner_asked_size_1 v_world_learner_table_letters_1 v_world_learner_table_prefixes_size_1 v_world_learner_table_prefixes_longest_1 v_world_learner_table_prefixes_words_1 v_world_learner_table_suffixes_size_1 v_world_learner_table_suffixes_longest_1 v_world_learner_table_suffixes_words_1 v_world_learner_table_known_1 v_world_learner_table_bits_1 v_world_learner_hypothesis_size_1 v_world_learner_hypothesis_letters_1 v_world_learner_hypothesis_moves_1 v_world_learner_hypothesis_finals_1)) (ws_TL_setMove cI cJ cZ q_this q_world q_slots q_text q_search q_world_teacher q_world_learner q_world_teacher_machine q_world_teacher_lies q_world_teacher_machine_moves q_world_teacher_machine_finals q_world_learner_asked q_world_learner_table q_world_learner_hypothesis q_world_learner_representatives q_world_learner_asked_entries q_world_learner_table_prefixes q_world_learner_table_suffixes q_world_learner_table_known q_world_learner_table_bits q_world_learner_table_prefixes_words q_world_learner_table_suffixes_words q_world_learner_hypothesis_moves q_world_learner_hypothesis_finals v_textLength v_world_teacher_lieCount v_world_teacher_machine_size v_world_teacher_machine_letters v_world_teacher_machine_moves_1 v_world_learner_mode v_world_learner_budget v_world_learner_formed_1 v_world_learner_counterexample_1 v_world_learner_corrections_1 v_world_learner_deceived_1 v_world_learner_asked_size_1 v_world_learner_table_letters_1 v_world_learner_table_prefixes_size_1 v_world_learner_table_prefixes_longest_1 v_world_learner_table_prefixes_words_1 v_world_learner_table_suffixes_size_1 v_world_learner_table_suffixes_longest_1 v_world_learner_table_suffixes_words_1 v_world_learner_table_known_1 v_world_learner_table_bits_1 v_world_learner_hypothesis_size_1 v_world_learner_hypothesis_letters_1 v_world_learner_hypothesis_moves_1 v_world_learner_hypothesis_finals_1) := ⟨[0, 2, 3, 4, 1, 5, 6, 7, 8, 9, 10, 11, 12, 13, 14, 15, 16], rfl, rfl⟩
        refine r_VV (As := []) (rest := []) (wc' := (ws_Wo_startLearner cI cJ cZ q_world q_world_teacher q_world_learner q_world_teacher_machine q_world_teacher_lies q_world_teacher_machine_moves q_world_teacher_machine_finals q_world_learner_asked q_world_learner_table q_world_learner_hypothesis q_world_learner_representatives q_world_learner_asked_entries q_world_learner_table_prefixes q_world_learner_table_suffixes q_world_learner_table_known q_world_learner_table_bits q_world_learner_table_prefixes_words q_world_learner_table_suffixes_words q_world_learner_hypothesis_moves q_world_learner_hypothesis_finals v_world_teacher_lieCount v_world_teacher_machine_size v_world_teacher_machine_letters v_world_learner_mode v_world_learner_budget v_world_learner_formed_1 v_world_learner_counterexample_1 v_world_learner_corrections_1 v_world_learner_deceived_1 v_world_learner_asked_size_1 v_world_learner_table_letters_1 v_world_learner_table_prefixes_size_1 v_world_learner_table_prefixes_longest_1 v_world_learner_table_prefixes_words_1 v_world_learner_table_suffixes_size_1 v_world_learner_table_suffixes_longest_1 v_world_learner_table_suffixes_words_1 v_world_learner_table_known_1 v_world_learner_table_bits_1 v_world_learner_hypothesis_size_1 v_world_learner_hypothesis_letters_1 v_world_learner_hypothesis_moves_1 v_world_learner_hypothesis_finals_1)) (ws' := (ws_TL_setMove cI cJ cZ q_this q_world q_slots q_text q_search q_world_teacher q_world_learner q_world_teacher_machine q_world_teacher_lies q_world_teacher_machine_moves q_world_teacher_machine_finals q_world_learner_asked q_world_learner_table q_world_learner_hypothesis q_world_learner_representatives q_world_learner_asked_entries q_world_learner_table_prefixes q_world_learner_table_suffixes q_world_learner_table_known q_world_learner_table_bits q_world_learner_table_prefixes_words q_world_learner_table_suffixes_words q_world_learner_hypothesis_moves q_world_learner_hypothesis_finals v_textLength v_world_teacher_lieCount v_world_teacher_machine_size v_world_teacher_machine_letters v_world_teacher_machine_moves_1 v_world_learner_mode v_world_learner_budget v_world_learner_formed_1 v_world_learner_counterexample_1 v_world_learner_corrections_1 v_world_learner_deceived_1 v_world_learner_asked_size_1 v_world_learner_table_letters_1 v_world_learner_table_prefixes_size_1 v_world_learner_table_prefixes_longest_1 v_world_learner_table_prefixes_words_1 v_world_learner_table_suffixes_size_1 v_world_learner_table_suffixes_longest_1 v_world_learner_table_suffixes_words_1 v_world_learner_table_known_1 v_world_learner_table_bits_1 v_world_learner_hypothesis_size_1 v_world_learner_hypothesis_letters_1 v_world_learner_hypothesis_moves_1 v_world_learner_hypothesis_finals_1)) C0 w (c_Wo_startLearner hcall) hp hp' lm_RX9_54 mv_Wo_startLearner ⟨rfl, rfl⟩ ⟨by decide, by decide⟩ ⟨Nat.zero_le _, Nat.zero_le _⟩ (q0 := 1) rfl rfl rfl rfl hl rfl (Nat.le_of_ble_eq_true rfl) dX9_setMove_63 (fun H locs w => ?_)
        refine lv_iload hx hb dX9_setMove_66 (lv_at hl 0 rfl) ?_
        cases h
        exact hQ _ _ _ _ dX9_setMove_68 rfl w
      · have h := if_h hc h
        refine lv_bipush (v := (-2 : Int32)) hx hb dX9_setMove_39 (by decide) ?_
        cases h
        exact hQ _ _ _ _ dX9_setMove_41 rfl w
theorem dX0_countFinals_0 : decode cX0_countFinals 0 = .ok (.iconst 0, 1) := by decide +kernel
theorem dX0_countFinals_1 : decode cX0_countFinals 1 = .ok (.istore_n 1, 1) := by decide +kernel
theorem dX0_countFinals_2 : decode cX0_countFinals 2 = .ok (.iconst 0, 1) := by decide +kernel
theorem dX0_countFinals_3 : decode cX0_countFinals 3 = .ok (.istore_n 2, 1) := by decide +kernel
theorem dX0_countFinals_4 : decode cX0_countFinals 4 = .ok (.iload_n 2, 1) := by decide +kernel
theorem dX0_countFinals_5 : decode cX0_countFinals 5 = .ok (.aload_n 0, 1) := by decide +kernel
theorem dX0_countFinals_6 : decode cX0_countFinals 6 = .ok (.getfield 18, 3) := by decide +kernel
theorem dX0_countFinals_9 : decode cX0_countFinals 9 = .ok (.if_icmp .ge 18, 3) := by decide +kernel
theorem dX0_countFinals_12 : decode cX0_countFinals 12 = .ok (.iload_n 1, 1) := by decide +kernel
theorem dX0_countFinals_13 : decode cX0_countFinals 13 = .ok (.aload_n 0, 1) := by decide +kernel
theorem dX0_countFinals_14 : decode cX0_countFinals 14 = .ok (.getfield 15, 3) := by decide +kernel
theorem dX0_countFinals_17 : decode cX0_countFinals 17 = .ok (.iload_n 2, 1) := by decide +kernel
theorem dX0_countFinals_18 : decode cX0_countFinals 18 = .ok (.iaload, 1) := by decide +kernel
theorem dX0_countFinals_19 : decode cX0_countFinals 19 = .ok (.iadd, 1) := by decide +kernel
theorem dX0_countFinals_20 : decode cX0_countFinals 20 = .ok (.istore_n 1, 1) := by decide +kernel
theorem dX0_countFinals_21 : decode cX0_countFinals 21 = .ok (.iinc 2 1, 3) := by decide +kernel
theorem dX0_countFinals_24 : decode cX0_countFinals 24 = .ok (.goto (-20), 3) := by decide +kernel
theorem dX0_countFinals_27 : decode cX0_countFinals 27 = .ok (.iload_n 1, 1) := by decide +kernel
theorem dX0_countFinals_28 : decode cX0_countFinals 28 = .ok (.ireturn, 1) := by decide +kernel
set_option maxRecDepth 100000 in
theorem w_Au_countFinals_L4 {p : Program} {l : Launch} {e : Env} {s : State} {m : MethodId} {args : Array Value} {below : List Frame} {meth : Method} {c : Code} {Q : State → Prop} {A : Nat → Prop} {D : va_G} {cI cJ cZ cO : ClassId} {q_this q_moves q_finals : Nat} {n_finals : Nat} {v_size : Int32} {v_letters : Int32} {v_finals : (Nat → Int32)} {x : Int32} (C0 : Cx p s m args c A D cI cJ cZ cO cX0_countFinals 3 RX0) (hQ : RtI p l e rm_Au_countFinals s m args below meth c Q A D cX0_countFinals .int (ws_Au_countFinals cI cJ cZ q_this q_moves q_finals n_finals v_size v_letters v_finals) x) {K : Int32 → Int32 → Option (Int32)} (hK : ∀ (x1 : Int32) (x2 : Int32) (H : Heap) (locs : List Loc) (ls : Array Slot), K x1 x2 = some x → Wd s A D (ws_Au_countFinals cI cJ cZ q_this q_moves q_finals n_finals v_size v_letters v_finals) H locs → lv_has ls 3 [(1, .int x1)] → W p l e rm_Au_countFinals s m args below meth c H locs 0 0 Q (F0 m 27 ls [])) {rec : Int32 → Int32 → Option (Int32)} (hrec : ∀ (x1 : Int32) (x2 : Int32) (H : Heap) (locs : List Loc) (ls : Array Slot), rec x1 x2 = some x → Wd s A D (ws_Au_countFinals cI cJ cZ q_this q_moves q_finals n_finals v_size v_letters v_finals) H locs → lv_has ls 3 [(0, .ref q_this), (1, .int x1), (2, .int x2)] → W p l e rm_Au_countFinals s m args below meth c H locs 0 0 Q (F0 m 4 ls [])) (x1 : Int32) (x2 : Int32) {H : Heap} {locs : List Loc} {ls : Array Slot} (h : f_Au_countFinals_L4 n_finals v_size v_finals K rec x1 x2 = some x) (w : Wd s A D (ws_Au_countFinals cI cJ cZ q_this q_moves q_finals n_finals v_size v_letters v_finals) H locs) (hl : lv_has ls 3 [(0, .ref q_this), (1, .int x1), (2, .int x2)]) : W p l e rm_Au_countFinals s m args below meth c H locs 0 0 Q (F0 m 4 ls []) := by
  obtain ⟨hx, hb, hml, hown, hts, -, -⟩ := id C0
  unfold f_Au_countFinals_L4 at h
  refine lv_iload_n hx hb dX0_countFinals_4 rfl (lv_at hl 2 rfl) ?_
  refine lv_aload_n hx hb dX0_countFinals_5 rfl (lv_at hl 0 rfl) ?_
  refine r_get C0 w 0 rfl kf_Au 2 (by decide) lf_RX0_18 rfl dX0_countFinals_6 ?_
  refine lv_icmp_ge (tgt := 27) hx hb dX0_countFinals_9 (by decide) (fun hc => ?_) (fun hc => ?_)
  · have h := if_h hc h
    exact hK _ _ _ _ _ h w (lv_sub hl [1] rfl)
  · have h := nf_h hc h
    refine lv_iload_n hx hb dX0_countFinals_12 rfl (lv_at hl 1 rfl) ?_
    refine lv_aload_n hx hb dX0_countFinals_13 rfl (lv_at hl 0 rfl) ?_
    refine r_get C0 w 0 rfl kf_Au 1 (by decide) lf_RX0_15 rfl dX0_countFinals_14 ?_
    refine lv_iload_n hx hb dX0_countFinals_17 rfl (lv_at hl 2 rfl) ?_
    obtain ⟨hi, h⟩ := gIn_h h
    refine r_iald C0 w 1 rfl rfl hi dX0_countFinals_18 ?_
    refine lv_iadd hx hb dX0_countFinals_19 ?_
    refine lv_topi (fun x1_1 ex1_1 => ?_)
    have h := bnd_at ex1_1 h
    refine lv_istore_n (lv' := [(1, .int x1_1), (0, .ref q_this), (2, .int x2)]) hx hb dX0_countFinals_20 rfl hl (by decide) rfl (fun ls hl => ?_)
    obtain ⟨x2_1, ex2_1⟩ : ∃ y : Int32, y = (x2 + 1) := ⟨_, rfl⟩
    have h := bnd_at ex2_1 h
    refine lv_iinc (v := x2_1) (lv' := [(2, .int x2_1), (1, .int x1_1), (0, .ref q_this)]) hx hb dX0_countFinals_21 hl (k := 2) rfl (by rw [ex2_1]; rfl) (by decide) rfl (fun ls hl => ?_)
    refine lv_goto (tgt := 4) hx hb dX0_countFinals_24 (by decide) ?_
    exact hrec _ _ _ _ _ h w (lv_sub hl [2, 1, 0] rfl)
set_option maxRecDepth 100000 in
theorem wl_Au_countFinals_L4 {p : Program} {l : Launch} {e : Env} {s : State} {m : MethodId} {args : Array Value} {below : List Frame} {meth : Method} {c : Code} {Q : State → Prop} {A : Nat → Prop} {D : va_G} {cI cJ cZ cO : ClassId} {q_this q_moves q_finals : Nat} {n_finals : Nat} {v_size : Int32} {v_letters : Int32} {v_finals : (Nat → Int32)} {x : Int32} (C0 : Cx p s m args c A D cI cJ cZ cO cX0_countFinals 3 RX0) (hQ : RtI p l e rm_Au_countFinals s m args below meth c Q A D cX0_countFinals .int (ws_Au_countFinals cI cJ cZ q_this q_moves q_finals n_finals v_size v_letters v_finals) x) {K : Int32 → Int32 → Option (Int32)} (hK : ∀ (x1 : Int32) (x2 : Int32) (H : Heap) (locs : List Loc) (ls : Array Slot), K x1 x2 = some x → Wd s A D (ws_Au_countFinals cI cJ cZ q_this q_moves q_finals n_finals v_size v_letters v_finals) H locs → lv_has ls 3 [(1, .int x1)] → W p l e rm_Au_countFinals s m args below meth c H locs 0 0 Q (F0 m 27 ls [])) : ∀ (n : Nat) (x1 : Int32) (x2 : Int32) (H : Heap) (locs : List Loc) (ls : Array Slot), itr (fun _ _ => none) (f_Au_countFinals_L4 n_finals v_size v_finals K) n x1 x2 = some x → Wd s A D (ws_Au_countFinals cI cJ cZ q_this q_moves q_finals n_finals v_size v_letters v_finals) H locs → lv_has ls 3 [(0, .ref q_this), (1, .int x1), (2, .int x2)] → W p l e rm_Au_countFinals s m args below meth c H locs 0 0 Q (F0 m 4 ls []) := by
  intro n
  induction n with
  | zero => intro _ _ _ _ _ h; cases (show none = some _ from h)
  | succ n ih => intro _ _ _ _ _ h w hl; exact w_Au_countFinals_L4 C0 hQ hK ih _ _ h w hl
set_option maxRecDepth 100000 in
theorem c_Au_countFinals {l : Launch} {D : va_G} {cI cJ cZ cO : ClassId} {q_this q_moves q_finals : Nat} {n_finals : Nat} {v_size : Int32} {v_letters : Int32} {v_finals : (Nat → Int32)} {x : Int32} (h : f_Au_countFinals n_finals v_size v_finals = some x) : ctI l D cI cJ cZ cO yX0_countFinals cX0_countFinals 3 .int rm_Au_countFinals [.ref q_this] (ws_Au_countFinals cI cJ cZ q_this q_moves q_finals n_finals v_size v_letters v_finals) (ws_Au_countFinals cI cJ cZ q_this q_moves q_finals n_finals v_size v_letters v_finals) x := by
  refine ctI_of (by decide) (Nat.le_of_ble_eq_true rfl) ?_
  intro p e s m below meth c Q A ls C0 hQ w hl
  have hl : lv_has ls 3 [(0, .ref q_this)] := hl
  generalize List.toArray (α := Value) [.ref q_this] = args at C0 hQ ⊢
  obtain ⟨hx, hb, hml, hown, hts, -, -⟩ := id C0
  unfold f_Au_countFinals at h
  refine lv_iconst (v := (0 : Int32)) hx hb dX0_countFinals_0 (by decide) ?_
  refine lv_istore_n (lv' := [(1, .int (0 : Int32)), (0, .ref q_this)]) hx hb dX0_countFinals_1 rfl hl (by decide) rfl (fun ls hl => ?_)
  refine lv_iconst (v := (0 : Int32)) hx hb dX0_countFinals_2 (by decide) ?_
  refine lv_istore_n (lv' := [(2, .int (0 : Int32)), (1, .int (0 : Int32)), (0, .ref q_this)]) hx hb dX0_countFinals_3 rfl hl (by decide) rfl (fun ls hl => ?_)
  refine wl_Au_countFinals_L4 C0 hQ (fun x1 x2 H locs ls h w hl => ?_) _ _ _ _ _ _ h w (lv_sub hl [2, 1, 0] rfl)
  refine lv_iload_n hx hb dX0_countFinals_27 rfl (lv_at hl 0 rfl) ?_
  cases h
  exact hQ _ _ _ _ dX0_countFinals_28 rfl w
theorem dX9_setFinal_0 : decode cX9_setFinal 0 = .ok (.aload_n 0, 1) := by decide +kernel
theorem dX9_setFinal_1 : decode cX9_setFinal 1 = .ok (.getfield 10, 3) := by decide +kernel
theorem dX9_setFinal_4 : decode cX9_setFinal 4 = .ok (.getfield 35, 3) := by decide +kernel
theorem dX9_setFinal_7 : decode cX9_setFinal 7 = .ok (.getfield 39, 3) := by decide +kernel
theorem dX9_setFinal_10 : decode cX9_setFinal 10 = .ok (.astore_n 3, 1) := by decide +kernel
theorem dX9_setFinal_11 : decode cX9_setFinal 11 = .ok (.aload_n 3, 1) := by decide +kernel
theorem dX9_setFinal_12 : decode cX9_setFinal 12 = .ok (.iload_n 1, 1) := by decide +kernel
theorem dX9_setFinal_13 : decode cX9_setFinal 13 = .ok (.invokevirtual 57, 3) := by decide +kernel
theorem dX9_setFinal_16 : decode cX9_setFinal 16 = .ok (.ifCond .ne 6, 3) := by decide +kernel
theorem dX9_setFinal_19 : decode cX9_setFinal 19 = .ok (.bipush (-2), 2) := by decide +kernel
theorem dX9_setFinal_21 : decode cX9_setFinal 21 = .ok (.ireturn, 1) := by decide +kernel
theorem dX9_setFinal_22 : decode cX9_setFinal 22 = .ok (.iload_n 2, 1) := by decide +kernel
theorem dX9_setFinal_23 : decode cX9_setFinal 23 = .ok (.ifCond .eq 7, 3) := by decide +kernel
theorem dX9_setFinal_26 : decode cX9_setFinal 26 = .ok (.iconst 1, 1) := by decide +kernel
theorem dX9_setFinal_27 : decode cX9_setFinal 27 = .ok (.goto 4, 3) := by decide +kernel
theorem dX9_setFinal_30 : decode cX9_setFinal 30 = .ok (.iconst 0, 1) := by decide +kernel
theorem dX9_setFinal_31 : decode cX9_setFinal 31 = .ok (.istore 4, 2) := by decide +kernel
theorem dX9_setFinal_33 : decode cX9_setFinal 33 = .ok (.aload_n 3, 1) := by decide +kernel
theorem dX9_setFinal_34 : decode cX9_setFinal 34 = .ok (.getfield 72, 3) := by decide +kernel
theorem dX9_setFinal_37 : decode cX9_setFinal 37 = .ok (.iload_n 1, 1) := by decide +kernel
theorem dX9_setFinal_38 : decode cX9_setFinal 38 = .ok (.iaload, 1) := by decide +kernel
theorem dX9_setFinal_39 : decode cX9_setFinal 39 = .ok (.iload 4, 2) := by decide +kernel
theorem dX9_setFinal_41 : decode cX9_setFinal 41 = .ok (.if_icmp .ne 6, 3) := by decide +kernel
theorem dX9_setFinal_44 : decode cX9_setFinal 44 = .ok (.bipush (-3), 2) := by decide +kernel
theorem dX9_setFinal_46 : decode cX9_setFinal 46 = .ok (.ireturn, 1) := by decide +kernel
theorem dX9_setFinal_47 : decode cX9_setFinal 47 = .ok (.aload_n 3, 1) := by decide +kernel
theorem dX9_setFinal_48 : decode cX9_setFinal 48 = .ok (.getfield 72, 3) := by decide +kernel
theorem dX9_setFinal_51 : decode cX9_setFinal 51 = .ok (.iload_n 1, 1) := by decide +kernel
theorem dX9_setFinal_52 : decode cX9_setFinal 52 = .ok (.iload 4, 2) := by decide +kernel
theorem dX9_setFinal_54 : decode cX9_setFinal 54 = .ok (.iastore, 1) := by decide +kernel
theorem dX9_setFinal_55 : decode cX9_setFinal 55 = .ok (.aload_n 0, 1) := by decide +kernel
theorem dX9_setFinal_56 : decode cX9_setFinal 56 = .ok (.getfield 10, 3) := by decide +kernel
theorem dX9_setFinal_59 : decode cX9_setFinal 59 = .ok (.invokevirtual 54, 3) := by decide +kernel
theorem dX9_setFinal_62 : decode cX9_setFinal 62 = .ok (.aload_n 3, 1) := by decide +kernel
theorem dX9_setFinal_63 : decode cX9_setFinal 63 = .ok (.invokevirtual 75, 3) := by decide +kernel
theorem dX9_setFinal_66 : decode cX9_setFinal 66 = .ok (.ireturn, 1) := by decide +kernel
set_option maxRecDepth 100000 in
theorem c_TL_setFinal {l : Launch} {D : va_G} {cI cJ cZ cO : ClassId} {q_this q_world q_slots q_text q_search q_world_teacher q_world_learner q_world_teacher_machine q_world_teacher_lies q_world_teacher_machine_moves q_world_teacher_machine_finals q_world_learner_asked q_world_learner_table q_world_learner_hypothesis q_world_learner_representatives q_world_learner_asked_entries q_world_learner_table_prefixes q_world_learner_table_suffixes q_world_learner_table_known q_world_learner_table_bits q_world_learner_table_prefixes_words q_world_learner_table_suffixes_words q_world_learner_hypothesis_moves q_world_learner_hypothesis_finals : Nat} {x1 : Int32} {x2 : Int32} {v_textLength : Int32} {v_world_teacher_lieCount : Int32} {v_world_teacher_machine_size : Int32} {v_world_teacher_machine_letters : Int32} {v_world_teacher_machine_finals : (Nat → Int32)} {v_world_learner_mode : Int32} {v_world_learner_budget : Int32} {v_world_learner_formed : Int32} {v_world_learner_counterexample : Int64} {v_world_learner_corrections : Int32} {v_world_learner_deceived : Int32} {v_world_learner_asked_size : Int32} {v_world_learner_table_letters : Int32} {v_world_learner_table_prefixes_size : Int32} {v_world_learner_table_prefixes_longest : Int32} {v_world_learner_table_prefixes_words : (Nat → Int64)} {v_world_learner_table_suffixes_size : Int32} {v_world_learner_table_suffixes_longest : Int32} {v_world_learner_table_suffixes_words : (Nat → Int64)} {v_world_learner_table_known : (Nat → Int32)} {v_world_learner_table_bits : (Nat → Int32)} {v_world_learner_hypothesis_size : Int32} {v_world_learner_hypothesis_letters : Int32} {v_world_learner_hypothesis_moves : (Nat → Int32)} {v_world_learner_hypothesis_finals : (Nat → Int32)} {x : Int32 × (Nat → Int32) × Int32 × (Nat → Int64) × Int32 × Int32 × (Nat → Int64) × Int32 × Int32 × (Nat → Int32) × (Nat → Int32) × Int32 × (Nat → Int32) × (Nat → Int32) × Int32 × Int32 × Int32 × Int64 × Int32 × Int32} (h : f_TL_setFinal x1 x2 v_world_teacher_machine_size v_world_teacher_machine_letters v_world_teacher_machine_finals v_world_learner_formed v_world_learner_counterexample v_world_learner_corrections v_world_learner_deceived v_world_learner_asked_size v_world_learner_table_letters v_world_learner_table_prefixes_size v_world_learner_table_prefixes_longest v_world_learner_table_prefixes_words v_world_learner_table_suffixes_size v_world_learner_table_suffixes_longest v_world_learner_table_suffixes_words v_world_learner_table_known v_world_learner_table_bits v_world_learner_hypothesis_size v_world_learner_hypothesis_letters v_world_learner_hypothesis_moves v_world_learner_hypothesis_finals = some x) : ctI l D cI cJ cZ cO yX9_setFinal cX9_setFinal 5 .int rm_TL_setFinal [.ref q_this, .int x1, .int x2] (ws_TL_setFinal cI cJ cZ q_this q_world q_slots q_text q_search q_world_teacher q_world_learner q_world_teacher_machine q_world_teacher_lies q_world_teacher_machine_moves q_world_teacher_machine_finals q_world_learner_asked q_world_learner_table q_world_learner_hypothesis q_world_learner_representatives q_world_learner_asked_entries q_world_learner_table_prefixes q_world_learner_table_suffixes q_world_learner_table_known q_world_learner_table_bits q_world_learner_table_prefixes_words q_world_learner_table_suffixes_words q_world_learner_hypothesis_moves q_world_learner_hypothesis_finals v_textLength v_world_teacher_lieCount v_world_teacher_machine_size v_world_teacher_machine_letters v_world_teacher_machine_finals v_world_learner_mode v_world_learner_budget v_world_learner_formed v_world_learner_counterexample v_world_learner_corrections v_world_learner_deceived v_world_learner_asked_size v_world_learner_table_letters v_world_learner_table_prefixes_size v_world_learner_table_prefixes_longest v_world_learner_table_prefixes_words v_world_learner_table_suffixes_size v_world_learner_table_suffixes_longest v_world_learner_table_suffixes_words v_world_learner_table_known v_world_learner_table_bits v_world_learner_hypothesis_size v_world_learner_hypothesis_letters v_world_learner_hypothesis_moves v_world_learner_hypothesis_finals) (ws_TL_setFinal cI cJ cZ q_this q_world q_slots q_text q_search q_world_teacher q_world_learner q_world_teacher_machine q_world_teacher_lies q_world_teacher_machine_moves q_world_teacher_machine_finals q_world_learner_asked q_world_learner_table q_world_learner_hypothesis q_world_learner_representatives q_world_learner_asked_entries q_world_learner_table_prefixes q_world_learner_table_suffixes q_world_learner_table_known q_world_learner_table_bits q_world_learner_table_prefixes_words q_world_learner_table_suffixes_words q_world_learner_hypothesis_moves q_world_learner_hypothesis_finals v_textLength v_world_teacher_lieCount v_world_teacher_machine_size v_world_teacher_machine_letters x.2.1 v_world_learner_mode v_world_learner_budget x.2.2.2.2.2.2.2.2.2.2.2.2.2.2.2.2.1 x.2.2.2.2.2.2.2.2.2.2.2.2.2.2.2.2.2.1 x.2.2.2.2.2.2.2.2.2.2.2.2.2.2.2.2.2.2.1 x.2.2.2.2.2.2.2.2.2.2.2.2.2.2.2.2.2.2.2 x.2.2.1 x.2.2.2.2.2.2.2.2.2.2.2.1 x.2.2.2.2.1 x.2.2.2.2.2.1 x.2.2.2.1 x.2.2.2.2.2.2.2.1 x.2.2.2.2.2.2.2.2.1 x.2.2.2.2.2.2.1 x.2.2.2.2.2.2.2.2.2.1 x.2.2.2.2.2.2.2.2.2.2.1 x.2.2.2.2.2.2.2.2.2.2.2.2.2.2.1 x.2.2.2.2.2.2.2.2.2.2.2.2.2.2.2.1 x.2.2.2.2.2.2.2.2.2.2.2.2.1 x.2.2.2.2.2.2.2.2.2.2.2.2.2.1) x.1 := by
  refine ctI_of (by decide) (Nat.le_of_ble_eq_true rfl) ?_
  intro p e s m below meth c Q A ls C0 hQ w hl
  have hl : lv_has ls 5 [(0, .ref q_this), (1, .int x1), (2, .int x2)] := hl
  generalize List.toArray (α := Value) [.ref q_this, .int x1, .int x2] = args at C0 hQ ⊢
  obtain ⟨hx, hb, hml, hown, hts, -, -⟩ := id C0
  unfold f_TL_setFinal at h
  refine lv_aload_n hx hb dX9_setFinal_0 rfl (lv_at hl 0 rfl) ?_
  refine r_get C0 w 0 rfl kf_TL 0 (by decide) lf_RX9_10 rfl dX9_setFinal_1 ?_
  refine r_get C0 w 1 rfl kf_Wo 0 (by decide) lf_RX9_35 rfl dX9_setFinal_4 ?_
  refine r_get C0 w 2 rfl kf_Te 0 (by decide) lf_RX9_39 rfl dX9_setFinal_7 ?_
  refine lv_astore_n (lv' := [(3, .ref q_world_teacher_machine), (0, .ref q_this), (1, .int x1), (2, .int x2)]) hx hb dX9_setFinal_10 rfl hl (by decide) rfl (fun ls hl => ?_)
  refine lv_aload_n hx hb dX9_setFinal_11 rfl (lv_at hl 0 rfl) ?_
  refine lv_iload_n hx hb dX9_setFinal_12 rfl (lv_at hl 2 rfl) ?_
  obtain ⟨r, hcall, h⟩ := bd1_h h
  obtain ⟨wr, hp, hp'⟩ := rd_of (ws := (ws_TL_setFinal cI cJ cZ q_this q_world q_slots q_text q_search q_world_teacher q_world_learner q_world_teacher_machine q_world_teacher_lies q_world_teacher_machine_moves q_world_teacher_machine_finals q_world_learner_asked q_world_learner_table q_world_learner_hypothesis q_world_learner_representatives q_world_learner_asked_entries q_world_learner_table_prefixes q_world_learner_table_suffixes q_world_learner_table_known q_world_learner_table_bits q_world_learner_table_prefixes_words q_world_learner_table_suffixes_words q_world_learner_hypothesis_moves q_world_learner_hypothesis_finals v_textLength v_world_teacher_lieCount v_world_teacher_machine_size v_world_teacher_machine_letters v_world_teacher_machine_finals v_world_learner_mode v_world_learner_budget v_world_learner_formed v_world_learner_counterexample v_world_learner_corrections v_world_learner_deceived v_world_learner_asked_size v_world_learner_table_letters v_world_learner_table_prefixes_size v_world_learner_table_prefixes_longest v_world_learner_table_prefixes_words v_world_learner_table_suffixes_size v_world_learner_table_suffixes_longest v_world_learner_table_suffixes_words v_world_learner_table_known v_world_learner_table_bits v_world_learner_hypothesis_size v_world_learner_hypothesis_letters v_world_learner_hypothesis_moves v_world_learner_hypothesis_finals)) (wc := (ws_Au_hasState cI cJ cZ q_world_teacher_machine q_world_teacher_machine_moves q_world_teacher_machine_finals v_world_teacher_machine_size v_world_teacher_machine_letters)) [3] rfl rfl
  refine r_VI (r := r) (As := [.int x1]) (rest := []) (wc' := (ws_Au_hasState cI cJ cZ q_world_teacher_machine q_world_teacher_machine_moves q_world_teacher_machine_finals v_world_teacher_machine_size v_world_teacher_machine_letters)) (ws' := (ws_TL_setFinal cI cJ cZ q_this q_world q_slots q_text q_search q_world_teacher q_world_learner q_world_teacher_machine q_world_teacher_lies q_world_teacher_machine_moves q_world_teacher_machine_finals q_world_learner_asked q_world_learner_table q_world_learner_hypothesis q_world_learner_representatives q_world_learner_asked_entries q_world_learner_table_prefixes q_world_learner_table_suffixes q_world_learner_table_known q_world_learner_table_bits q_world_learner_table_prefixes_words q_world_learner_table_suffixes_words q_world_learner_hypothesis_moves q_world_learner_hypothesis_finals v_textLength v_world_teacher_lieCount v_world_teacher_machine_size v_world_teacher_machine_letters v_world_teacher_machine_finals v_world_learner_mode v_world_learner_budget v_world_learner_formed v_world_learner_counterexample v_world_learner_corrections v_world_learner_deceived v_world_learner_asked_size v_world_learner_table_letters v_world_learner_table_prefixes_size v_world_learner_table_prefixes_longest v_world_learner_table_prefixes_words v_world_learner_table_suffixes_size v_world_learner_table_suffixes_longest v_world_learner_table_suffixes_words v_world_learner_table_known v_world_learner_table_bits v_world_learner_hypothesis_size v_world_learner_hypothesis_letters v_world_learner_hypothesis_moves v_world_learner_hypothesis_finals)) C0 w (c_Au_hasState hcall) hp hp' lm_RX9_57 mv_Au_hasState ⟨rfl, rfl⟩ ⟨by decide, by decide⟩ ⟨Nat.zero_le _, Nat.zero_le _⟩ (q0 := 3) rfl rfl rfl rfl hl rfl (Nat.le_of_ble_eq_true rfl) dX9_setFinal_13 (fun H locs w => ?_)
  refine lv_if_ne (tgt := 22) hx hb dX9_setFinal_16 (by decide) (fun hc => ?_) (fun hc => ?_)
  · have h := nf_h hc h
    refine lv_iload_n hx hb dX9_setFinal_22 rfl (lv_at hl 3 rfl) ?_
    obtain ⟨t, et⟩ : ∃ y : Int32, y = (if x2 = 0 then (0 : Int32) else (1 : Int32)) := ⟨_, rfl⟩
    have h := bnd_at et h
    have J : W p l e rm_TL_setFinal s m args below meth c H locs 0 0 Q (F0 m 31 ls [.int t]) := by
      refine lv_istore (lv' := [(4, .int t), (3, .ref q_world_teacher_machine), (0, .ref q_this), (1, .int x1), (2, .int x2)]) hx hb dX9_setFinal_31 hl (by decide) rfl (fun ls hl => ?_)
      refine lv_aload_n hx hb dX9_setFinal_33 rfl (lv_at hl 1 rfl) ?_
      refine r_get C0 w 3 rfl kf_Au 1 (by decide) lf_RX9_72 rfl dX9_setFinal_34 ?_
      refine lv_iload_n hx hb dX9_setFinal_37 rfl (lv_at hl 3 rfl) ?_
      obtain ⟨hi, h⟩ := gIn_h h
      refine r_iald C0 w 4 rfl rfl hi dX9_setFinal_38 ?_
      refine lv_iload hx hb dX9_setFinal_39 (lv_at hl 0 rfl) ?_
      refine lv_icmp_ne (tgt := 47) hx hb dX9_setFinal_41 (by decide) (fun hc => ?_) (fun hc => ?_)
      · have h := nf_h hc h
        refine lv_aload_n hx hb dX9_setFinal_47 rfl (lv_at hl 1 rfl) ?_
        refine r_get C0 w 3 rfl kf_Au 1 (by decide) lf_RX9_72 rfl dX9_setFinal_48 ?_
        refine lv_iload_n hx hb dX9_setFinal_51 rfl (lv_at hl 3 rfl) ?_
        refine lv_iload hx hb dX9_setFinal_52 (lv_at hl 0 rfl) ?_
        obtain ⟨hi, h⟩ := gIn_h h
        obtain ⟨v_world_teacher_machine_finals_1, ev_world_teacher_machine_finals_1⟩ : ∃ y, y = (upd v_world_teacher_machine_finals x1.toNatClampNeg t) := ⟨_, rfl⟩
        have h := bnd_at ev_world_teacher_machine_finals_1 h
        refine r_iast C0 w 4 rfl (f' := v_world_teacher_machine_finals_1) rfl hi ev_world_teacher_machine_finals_1 dX9_setFinal_54 (ws' := (ws_TL_setFinal cI cJ cZ q_this q_world q_slots q_text q_search q_world_teacher q_world_learner q_world_teacher_machine q_world_teacher_lies q_world_teacher_machine_moves q_world_teacher_machine_finals q_world_learner_asked q_world_learner_table q_world_learner_hypothesis q_world_learner_representatives q_world_learner_asked_entries q_world_learner_table_prefixes q_world_learner_table_suffixes q_world_learner_table_known q_world_learner_table_bits q_world_learner_table_prefixes_words q_world_learner_table_suffixes_words q_world_learner_hypothesis_moves q_world_learner_hypothesis_finals v_textLength v_world_teacher_lieCount v_world_teacher_machine_size v_world_teacher_machine_letters v_world_teacher_machine_finals_1 v_world_learner_mode v_world_learner_budget v_world_learner_formed v_world_learner_counterexample v_world_learner_corrections v_world_learner_deceived v_world_learner_asked_size v_world_learner_table_letters v_world_learner_table_prefixes_size v_world_learner_table_prefixes_longest v_world_learner_table_prefixes_words v_world_learner_table_suffixes_size v_world_learner_table_suffixes_longest v_world_learner_table_suffixes_words v_world_learner_table_known v_world_learner_table_bits v_world_learner_hypothesis_size v_world_learner_hypothesis_letters v_world_learner_hypothesis_moves v_world_learner_hypothesis_finals)) rfl (fun H locs w => ?_)
        refine lv_aload_n hx hb dX9_setFinal_55 rfl (lv_at hl 2 rfl) ?_
        refine r_get C0 w 0 rfl kf_TL 0 (by decide) lf_RX9_10 rfl dX9_setFinal_56 ?_
        obtain ⟨v_world_learner_asked_size_1, v_world_learner_table_prefixes_words_1, v_world_learner_table_prefixes_size_1, v_world_learner_table_prefixes_longest_1, v_world_learner_table_suffixes_words_1, v_world_learner_table_suffixes_size_1, v_world_learner_table_suffixes_longest_1, v_world_learner_table_known_1, v_world_learner_table_bits_1, v_world_learner_table_letters_1, v_world_learner_hypothesis_moves_1, v_world_learner_hypothesis_finals_1, v_world_learner_hypothesis_size_1, v_world_learner_hypothesis_letters_1, v_world_learner_formed_1, v_world_learner_counterexample_1, v_world_learner_corrections_1, v_world_learner_deceived_1, hcall, h⟩ := bd18_h h
        have hp := sp_of (ws := (ws_TL_setFinal cI cJ cZ q_this q_world q_slots q_text q_search q_world_teacher q_world_learner q_world_teacher_machine q_world_teacher_lies q_world_teacher_machine_moves q_world_teacher_machine_finals q_world_learner_asked q_world_learner_table q_world_learner_hypothesis q_world_learner_representatives q_world_learner_asked_entries q_world_learner_table_prefixes q_world_learner_table_suffixes q_world_learner_table_known q_world_learner_table_bits q_world_learner_table_prefixes_words q_world_learner_table_suffixes_words q_world_learner_hypothesis_moves q_world_learner_hypothesis_finals v_textLength v_world_teacher_lieCount v_world_teacher_machine_size v_world_teacher_machine_letters v_world_teacher_machine_finals_1 v_world_learner_mode v_world_learner_budget v_world_learner_formed v_world_learner_counterexample v_world_learner_corrections v_world_learner_deceived v_world_learner_asked_size v_world_learner_table_letters v_world_learner_table_prefixes_size v_world_learner_table_prefixes_longest v_world_learner_table_prefixes_words v_world_learner_table_suffixes_size v_world_learner_table_suffixes_longest v_world_learner_table_suffixes_words v_world_learner_table_known v_world_learner_table_bits v_world_learner_hypothesis_size v_world_learner_hypothesis_letters v_world_learner_hypothesis_moves v_world_learner_hypothesis_finals)) (wc := (ws_Wo_startLearner cI cJ cZ q_world q_world_teacher q_world_learner q_world_teacher_machine q_world_teacher_lies q_world_teacher_machine_moves q_world_teacher_machine_finals q_world_learner_asked q_world_learner_table q_world_learner_hypothesis q_world_learner_representatives q_world_learner_asked_entries q_world_learner_table_prefixes q_world_learner_table_suffixes q_world_learner_table_known q_world_learner_table_bits q_world_learner_table_prefixes_words q_world_learner_table_suffixes_words q_world_learner_hypothesis_moves q_world_learner_hypothesis_finals v_world_teacher_lieCount v_world_teacher_machine_size v_world_teacher_machine_letters v_world_learner_mode v_world_learner_budget v_world_learner_formed v_world_learner_counterexample v_world_learner_corrections v_world_learner_deceived v_world_learner_asked_size v_world_learner_table_letters v_world_learner_table_prefixes_size v_world_learner_table_prefixes_longest v_world_learner_table_prefixes_words v_world_learner_table_suffixes_size v_world_learner_table_suffixes_longest v_world_learner_table_suffixes_words v_world_learner_table_known v_world_learner_table_bits v_world_learner_hypothesis_size v_world_learner_hypothesis_letters v_world_learner_hypothesis_moves v_world_learner_hypothesis_finals)) [1, 2, 3, 5, 6, 7, 8, 9, 10, 11, 12, 13, 14, 15, 16] [0, 4] rfl rfl
        have hp' : Rp (pk (ws_TL_setFinal cI cJ cZ q_this q_world q_slots q_text q_search q_world_teacher q_world_learner q_world_teacher_machine q_world_teacher_lies q_world_teacher_machine_moves q_world_teacher_machine_finals q_world_learner_asked q_world_learner_table q_world_learner_hypothesis q_world_learner_representatives q_world_learner_asked_entries q_world_learner_table_prefixes q_world_learner_table_suffixes q_world_learner_table_known q_world_learner_table_bits q_world_learner_table_prefixes_words q_world_learner_table_suffixes_words q_world_learner_hypothesis_moves q_world_learner_hypothesis_finals v_textLength v_world_teacher_lieCount v_world_teacher_machine_size v_world_teacher_machine_letters v_world_teacher_machine_finals_1 v_world_learner_mode v_world_learner_budget v_world_learner_formed v_world_learner_counterexample v_world_learner_corrections v_world_learner_deceived v_world_learner_asked_size v_world_learner_table_letters v_world_learner_table_prefixes_size v_world_learner_table_prefixes_longest v_world_learner_table_prefixes_words v_world_learner_table_suffixes_size v_world_learner_table_suffixes_longest v_world_learner_table_suffixes_words v_world_learner_table_known v_world_learner_table_bits v_world_learner_hypothesis_size v_world_learner_hypothesis_letters v_world_learner_hypothesis_moves v_world_learner_hypothesis_finals) [0, 4] ++ (ws_Wo_startLearner cI cJ cZ q_world q_world_teacher q_world_learner q_world_teacher_machine q_world_teacher_lies q_world_teacher_machine_moves q_world_teacher_machine_finals q_world_learner_asked q_world_learner_table q_world_learner_hypothesis q_world_learner_representatives q_world_learner_asked_entries q_world_learner_table_prefixes q_world_learner_table_suffixes q_world_learner_table_known q_world_learner_table_bits q_world_learner_table_prefixes_words q_world_learner_table_suffixes_words q_world_learner_hypothesis_moves q_world_learner_hypothesis_finals v_world_teacher_lieCount v_world_teacher_machine_size v_world_teacher_machine_letters v_world_learner_mode v_world_learner_budget v_world_learner_formed_1 v_world_learner_counterexample_1 v_world_learner_corrections_1 v_world_learner_deceived_1 v_world_learner_asked_size_1 v_world_learner_table_letters_1 v_world_learner_table_prefixes_size_1 v_world_learner_table_prefixes_longest_1 v_world_learner_table_prefixes_words_1 v_world_learner_table_suffixes_size_1 v_world_learner_table_suffixes_longest_1 v_world_learner_table_suffixes_words_1 v_world_learner_table_known_1 v_world_learner_table_bits_1 v_world_learner_hypothesis_size_1 v_world_learner_hypothesis_letters_1 v_world_learner_hypothesis_moves_1 v_world_learner_hypothesis_finals_1)) (ws_TL_setFinal cI cJ cZ q_this q_world q_slots q_text q_search q_world_teacher q_world_learner q_world_teacher_machine q_world_teacher_lies q_world_teacher_machine_moves q_world_teacher_machine_finals q_world_learner_asked q_world_learner_table q_world_learner_hypothesis q_world_learner_representatives q_world_learner_asked_entries q_world_learner_table_prefixes q_world_learner_table_suffixes q_world_learner_table_known q_world_learner_table_bits q_world_learner_table_prefixes_words q_world_learner_table_suffixes_words q_world_learner_hypothesis_moves q_world_learner_hypothesis_finals v_textLength v_world_teacher_lieCount v_world_teacher_machine_size v_world_teacher_machine_letters v_world_teacher_machine_finals_1 v_world_learner_mode v_world_learner_budget v_world_learner_formed_1 v_world_learner_counterexample_1 v_world_learner_corrections_1 v_world_learner_deceived_1 v_world_learner_asked_size_1 v_world_learner_table_letters_1 v_world_learner_table_prefixes_size_1 v_world_learner_table_prefixes_longest_1 v_world_learner_table_prefixes_words_1 v_world_learner_table_suffixes_size_1 v_world_learner_table_suffixes_longest_1 v_world_learner_table_suffixes_words_1 v_world_learner_table_known_1 v_world_learner_table_bits_1 v_world_learner_hypothesis_size_1 v_world_learner_hypothesis_letters_1 v_world_learner_hypothesis_moves_1 v_world_learner_hypothesis_finals_1) := ⟨[0, 2, 3, 4, 1, 5, 6, 7, 8, 9, 10, 11, 12, 13, 14, 15, 16], rfl, rfl⟩
        refine r_VV (As := []) (rest := []) (wc' := (ws_Wo_startLearner cI cJ cZ q_world q_world_teacher q_world_learner q_world_teacher_machine q_world_teacher_lies q_world_teacher_machine_moves q_world_teacher_machine_finals q_world_learner_asked q_world_learner_table q_world_learner_hypothesis q_world_learner_representatives q_world_learner_asked_entries q_world_learner_table_prefixes q_world_learner_table_suffixes q_world_learner_table_known q_world_learner_table_bits q_world_learner_table_prefixes_words q_world_learner_table_suffixes_words q_world_learner_hypothesis_moves q_world_learner_hypothesis_finals v_world_teacher_lieCount v_world_teacher_machine_size v_world_teacher_machine_letters v_world_learner_mode v_world_learner_budget v_world_learner_formed_1 v_world_learner_counterexample_1 v_world_learner_corrections_1 v_world_learner_deceived_1 v_world_learner_asked_size_1 v_world_learner_table_letters_1 v_world_learner_table_prefixes_size_1 v_world_learner_table_prefixes_longest_1 v_world_learner_table_prefixes_words_1 v_world_learner_table_suffixes_size_1 v_world_learner_table_suffixes_longest_1 v_world_learner_table_suffixes_words_1 v_world_learner_table_known_1 v_world_learner_table_bits_1 v_world_learner_hypothesis_size_1 v_world_learner_hypothesis_letters_1 v_world_learner_hypothesis_moves_1 v_world_learner_hypothesis_finals_1)) (ws' := (ws_TL_setFinal cI cJ cZ q_this q_world q_slots q_text q_search q_world_teacher q_world_learner q_world_teacher_machine q_world_teacher_lies q_world_teacher_machine_moves q_world_teacher_machine_finals q_world_learner_asked q_world_learner_table q_world_learner_hypothesis q_world_learner_representatives q_world_learner_asked_entries q_world_learner_table_prefixes q_world_learner_table_suffixes q_world_learner_table_known q_world_learner_table_bits q_world_learner_table_prefixes_words q_world_learner_table_suffixes_words q_world_learner_hypothesis_moves q_world_learner_hypothesis_finals v_textLength v_world_teacher_lieCount v_world_teacher_machine_size v_world_teacher_machine_letters v_world_teacher_machine_finals_1 v_world_learner_mode v_world_learner_budget v_world_learner_formed_1 v_world_learner_counterexample_1 v_world_learner_corrections_1 v_world_learner_deceived_1 v_world_learner_asked_size_1 v_world_learner_table_letters_1 v_world_learner_table_prefixes_size_1 v_world_learner_table_prefixes_longest_1 v_world_learner_table_prefixes_words_1 v_world_learner_table_suffixes_size_1 v_world_learner_table_suffixes_longest_1 v_world_learner_table_suffixes_words_1 v_world_learner_table_known_1 v_world_learner_table_bits_1 v_world_learner_hypothesis_size_1 v_world_learner_hypothesis_letters_1 v_world_learner_hypothesis_moves_1 v_world_learner_hypothesis_finals_1)) C0 w (c_Wo_startLearner hcall) hp hp' lm_RX9_54 mv_Wo_startLearner ⟨rfl, rfl⟩ ⟨by decide, by decide⟩ ⟨Nat.zero_le _, Nat.zero_le _⟩ (q0 := 1) rfl rfl rfl rfl hl rfl (Nat.le_of_ble_eq_true rfl) dX9_setFinal_59 (fun H locs w => ?_)
        refine lv_aload_n hx hb dX9_setFinal_62 rfl (lv_at hl 1 rfl) ?_
        obtain ⟨r_1, hcall, h⟩ := bd1_h h
        obtain ⟨wr, hp, hp'⟩ := rd_of (ws := (ws_TL_setFinal cI cJ cZ q_this q_world q_slots q_text q_search q_world_teacher q_world_learner q_world_teacher_machine q_world_teacher_lies q_world_teacher_machine_moves q_world_teacher_machine_finals q_world_learner_asked q_world_learner_table q_world_learner_hypothesis q_world_learner_representatives q_world_learner_asked_entries q_world_learner_table_prefixes q_world_learner_table_suffixes q_world_learner_table_known q_world_learner_table_bits q_world_learner_table_prefixes_words q_world_learner_table_suffixes_words q_world_learner_hypothesis_moves q_world_learner_hypothesis_finals v_textLength v_world_teacher_lieCount v_world_teacher_machine_size v_world_teacher_machine_letters v_world_teacher_machine_finals_1 v_world_learner_mode v_world_learner_budget v_world_learner_formed_1 v_world_learner_counterexample_1 v_world_learner_corrections_1 v_world_learner_deceived_1 v_world_learner_asked_size_1 v_world_learner_table_letters_1 v_world_learner_table_prefixes_size_1 v_world_learner_table_prefixes_longest_1 v_world_learner_table_prefixes_words_1 v_world_learner_table_suffixes_size_1 v_world_learner_table_suffixes_longest_1 v_world_learner_table_suffixes_words_1 v_world_learner_table_known_1 v_world_learner_table_bits_1 v_world_learner_hypothesis_size_1 v_world_learner_hypothesis_letters_1 v_world_learner_hypothesis_moves_1 v_world_learner_hypothesis_finals_1)) (wc := (ws_Au_countFinals cI cJ cZ q_world_teacher_machine q_world_teacher_machine_moves q_world_teacher_machine_finals 8 v_world_teacher_machine_size v_world_teacher_machine_letters v_world_teacher_machine_finals_1)) [3, 4] rfl rfl
        refine r_VI (r := r_1) (As := []) (rest := []) (wc' := (ws_Au_countFinals cI cJ cZ q_world_teacher_machine q_world_teacher_machine_moves q_world_teacher_machine_finals 8 v_world_teacher_machine_size v_world_teacher_machine_letters v_world_teacher_machine_finals_1)) (ws' := (ws_TL_setFinal cI cJ cZ q_this q_world q_slots q_text q_search q_world_teacher q_world_learner q_world_teacher_machine q_world_teacher_lies q_world_teacher_machine_moves q_world_teacher_machine_finals q_world_learner_asked q_world_learner_table q_world_learner_hypothesis q_world_learner_representatives q_world_learner_asked_entries q_world_learner_table_prefixes q_world_learner_table_suffixes q_world_learner_table_known q_world_learner_table_bits q_world_learner_table_prefixes_words q_world_learner_table_suffixes_words q_world_learner_hypothesis_moves q_world_learner_hypothesis_finals v_textLength v_world_teacher_lieCount v_world_teacher_machine_size v_world_teacher_machine_letters v_world_teacher_machine_finals_1 v_world_learner_mode v_world_learner_budget v_world_learner_formed_1 v_world_learner_counterexample_1 v_world_learner_corrections_1 v_world_learner_deceived_1 v_world_learner_asked_size_1 v_world_learner_table_letters_1 v_world_learner_table_prefixes_size_1 v_world_learner_table_prefixes_longest_1 v_world_learner_table_prefixes_words_1 v_world_learner_table_suffixes_size_1 v_world_learner_table_suffixes_longest_1 v_world_learner_table_suffixes_words_1 v_world_learner_table_known_1 v_world_learner_table_bits_1 v_world_learner_hypothesis_size_1 v_world_learner_hypothesis_letters_1 v_world_learner_hypothesis_moves_1 v_world_learner_hypothesis_finals_1)) C0 w (c_Au_countFinals hcall) hp hp' lm_RX9_75 mv_Au_countFinals ⟨rfl, rfl⟩ ⟨by decide, by decide⟩ ⟨Nat.zero_le _, Nat.zero_le _⟩ (q0 := 3) rfl rfl rfl rfl hl rfl (Nat.le_of_ble_eq_true rfl) dX9_setFinal_63 (fun H locs w => ?_)
        cases h
        exact hQ _ _ _ _ dX9_setFinal_66 rfl w
      · have h := if_h hc h
        refine lv_bipush (v := (-3 : Int32)) hx hb dX9_setFinal_44 (by decide) ?_
        cases h
        exact hQ _ _ _ _ dX9_setFinal_46 rfl w
    refine lv_if_eq (tgt := 30) hx hb dX9_setFinal_23 (by decide) (fun hc => ?_) (fun hc => ?_)
    · refine lv_iconst (v := (0 : Int32)) hx hb dX9_setFinal_30 (by decide) ?_
      exact r_eqi (et.trans (if_pos hc)) J
    · refine lv_iconst (v := (1 : Int32)) hx hb dX9_setFinal_26 (by decide) ?_
      refine lv_goto (tgt := 31) hx hb dX9_setFinal_27 (by decide) ?_
      exact r_eqi (et.trans (if_neg hc)) J
  · have h := if_h hc h
    refine lv_bipush (v := (-2 : Int32)) hx hb dX9_setFinal_19 (by decide) ?_
    cases h
    exact hQ _ _ _ _ dX9_setFinal_21 rfl w
theorem dX7_join_0 : decode cX7_join 0 = .ok (.iconst 2, 1) := by decide +kernel
theorem dX7_join_1 : decode cX7_join 1 = .ok (.lload_n 0, 1) := by decide +kernel
theorem dX7_join_2 : decode cX7_join 2 = .ok (.invokestatic 11, 3) := by decide +kernel
theorem dX7_join_5 : decode cX7_join 5 = .ok (.imul, 1) := by decide +kernel
theorem dX7_join_6 : decode cX7_join 6 = .ok (.istore 4, 2) := by decide +kernel
theorem dX7_join_8 : decode cX7_join 8 = .ok (.lload_n 0, 1) := by decide +kernel
theorem dX7_join_9 : decode cX7_join 9 = .ok (.lconst 1, 1) := by decide +kernel
theorem dX7_join_10 : decode cX7_join 10 = .ok (.iload 4, 2) := by decide +kernel
theorem dX7_join_12 : decode cX7_join 12 = .ok (.lshl, 1) := by decide +kernel
theorem dX7_join_13 : decode cX7_join 13 = .ok (.lxor, 1) := by decide +kernel
theorem dX7_join_14 : decode cX7_join 14 = .ok (.lload_n 2, 1) := by decide +kernel
theorem dX7_join_15 : decode cX7_join 15 = .ok (.iload 4, 2) := by decide +kernel
theorem dX7_join_17 : decode cX7_join 17 = .ok (.lshl, 1) := by decide +kernel
theorem dX7_join_18 : decode cX7_join 18 = .ok (.lor, 1) := by decide +kernel
theorem dX7_join_19 : decode cX7_join 19 = .ok (.lreturn, 1) := by decide +kernel
set_option maxRecDepth 100000 in
theorem c_Ws_join {l : Launch} {D : va_G} {cI cJ cZ cO : ClassId} {x0 : Int64} {x2 : Int64} {x : Int64} (h : f_Ws_join x0 x2 = some x) : ctJ l D cI cJ cZ cO yX7_join cX7_join 5 rm_Ws_join [.long x0, .long x2] (ws_Ws_join cI cJ cZ) (ws_Ws_join cI cJ cZ) x := by
  refine ctJ_of (by decide) (Nat.le_of_ble_eq_true rfl) ?_
  intro p e s m below meth c Q A ls C0 hQ w hl
  have hl : lv_has ls 5 [(0, .long x0), (2, .long x2)] := hl
  generalize List.toArray (α := Value) [.long x0, .long x2] = args at C0 hQ ⊢
  obtain ⟨hx, hb, hml, hown, hts, -, -⟩ := id C0
  unfold f_Ws_join at h
  refine lv_iconst (v := (2 : Int32)) hx hb dX7_join_0 (by decide) ?_
  refine lv_lload_n hx hb dX7_join_1 rfl (lv_at hl 0 rfl) ?_
  obtain ⟨r, hcall, h⟩ := bd1_h h
  obtain ⟨wr, hp, hp'⟩ := rd_of (ws := (ws_Ws_join cI cJ cZ)) (wc := (ws_Ws_lengthOf cI cJ cZ)) [] rfl rfl
  refine r_SI (r := r) (As := [.long x0]) (rest := [.int (2 : Int32)]) (wc' := (ws_Ws_lengthOf cI cJ cZ)) (ws' := (ws_Ws_join cI cJ cZ)) C0 w (c_Ws_lengthOf hcall) hp hp' lm_RX7_11 ms_Ws_lengthOf ⟨rfl, rfl⟩ ⟨by decide, by decide⟩ ⟨Nat.zero_le _, Nat.zero_le _⟩ rfl hl rfl (Nat.le_of_ble_eq_true rfl) dX7_join_2 (fun H locs w => ?_)
  refine lv_imul hx hb dX7_join_5 ?_
  refine lv_topi (fun x4 ex4 => ?_)
  have h := bnd_at ex4 h
  refine lv_istore (lv' := [(4, .int x4), (0, .long x0), (2, .long x2)]) hx hb dX7_join_6 hl (by decide) rfl (fun ls hl => ?_)
  refine lv_lload_n hx hb dX7_join_8 rfl (lv_at hl 1 rfl) ?_
  refine lv_lconst (v := (1 : Int64)) hx hb dX7_join_9 (by decide) ?_
  refine lv_iload hx hb dX7_join_10 (lv_at hl 0 rfl) ?_
  refine lv_lshl (v := ((1 : Int64) <<< (x4.toInt64 &&& 63))) hx hb dX7_join_12 rfl ?_
  refine lv_lxor hx hb dX7_join_13 ?_
  refine lv_lload_n hx hb dX7_join_14 rfl (lv_at hl 2 rfl) ?_
  refine lv_iload hx hb dX7_join_15 (lv_at hl 0 rfl) ?_
  refine lv_lshl (v := (x2 <<< (x4.toInt64 &&& 63))) hx hb dX7_join_17 rfl ?_
  refine lv_lor hx hb dX7_join_18 ?_
  cases h
  exact hQ _ _ _ _ dX7_join_19 w
theorem dX7_single_0 : decode cX7_single 0 = .ok (.iconst 4, 1) := by decide +kernel
theorem dX7_single_1 : decode cX7_single 1 = .ok (.iload_n 0, 1) := by decide +kernel
theorem dX7_single_2 : decode cX7_single 2 = .ok (.ior, 1) := by decide +kernel
theorem dX7_single_3 : decode cX7_single 3 = .ok (.i2l, 1) := by decide +kernel
theorem dX7_single_4 : decode cX7_single 4 = .ok (.lreturn, 1) := by decide +kernel
set_option maxRecDepth 100000 in
theorem c_Ws_single {l : Launch} {D : va_G} {cI cJ cZ cO : ClassId} {x0 : Int32} {x : Int64} (h : f_Ws_single x0 = some x) : ctJ l D cI cJ cZ cO yX7_single cX7_single 1 rm_Ws_single [.int x0] (ws_Ws_single cI cJ cZ) (ws_Ws_single cI cJ cZ) x := by
  refine ctJ_of (by decide) (Nat.le_of_ble_eq_true rfl) ?_
  intro p e s m below meth c Q A ls C0 hQ w hl
  have hl : lv_has ls 1 [(0, .int x0)] := hl
  generalize List.toArray (α := Value) [.int x0] = args at C0 hQ ⊢
  obtain ⟨hx, hb, hml, hown, hts, -, -⟩ := id C0
  unfold f_Ws_single at h
  refine lv_iconst (v := (4 : Int32)) hx hb dX7_single_0 (by decide) ?_
  refine lv_iload_n hx hb dX7_single_1 rfl (lv_at hl 0 rfl) ?_
  refine lv_ior hx hb dX7_single_2 ?_
  refine lv_i2l hx hb dX7_single_3 rfl ?_
  cases h
  exact hQ _ _ _ _ dX7_single_4 w
theorem dX7_append_0 : decode cX7_append 0 = .ok (.lload_n 0, 1) := by decide +kernel
theorem dX7_append_1 : decode cX7_append 1 = .ok (.iload_n 2, 1) := by decide +kernel
theorem dX7_append_2 : decode cX7_append 2 = .ok (.invokestatic 21, 3) := by decide +kernel
theorem dX7_append_5 : decode cX7_append 5 = .ok (.invokestatic 25, 3) := by decide +kernel
theorem dX7_append_8 : decode cX7_append 8 = .ok (.lreturn, 1) := by decide +kernel
set_option maxRecDepth 100000 in
theorem c_Ws_append {l : Launch} {D : va_G} {cI cJ cZ cO : ClassId} {x0 : Int64} {x2 : Int32} {x : Int64} (h : f_Ws_append x0 x2 = some x) : ctJ l D cI cJ cZ cO yX7_append cX7_append 3 rm_Ws_append [.long x0, .int x2] (ws_Ws_append cI cJ cZ) (ws_Ws_append cI cJ cZ) x := by
  refine ctJ_of (by decide) (Nat.le_of_ble_eq_true rfl) ?_
  intro p e s m below meth c Q A ls C0 hQ w hl
  have hl : lv_has ls 3 [(0, .long x0), (2, .int x2)] := hl
  generalize List.toArray (α := Value) [.long x0, .int x2] = args at C0 hQ ⊢
  obtain ⟨hx, hb, hml, hown, hts, -, -⟩ := id C0
  unfold f_Ws_append at h
  refine lv_lload_n hx hb dX7_append_0 rfl (lv_at hl 0 rfl) ?_
  refine lv_iload_n hx hb dX7_append_1 rfl (lv_at hl 1 rfl) ?_
  obtain ⟨r, hcall, h⟩ := bd1_h h
  obtain ⟨wr, hp, hp'⟩ := rd_of (ws := (ws_Ws_append cI cJ cZ)) (wc := (ws_Ws_single cI cJ cZ)) [] rfl rfl
  refine r_SJ (r := r) (As := [.int x2]) (rest := [.long x0]) (wc' := (ws_Ws_single cI cJ cZ)) (ws' := (ws_Ws_append cI cJ cZ)) C0 w (c_Ws_single hcall) hp hp' lm_RX7_21 ms_Ws_single ⟨rfl, rfl⟩ ⟨by decide, by decide⟩ ⟨Nat.zero_le _, Nat.zero_le _⟩ rfl hl rfl (Nat.le_of_ble_eq_true rfl) dX7_append_2 (fun H locs w => ?_)
  obtain ⟨r_1, hcall, h⟩ := bd1_h h
  obtain ⟨wr, hp, hp'⟩ := rd_of (ws := (ws_Ws_append cI cJ cZ)) (wc := (ws_Ws_join cI cJ cZ)) [] rfl rfl
  refine r_SJ (r := r_1) (As := [.long x0, .long r]) (rest := []) (wc' := (ws_Ws_join cI cJ cZ)) (ws' := (ws_Ws_append cI cJ cZ)) C0 w (c_Ws_join hcall) hp hp' lm_RX7_25 ms_Ws_join ⟨rfl, rfl⟩ ⟨by decide, by decide⟩ ⟨Nat.zero_le _, Nat.zero_le _⟩ rfl hl rfl (Nat.le_of_ble_eq_true rfl) dX7_append_5 (fun H locs w => ?_)
  cases h
  exact hQ _ _ _ _ dX7_append_8 w
theorem dX9_textWord_0 : decode cX9_textWord 0 = .ok (.lconst 1, 1) := by decide +kernel
theorem dX9_textWord_1 : decode cX9_textWord 1 = .ok (.lstore_n 1, 1) := by decide +kernel
theorem dX9_textWord_2 : decode cX9_textWord 2 = .ok (.iconst 0, 1) := by decide +kernel
theorem dX9_textWord_3 : decode cX9_textWord 3 = .ok (.istore_n 3, 1) := by decide +kernel
theorem dX9_textWord_4 : decode cX9_textWord 4 = .ok (.iload_n 3, 1) := by decide +kernel
theorem dX9_textWord_5 : decode cX9_textWord 5 = .ok (.aload_n 0, 1) := by decide +kernel
theorem dX9_textWord_6 : decode cX9_textWord 6 = .ok (.getfield 24, 3) := by decide +kernel
theorem dX9_textWord_9 : decode cX9_textWord 9 = .ok (.if_icmp .ge 49, 3) := by decide +kernel
theorem dX9_textWord_12 : decode cX9_textWord 12 = .ok (.aload_n 0, 1) := by decide +kernel
theorem dX9_textWord_13 : decode cX9_textWord 13 = .ok (.getfield 20, 3) := by decide +kernel
theorem dX9_textWord_16 : decode cX9_textWord 16 = .ok (.iload_n 3, 1) := by decide +kernel
theorem dX9_textWord_17 : decode cX9_textWord 17 = .ok (.iaload, 1) := by decide +kernel
theorem dX9_textWord_18 : decode cX9_textWord 18 = .ok (.bipush 97, 2) := by decide +kernel
theorem dX9_textWord_20 : decode cX9_textWord 20 = .ok (.isub, 1) := by decide +kernel
theorem dX9_textWord_21 : decode cX9_textWord 21 = .ok (.istore 4, 2) := by decide +kernel
theorem dX9_textWord_23 : decode cX9_textWord 23 = .ok (.aload_n 0, 1) := by decide +kernel
theorem dX9_textWord_24 : decode cX9_textWord 24 = .ok (.getfield 10, 3) := by decide +kernel
theorem dX9_textWord_27 : decode cX9_textWord 27 = .ok (.getfield 35, 3) := by decide +kernel
theorem dX9_textWord_30 : decode cX9_textWord 30 = .ok (.getfield 39, 3) := by decide +kernel
theorem dX9_textWord_33 : decode cX9_textWord 33 = .ok (.iload 4, 2) := by decide +kernel
theorem dX9_textWord_35 : decode cX9_textWord 35 = .ok (.invokevirtual 61, 3) := by decide +kernel
theorem dX9_textWord_38 : decode cX9_textWord 38 = .ok (.ifCond .ne 7, 3) := by decide +kernel
theorem dX9_textWord_41 : decode cX9_textWord 41 = .ok (.ldc2_w 83, 3) := by decide +kernel
theorem dX9_textWord_44 : decode cX9_textWord 44 = .ok (.lreturn, 1) := by decide +kernel
theorem dX9_textWord_45 : decode cX9_textWord 45 = .ok (.lload_n 1, 1) := by decide +kernel
theorem dX9_textWord_46 : decode cX9_textWord 46 = .ok (.iload 4, 2) := by decide +kernel
theorem dX9_textWord_48 : decode cX9_textWord 48 = .ok (.invokestatic 163, 3) := by decide +kernel
theorem dX9_textWord_51 : decode cX9_textWord 51 = .ok (.lstore_n 1, 1) := by decide +kernel
theorem dX9_textWord_52 : decode cX9_textWord 52 = .ok (.iinc 3 1, 3) := by decide +kernel
theorem dX9_textWord_55 : decode cX9_textWord 55 = .ok (.goto (-51), 3) := by decide +kernel
theorem dX9_textWord_58 : decode cX9_textWord 58 = .ok (.lload_n 1, 1) := by decide +kernel
theorem dX9_textWord_59 : decode cX9_textWord 59 = .ok (.lreturn, 1) := by decide +kernel
set_option maxRecDepth 100000 in
theorem w_TL_textWord_L4 {p : Program} {l : Launch} {e : Env} {s : State} {m : MethodId} {args : Array Value} {below : List Frame} {meth : Method} {c : Code} {Q : State → Prop} {A : Nat → Prop} {D : va_G} {cI cJ cZ cO : ClassId} {q_this q_world q_slots q_text q_search q_world_teacher q_world_learner q_world_teacher_machine q_world_teacher_lies q_world_teacher_machine_moves q_world_teacher_machine_finals : Nat} {v_textLength : Int32} {v_world_teacher_lieCount : Int32} {v_world_teacher_machine_size : Int32} {v_world_teacher_machine_letters : Int32} {v_text : (Nat → Int32)} {x : Int64} (C0 : Cx p s m args c A D cI cJ cZ cO cX9_textWord 5 RX9) (hQ : RtJ p l e rm_TL_textWord s m args below meth c Q A D cX9_textWord (ws_TL_textWord cI cJ cZ q_this q_world q_slots q_text q_search q_world_teacher q_world_learner q_world_teacher_machine q_world_teacher_lies q_world_teacher_machine_moves q_world_teacher_machine_finals v_textLength v_world_teacher_lieCount v_world_teacher_machine_size v_world_teacher_machine_letters v_text) x) {K : Int64 → Int32 → Option (Int64)} (hK : ∀ (x1 : Int64) (x3 : Int32) (H : Heap) (locs : List Loc) (ls : Array Slot), K x1 x3 = some x → Wd s A D (ws_TL_textWord cI cJ cZ q_this q_world q_slots q_text q_search q_world_teacher q_world_learner q_world_teacher_machine q_world_teacher_lies q_world_teacher_machine_moves q_world_teacher_machine_finals v_textLength v_world_teacher_lieCount v_world_teacher_machine_size v_world_teacher_machine_letters v_text) H locs → lv_has ls 5 [(1, .long x1)] → W p l e rm_TL_textWord s m args below meth c H locs 0 0 Q (F0 m 58 ls [])) {rec : Int64 → Int32 → Option (Int64)} (hrec : ∀ (x1 : Int64) (x3 : Int32) (H : Heap) (locs : List Loc) (ls : Array Slot), rec x1 x3 = some x → Wd s A D (ws_TL_textWord cI cJ cZ q_this q_world q_slots q_text q_search q_world_teacher q_world_learner q_world_teacher_machine q_world_teacher_lies q_world_teacher_machine_moves q_world_teacher_machine_finals v_textLength v_world_teacher_lieCount v_world_teacher_machine_size v_world_teacher_machine_letters v_text) H locs → lv_has ls 5 [(0, .ref q_this), (1, .long x1), (3, .int x3)] → W p l e rm_TL_textWord s m args below meth c H locs 0 0 Q (F0 m 4 ls [])) (x1 : Int64) (x3 : Int32) {H : Heap} {locs : List Loc} {ls : Array Slot} (h : f_TL_textWord_L4 v_textLength v_world_teacher_machine_letters v_text K rec x1 x3 = some x) (w : Wd s A D (ws_TL_textWord cI cJ cZ q_this q_world q_slots q_text q_search q_world_teacher q_world_learner q_world_teacher_machine q_world_teacher_lies q_world_teacher_machine_moves q_world_teacher_machine_finals v_textLength v_world_teacher_lieCount v_world_teacher_machine_size v_world_teacher_machine_letters v_text) H locs) (hl : lv_has ls 5 [(0, .ref q_this), (1, .long x1), (3, .int x3)]) : W p l e rm_TL_textWord s m args below meth c H locs 0 0 Q (F0 m 4 ls []) := by
  obtain ⟨hx, hb, hml, hown, hts, -, -⟩ := id C0
  unfold f_TL_textWord_L4 at h
  refine lv_iload_n hx hb dX9_textWord_4 rfl (lv_at hl 2 rfl) ?_
  refine lv_aload_n hx hb dX9_textWord_5 rfl (lv_at hl 0 rfl) ?_
  refine r_get C0 w 0 rfl kf_TL 3 (by decide) lf_RX9_24 rfl dX9_textWord_6 ?_
  refine lv_icmp_ge (tgt := 58) hx hb dX9_textWord_9 (by decide) (fun hc => ?_) (fun hc => ?_)
  · have h := if_h hc h
    exact hK _ _ _ _ _ h w (lv_sub hl [1] rfl)
  · have h := nf_h hc h
    refine lv_aload_n hx hb dX9_textWord_12 rfl (lv_at hl 0 rfl) ?_
    refine r_get C0 w 0 rfl kf_TL 2 (by decide) lf_RX9_20 rfl dX9_textWord_13 ?_
    refine lv_iload_n hx hb dX9_textWord_16 rfl (lv_at hl 2 rfl) ?_
    obtain ⟨hi, h⟩ := gIn_h h
    refine r_iald C0 w 4 rfl rfl hi dX9_textWord_17 ?_
    refine lv_bipush (v := (97 : Int32)) hx hb dX9_textWord_18 (by decide) ?_
    refine lv_isub hx hb dX9_textWord_20 ?_
    refine lv_topi (fun x4 ex4 => ?_)
    have h := bnd_at ex4 h
    refine lv_istore (lv' := [(4, .int x4), (0, .ref q_this), (1, .long x1), (3, .int x3)]) hx hb dX9_textWord_21 hl (by decide) rfl (fun ls hl => ?_)
    refine lv_aload_n hx hb dX9_textWord_23 rfl (lv_at hl 1 rfl) ?_
    refine r_get C0 w 0 rfl kf_TL 0 (by decide) lf_RX9_10 rfl dX9_textWord_24 ?_
    refine r_get C0 w 1 rfl kf_Wo 0 (by decide) lf_RX9_35 rfl dX9_textWord_27 ?_
    refine r_get C0 w 2 rfl kf_Te 0 (by decide) lf_RX9_39 rfl dX9_textWord_30 ?_
    refine lv_iload hx hb dX9_textWord_33 (lv_at hl 0 rfl) ?_
    obtain ⟨r, hcall, h⟩ := bd1_h h
    obtain ⟨wr, hp, hp'⟩ := rd_of (ws := (ws_TL_textWord cI cJ cZ q_this q_world q_slots q_text q_search q_world_teacher q_world_learner q_world_teacher_machine q_world_teacher_lies q_world_teacher_machine_moves q_world_teacher_machine_finals v_textLength v_world_teacher_lieCount v_world_teacher_machine_size v_world_teacher_machine_letters v_text)) (wc := (ws_Au_hasLetter cI cJ cZ q_world_teacher_machine q_world_teacher_machine_moves q_world_teacher_machine_finals v_world_teacher_machine_size v_world_teacher_machine_letters)) [3] rfl rfl
    refine r_VI (r := r) (As := [.int x4]) (rest := []) (wc' := (ws_Au_hasLetter cI cJ cZ q_world_teacher_machine q_world_teacher_machine_moves q_world_teacher_machine_finals v_world_teacher_machine_size v_world_teacher_machine_letters)) (ws' := (ws_TL_textWord cI cJ cZ q_this q_world q_slots q_text q_search q_world_teacher q_world_learner q_world_teacher_machine q_world_teacher_lies q_world_teacher_machine_moves q_world_teacher_machine_finals v_textLength v_world_teacher_lieCount v_world_teacher_machine_size v_world_teacher_machine_letters v_text)) C0 w (c_Au_hasLetter hcall) hp hp' lm_RX9_61 mv_Au_hasLetter ⟨rfl, rfl⟩ ⟨by decide, by decide⟩ ⟨Nat.zero_le _, Nat.zero_le _⟩ (q0 := 3) rfl rfl rfl rfl hl rfl (Nat.le_of_ble_eq_true rfl) dX9_textWord_35 (fun H locs w => ?_)
    refine lv_if_ne (tgt := 45) hx hb dX9_textWord_38 (by decide) (fun hc => ?_) (fun hc => ?_)
    · have h := nf_h hc h
      refine lv_lload_n hx hb dX9_textWord_45 rfl (lv_at hl 2 rfl) ?_
      refine lv_iload hx hb dX9_textWord_46 (lv_at hl 0 rfl) ?_
      obtain ⟨r_1, hcall, h⟩ := bd1_h h
      obtain ⟨wr, hp, hp'⟩ := rd_of (ws := (ws_TL_textWord cI cJ cZ q_this q_world q_slots q_text q_search q_world_teacher q_world_learner q_world_teacher_machine q_world_teacher_lies q_world_teacher_machine_moves q_world_teacher_machine_finals v_textLength v_world_teacher_lieCount v_world_teacher_machine_size v_world_teacher_machine_letters v_text)) (wc := (ws_Ws_append cI cJ cZ)) [] rfl rfl
      refine r_SJ (r := r_1) (As := [.long x1, .int x4]) (rest := []) (wc' := (ws_Ws_append cI cJ cZ)) (ws' := (ws_TL_textWord cI cJ cZ q_this q_world q_slots q_text q_search q_world_teacher q_world_learner q_world_teacher_machine q_world_teacher_lies q_world_teacher_machine_moves q_world_teacher_machine_finals v_textLength v_world_teacher_lieCount v_world_teacher_machine_size v_world_teacher_machine_letters v_text)) C0 w (c_Ws_append hcall) hp hp' lm_RX9_163 ms_Ws_append ⟨rfl, rfl⟩ ⟨by decide, by decide⟩ ⟨Nat.zero_le _, Nat.zero_le _⟩ rfl hl rfl (Nat.le_of_ble_eq_true rfl) dX9_textWord_48 (fun H locs w => ?_)
      refine lv_lstore_n (lv' := [(1, .long r_1), (4, .int x4), (0, .ref q_this), (3, .int x3)]) hx hb dX9_textWord_51 rfl hl (by decide) rfl (fun ls hl => ?_)
      obtain ⟨x3_1, ex3_1⟩ : ∃ y : Int32, y = (x3 + 1) := ⟨_, rfl⟩
      have h := bnd_at ex3_1 h
      refine lv_iinc (v := x3_1) (lv' := [(3, .int x3_1), (1, .long r_1), (4, .int x4), (0, .ref q_this)]) hx hb dX9_textWord_52 hl (k := 3) rfl (by rw [ex3_1]; rfl) (by decide) rfl (fun ls hl => ?_)
      refine lv_goto (tgt := 4) hx hb dX9_textWord_55 (by decide) ?_
      exact hrec _ _ _ _ _ h w (lv_sub hl [3, 1, 0] rfl)
    · have h := if_h hc h
      refine lv_ldc2 (v := (-1 : Int64)) hx hb hown (hts _ ll_RX9_83) dX9_textWord_41 ?_
      cases h
      exact hQ _ _ _ _ dX9_textWord_44 w
set_option maxRecDepth 100000 in
theorem wl_TL_textWord_L4 {p : Program} {l : Launch} {e : Env} {s : State} {m : MethodId} {args : Array Value} {below : List Frame} {meth : Method} {c : Code} {Q : State → Prop} {A : Nat → Prop} {D : va_G} {cI cJ cZ cO : ClassId} {q_this q_world q_slots q_text q_search q_world_teacher q_world_learner q_world_teacher_machine q_world_teacher_lies q_world_teacher_machine_moves q_world_teacher_machine_finals : Nat} {v_textLength : Int32} {v_world_teacher_lieCount : Int32} {v_world_teacher_machine_size : Int32} {v_world_teacher_machine_letters : Int32} {v_text : (Nat → Int32)} {x : Int64} (C0 : Cx p s m args c A D cI cJ cZ cO cX9_textWord 5 RX9) (hQ : RtJ p l e rm_TL_textWord s m args below meth c Q A D cX9_textWord (ws_TL_textWord cI cJ cZ q_this q_world q_slots q_text q_search q_world_teacher q_world_learner q_world_teacher_machine q_world_teacher_lies q_world_teacher_machine_moves q_world_teacher_machine_finals v_textLength v_world_teacher_lieCount v_world_teacher_machine_size v_world_teacher_machine_letters v_text) x) {K : Int64 → Int32 → Option (Int64)} (hK : ∀ (x1 : Int64) (x3 : Int32) (H : Heap) (locs : List Loc) (ls : Array Slot), K x1 x3 = some x → Wd s A D (ws_TL_textWord cI cJ cZ q_this q_world q_slots q_text q_search q_world_teacher q_world_learner q_world_teacher_machine q_world_teacher_lies q_world_teacher_machine_moves q_world_teacher_machine_finals v_textLength v_world_teacher_lieCount v_world_teacher_machine_size v_world_teacher_machine_letters v_text) H locs → lv_has ls 5 [(1, .long x1)] → W p l e rm_TL_textWord s m args below meth c H locs 0 0 Q (F0 m 58 ls [])) : ∀ (n : Nat) (x1 : Int64) (x3 : Int32) (H : Heap) (locs : List Loc) (ls : Array Slot), itr (fun _ _ => none) (f_TL_textWord_L4 v_textLength v_world_teacher_machine_letters v_text K) n x1 x3 = some x → Wd s A D (ws_TL_textWord cI cJ cZ q_this q_world q_slots q_text q_search q_world_teacher q_world_learner q_world_teacher_machine q_world_teacher_lies q_world_teacher_machine_moves q_world_teacher_machine_finals v_textLength v_world_teacher_lieCount v_world_teacher_machine_size v_world_teacher_machine_letters v_text) H locs → lv_has ls 5 [(0, .ref q_this), (1, .long x1), (3, .int x3)] → W p l e rm_TL_textWord s m args below meth c H locs 0 0 Q (F0 m 4 ls []) := by
  intro n
  induction n with
  | zero => intro _ _ _ _ _ h; cases (show none = some _ from h)
  | succ n ih => intro _ _ _ _ _ h w hl; exact w_TL_textWord_L4 C0 hQ hK ih _ _ h w hl
set_option maxRecDepth 100000 in
theorem c_TL_textWord {l : Launch} {D : va_G} {cI cJ cZ cO : ClassId} {q_this q_world q_slots q_text q_search q_world_teacher q_world_learner q_world_teacher_machine q_world_teacher_lies q_world_teacher_machine_moves q_world_teacher_machine_finals : Nat} {v_textLength : Int32} {v_world_teacher_lieCount : Int32} {v_world_teacher_machine_size : Int32} {v_world_teacher_machine_letters : Int32} {v_text : (Nat → Int32)} {x : Int64} (h : f_TL_textWord v_textLength v_world_teacher_machine_letters v_text = some x) : ctJ l D cI cJ cZ cO yX9_textWord cX9_textWord 5 rm_TL_textWord [.ref q_this] (ws_TL_textWord cI cJ cZ q_this q_world q_slots q_text q_search q_world_teacher q_world_learner q_world_teacher_machine q_world_teacher_lies q_world_teacher_machine_moves q_world_teacher_machine_finals v_textLength v_world_teacher_lieCount v_world_teacher_machine_size v_world_teacher_machine_letters v_text) (ws_TL_textWord cI cJ cZ q_this q_world q_slots q_text q_search q_world_teacher q_world_learner q_world_teacher_machine q_world_teacher_lies q_world_teacher_machine_moves q_world_teacher_machine_finals v_textLength v_world_teacher_lieCount v_world_teacher_machine_size v_world_teacher_machine_letters v_text) x := by
  refine ctJ_of (by decide) (Nat.le_of_ble_eq_true rfl) ?_
  intro p e s m below meth c Q A ls C0 hQ w hl
  have hl : lv_has ls 5 [(0, .ref q_this)] := hl
  generalize List.toArray (α := Value) [.ref q_this] = args at C0 hQ ⊢
  obtain ⟨hx, hb, hml, hown, hts, -, -⟩ := id C0
  unfold f_TL_textWord at h
  refine lv_lconst (v := (1 : Int64)) hx hb dX9_textWord_0 (by decide) ?_
  refine lv_lstore_n (lv' := [(1, .long (1 : Int64)), (0, .ref q_this)]) hx hb dX9_textWord_1 rfl hl (by decide) rfl (fun ls hl => ?_)
  refine lv_iconst (v := (0 : Int32)) hx hb dX9_textWord_2 (by decide) ?_
  refine lv_istore_n (lv' := [(3, .int (0 : Int32)), (1, .long (1 : Int64)), (0, .ref q_this)]) hx hb dX9_textWord_3 rfl hl (by decide) rfl (fun ls hl => ?_)
  refine wl_TL_textWord_L4 C0 hQ (fun x1 x3 H locs ls h w hl => ?_) _ _ _ _ _ _ h w (lv_sub hl [2, 1, 0] rfl)
  refine lv_lload_n hx hb dX9_textWord_58 rfl (lv_at hl 0 rfl) ?_
  cases h
  exact hQ _ _ _ _ dX9_textWord_59 w
theorem dX5_placeOfLie_0 : decode cX5_placeOfLie 0 = .ok (.iconst 0, 1) := by decide +kernel
theorem dX5_placeOfLie_1 : decode cX5_placeOfLie 1 = .ok (.istore_n 3, 1) := by decide +kernel
theorem dX5_placeOfLie_2 : decode cX5_placeOfLie 2 = .ok (.iload_n 3, 1) := by decide +kernel
theorem dX5_placeOfLie_3 : decode cX5_placeOfLie 3 = .ok (.aload_n 0, 1) := by decide +kernel
theorem dX5_placeOfLie_4 : decode cX5_placeOfLie 4 = .ok (.getfield 28, 3) := by decide +kernel
theorem dX5_placeOfLie_7 : decode cX5_placeOfLie 7 = .ok (.if_icmp .ge 22, 3) := by decide +kernel
theorem dX5_placeOfLie_10 : decode cX5_placeOfLie 10 = .ok (.aload_n 0, 1) := by decide +kernel
theorem dX5_placeOfLie_11 : decode cX5_placeOfLie 11 = .ok (.getfield 24, 3) := by decide +kernel
theorem dX5_placeOfLie_14 : decode cX5_placeOfLie 14 = .ok (.iload_n 3, 1) := by decide +kernel
theorem dX5_placeOfLie_15 : decode cX5_placeOfLie 15 = .ok (.laload, 1) := by decide +kernel
theorem dX5_placeOfLie_16 : decode cX5_placeOfLie 16 = .ok (.lload_n 1, 1) := by decide +kernel
theorem dX5_placeOfLie_17 : decode cX5_placeOfLie 17 = .ok (.lcmp, 1) := by decide +kernel
theorem dX5_placeOfLie_18 : decode cX5_placeOfLie 18 = .ok (.ifCond .ne 5, 3) := by decide +kernel
theorem dX5_placeOfLie_21 : decode cX5_placeOfLie 21 = .ok (.iload_n 3, 1) := by decide +kernel
theorem dX5_placeOfLie_22 : decode cX5_placeOfLie 22 = .ok (.ireturn, 1) := by decide +kernel
theorem dX5_placeOfLie_23 : decode cX5_placeOfLie 23 = .ok (.iinc 3 1, 3) := by decide +kernel
theorem dX5_placeOfLie_26 : decode cX5_placeOfLie 26 = .ok (.goto (-24), 3) := by decide +kernel
theorem dX5_placeOfLie_29 : decode cX5_placeOfLie 29 = .ok (.iconst (-1), 1) := by decide +kernel
theorem dX5_placeOfLie_30 : decode cX5_placeOfLie 30 = .ok (.ireturn, 1) := by decide +kernel
set_option maxRecDepth 100000 in
theorem w_Te_placeOfLie_L2 {p : Program} {l : Launch} {e : Env} {s : State} {m : MethodId} {args : Array Value} {below : List Frame} {meth : Method} {c : Code} {Q : State → Prop} {A : Nat → Prop} {D : va_G} {cI cJ cZ cO : ClassId} {q_this q_machine q_lies : Nat} {v_lieCount : Int32} {v_lies : (Nat → Int64)} {x1 : Int64} {x : Int32} (C0 : Cx p s m args c A D cI cJ cZ cO cX5_placeOfLie 4 RX5) (hQ : RtI p l e rm_Te_placeOfLie s m args below meth c Q A D cX5_placeOfLie .int (ws_Te_placeOfLie cI cJ cZ q_this q_machine q_lies v_lieCount v_lies) x) {K : Int32 → Option (Int32)} (hK : ∀ (x3 : Int32) (H : Heap) (locs : List Loc) (ls : Array Slot), K x3 = some x → Wd s A D (ws_Te_placeOfLie cI cJ cZ q_this q_machine q_lies v_lieCount v_lies) H locs → lv_has ls 4 [] → W p l e rm_Te_placeOfLie s m args below meth c H locs 0 0 Q (F0 m 29 ls [])) {rec : Int32 → Option (Int32)} (hrec : ∀ (x3 : Int32) (H : Heap) (locs : List Loc) (ls : Array Slot), rec x3 = some x → Wd s A D (ws_Te_placeOfLie cI cJ cZ q_this q_machine q_lies v_lieCount v_lies) H locs → lv_has ls 4 [(0, .ref q_this), (1, .long x1), (3, .int x3)] → W p l e rm_Te_placeOfLie s m args below meth c H locs 0 0 Q (F0 m 2 ls [])) (x3 : Int32) {H : Heap} {locs : List Loc} {ls : Array Slot} (h : f_Te_placeOfLie_L2 v_lieCount v_lies x1 K rec x3 = some x) (w : Wd s A D (ws_Te_placeOfLie cI cJ cZ q_this q_machine q_lies v_lieCount v_lies) H locs) (hl : lv_has ls 4 [(0, .ref q_this), (1, .long x1), (3, .int x3)]) : W p l e rm_Te_placeOfLie s m args below meth c H locs 0 0 Q (F0 m 2 ls []) := by
  obtain ⟨hx, hb, hml, hown, hts, -, -⟩ := id C0
  unfold f_Te_placeOfLie_L2 at h
  refine lv_iload_n hx hb dX5_placeOfLie_2 rfl (lv_at hl 2 rfl) ?_
  refine lv_aload_n hx hb dX5_placeOfLie_3 rfl (lv_at hl 0 rfl) ?_
  refine r_get C0 w 0 rfl kf_Te 2 (by decide) lf_RX5_28 rfl dX5_placeOfLie_4 ?_
  refine lv_icmp_ge (tgt := 29) hx hb dX5_placeOfLie_7 (by decide) (fun hc => ?_) (fun hc => ?_)
  · have h := if_h hc h
    exact hK _ _ _ _ h w (lv_sub hl [] rfl)
  · have h := nf_h hc h
    refine lv_aload_n hx hb dX5_placeOfLie_10 rfl (lv_at hl 0 rfl) ?_
    refine r_get C0 w 0 rfl kf_Te 1 (by decide) lf_RX5_24 rfl dX5_placeOfLie_11 ?_
    refine lv_iload_n hx hb dX5_placeOfLie_14 rfl (lv_at hl 2 rfl) ?_
    obtain ⟨hi, h⟩ := gIn_h h
    refine r_lald C0 w 1 rfl rfl hi dX5_placeOfLie_15 ?_
    refine lv_lload_n hx hb dX5_placeOfLie_16 rfl (lv_at hl 1 rfl) ?_
    refine r_lc_ne (tgt := 23) hx hb dX5_placeOfLie_17 dX5_placeOfLie_18 (by decide) (fun hc => ?_) (fun hc => ?_)
    · have h := nf_h hc h
      obtain ⟨x3_1, ex3_1⟩ : ∃ y : Int32, y = (x3 + 1) := ⟨_, rfl⟩
      have h := bnd_at ex3_1 h
      refine lv_iinc (v := x3_1) (lv' := [(3, .int x3_1), (0, .ref q_this), (1, .long x1)]) hx hb dX5_placeOfLie_23 hl (k := 2) rfl (by rw [ex3_1]; rfl) (by decide) rfl (fun ls hl => ?_)
      refine lv_goto (tgt := 2) hx hb dX5_placeOfLie_26 (by decide) ?_
      exact hrec _ _ _ _ h w (lv_sub hl [1, 2, 0] rfl)
    · have h := if_h hc h
      refine lv_iload_n hx hb dX5_placeOfLie_21 rfl (lv_at hl 2 rfl) ?_
      cases h
      exact hQ _ _ _ _ dX5_placeOfLie_22 rfl w
set_option maxRecDepth 100000 in
theorem wl_Te_placeOfLie_L2 {p : Program} {l : Launch} {e : Env} {s : State} {m : MethodId} {args : Array Value} {below : List Frame} {meth : Method} {c : Code} {Q : State → Prop} {A : Nat → Prop} {D : va_G} {cI cJ cZ cO : ClassId} {q_this q_machine q_lies : Nat} {v_lieCount : Int32} {v_lies : (Nat → Int64)} {x1 : Int64} {x : Int32} (C0 : Cx p s m args c A D cI cJ cZ cO cX5_placeOfLie 4 RX5) (hQ : RtI p l e rm_Te_placeOfLie s m args below meth c Q A D cX5_placeOfLie .int (ws_Te_placeOfLie cI cJ cZ q_this q_machine q_lies v_lieCount v_lies) x) {K : Int32 → Option (Int32)} (hK : ∀ (x3 : Int32) (H : Heap) (locs : List Loc) (ls : Array Slot), K x3 = some x → Wd s A D (ws_Te_placeOfLie cI cJ cZ q_this q_machine q_lies v_lieCount v_lies) H locs → lv_has ls 4 [] → W p l e rm_Te_placeOfLie s m args below meth c H locs 0 0 Q (F0 m 29 ls [])) : ∀ (n : Nat) (x3 : Int32) (H : Heap) (locs : List Loc) (ls : Array Slot), itr (fun _ => none) (f_Te_placeOfLie_L2 v_lieCount v_lies x1 K) n x3 = some x → Wd s A D (ws_Te_placeOfLie cI cJ cZ q_this q_machine q_lies v_lieCount v_lies) H locs → lv_has ls 4 [(0, .ref q_this), (1, .long x1), (3, .int x3)] → W p l e rm_Te_placeOfLie s m args below meth c H locs 0 0 Q (F0 m 2 ls []) := by
  intro n
  induction n with
  | zero => intro _ _ _ _ h; cases (show none = some _ from h)
  | succ n ih => intro _ _ _ _ h w hl; exact w_Te_placeOfLie_L2 C0 hQ hK ih _ h w hl
set_option maxRecDepth 100000 in
theorem c_Te_placeOfLie {l : Launch} {D : va_G} {cI cJ cZ cO : ClassId} {q_this q_machine q_lies : Nat} {x1 : Int64} {v_lieCount : Int32} {v_lies : (Nat → Int64)} {x : Int32} (h : f_Te_placeOfLie x1 v_lieCount v_lies = some x) : ctI l D cI cJ cZ cO yX5_placeOfLie cX5_placeOfLie 4 .int rm_Te_placeOfLie [.ref q_this, .long x1] (ws_Te_placeOfLie cI cJ cZ q_this q_machine q_lies v_lieCount v_lies) (ws_Te_placeOfLie cI cJ cZ q_this q_machine q_lies v_lieCount v_lies) x := by
  refine ctI_of (by decide) (Nat.le_of_ble_eq_true rfl) ?_
  intro p e s m below meth c Q A ls C0 hQ w hl
  have hl : lv_has ls 4 [(0, .ref q_this), (1, .long x1)] := hl
  generalize List.toArray (α := Value) [.ref q_this, .long x1] = args at C0 hQ ⊢
  obtain ⟨hx, hb, hml, hown, hts, -, -⟩ := id C0
  unfold f_Te_placeOfLie at h
  refine lv_iconst (v := (0 : Int32)) hx hb dX5_placeOfLie_0 (by decide) ?_
  refine lv_istore_n (lv' := [(3, .int (0 : Int32)), (0, .ref q_this), (1, .long x1)]) hx hb dX5_placeOfLie_1 rfl hl (by decide) rfl (fun ls hl => ?_)
  refine wl_Te_placeOfLie_L2 C0 hQ (fun x3 H locs ls h w hl => ?_) _ _ _ _ _ h w (lv_sub hl [1, 2, 0] rfl)
  refine lv_iconst (v := (-1 : Int32)) hx hb dX5_placeOfLie_29 (by decide) ?_
  cases h
  exact hQ _ _ _ _ dX5_placeOfLie_30 rfl w
theorem dX5_turnLie_0 : decode cX5_turnLie 0 = .ok (.aload_n 0, 1) := by decide +kernel
theorem dX5_turnLie_1 : decode cX5_turnLie 1 = .ok (.lload_n 1, 1) := by decide +kernel
theorem dX5_turnLie_2 : decode cX5_turnLie 2 = .ok (.invokevirtual 36, 3) := by decide +kernel
theorem dX5_turnLie_5 : decode cX5_turnLie 5 = .ok (.istore_n 3, 1) := by decide +kernel
theorem dX5_turnLie_6 : decode cX5_turnLie 6 = .ok (.iload_n 3, 1) := by decide +kernel
theorem dX5_turnLie_7 : decode cX5_turnLie 7 = .ok (.iconst (-1), 1) := by decide +kernel
theorem dX5_turnLie_8 : decode cX5_turnLie 8 = .ok (.if_icmp .eq 30, 3) := by decide +kernel
theorem dX5_turnLie_11 : decode cX5_turnLie 11 = .ok (.aload_n 0, 1) := by decide +kernel
theorem dX5_turnLie_12 : decode cX5_turnLie 12 = .ok (.dup, 1) := by decide +kernel
theorem dX5_turnLie_13 : decode cX5_turnLie 13 = .ok (.getfield 28, 3) := by decide +kernel
theorem dX5_turnLie_16 : decode cX5_turnLie 16 = .ok (.iconst 1, 1) := by decide +kernel
theorem dX5_turnLie_17 : decode cX5_turnLie 17 = .ok (.isub, 1) := by decide +kernel
theorem dX5_turnLie_18 : decode cX5_turnLie 18 = .ok (.putfield 28, 3) := by decide +kernel
theorem dX5_turnLie_21 : decode cX5_turnLie 21 = .ok (.aload_n 0, 1) := by decide +kernel
theorem dX5_turnLie_22 : decode cX5_turnLie 22 = .ok (.getfield 24, 3) := by decide +kernel
theorem dX5_turnLie_25 : decode cX5_turnLie 25 = .ok (.iload_n 3, 1) := by decide +kernel
theorem dX5_turnLie_26 : decode cX5_turnLie 26 = .ok (.aload_n 0, 1) := by decide +kernel
theorem dX5_turnLie_27 : decode cX5_turnLie 27 = .ok (.getfield 24, 3) := by decide +kernel
theorem dX5_turnLie_30 : decode cX5_turnLie 30 = .ok (.aload_n 0, 1) := by decide +kernel
theorem dX5_turnLie_31 : decode cX5_turnLie 31 = .ok (.getfield 28, 3) := by decide +kernel
theorem dX5_turnLie_34 : decode cX5_turnLie 34 = .ok (.laload, 1) := by decide +kernel
theorem dX5_turnLie_35 : decode cX5_turnLie 35 = .ok (.lastore, 1) := by decide +kernel
theorem dX5_turnLie_36 : decode cX5_turnLie 36 = .ok (.iconst 1, 1) := by decide +kernel
theorem dX5_turnLie_37 : decode cX5_turnLie 37 = .ok (.ireturn, 1) := by decide +kernel
theorem dX5_turnLie_38 : decode cX5_turnLie 38 = .ok (.aload_n 0, 1) := by decide +kernel
theorem dX5_turnLie_39 : decode cX5_turnLie 39 = .ok (.getfield 28, 3) := by decide +kernel
theorem dX5_turnLie_42 : decode cX5_turnLie 42 = .ok (.iconst 4, 1) := by decide +kernel
theorem dX5_turnLie_43 : decode cX5_turnLie 43 = .ok (.if_icmp .lt 5, 3) := by decide +kernel
theorem dX5_turnLie_46 : decode cX5_turnLie 46 = .ok (.iconst 0, 1) := by decide +kernel
theorem dX5_turnLie_47 : decode cX5_turnLie 47 = .ok (.ireturn, 1) := by decide +kernel
theorem dX5_turnLie_48 : decode cX5_turnLie 48 = .ok (.aload_n 0, 1) := by decide +kernel
theorem dX5_turnLie_49 : decode cX5_turnLie 49 = .ok (.getfield 24, 3) := by decide +kernel
theorem dX5_turnLie_52 : decode cX5_turnLie 52 = .ok (.aload_n 0, 1) := by decide +kernel
theorem dX5_turnLie_53 : decode cX5_turnLie 53 = .ok (.getfield 28, 3) := by decide +kernel
theorem dX5_turnLie_56 : decode cX5_turnLie 56 = .ok (.lload_n 1, 1) := by decide +kernel
theorem dX5_turnLie_57 : decode cX5_turnLie 57 = .ok (.lastore, 1) := by decide +kernel
theorem dX5_turnLie_58 : decode cX5_turnLie 58 = .ok (.aload_n 0, 1) := by decide +kernel
theorem dX5_turnLie_59 : decode cX5_turnLie 59 = .ok (.dup, 1) := by decide +kernel
theorem dX5_turnLie_60 : decode cX5_turnLie 60 = .ok (.getfield 28, 3) := by decide +kernel
theorem dX5_turnLie_63 : decode cX5_turnLie 63 = .ok (.iconst 1, 1) := by decide +kernel
theorem dX5_turnLie_64 : decode cX5_turnLie 64 = .ok (.iadd, 1) := by decide +kernel
theorem dX5_turnLie_65 : decode cX5_turnLie 65 = .ok (.putfield 28, 3) := by decide +kernel
theorem dX5_turnLie_68 : decode cX5_turnLie 68 = .ok (.iconst 1, 1) := by decide +kernel
theorem dX5_turnLie_69 : decode cX5_turnLie 69 = .ok (.ireturn, 1) := by decide +kernel
set_option maxRecDepth 100000 in
theorem c_Te_turnLie {l : Launch} {D : va_G} {cI cJ cZ cO : ClassId} {q_this q_machine q_lies : Nat} {x1 : Int64} {v_lieCount : Int32} {v_lies : (Nat → Int64)} {x : Int32 × (Nat → Int64) × Int32} (h : f_Te_turnLie x1 v_lieCount v_lies = some x) : ctI l D cI cJ cZ cO yX5_turnLie cX5_turnLie 4 .boolean rm_Te_turnLie [.ref q_this, .long x1] (ws_Te_turnLie cI cJ cZ q_this q_machine q_lies v_lieCount v_lies) (ws_Te_turnLie cI cJ cZ q_this q_machine q_lies x.2.2 x.2.1) x.1 := by
  refine ctI_of (by decide) (Nat.le_of_ble_eq_true rfl) ?_
  intro p e s m below meth c Q A ls C0 hQ w hl
  have hl : lv_has ls 4 [(0, .ref q_this), (1, .long x1)] := hl
  generalize List.toArray (α := Value) [.ref q_this, .long x1] = args at C0 hQ ⊢
  obtain ⟨hx, hb, hml, hown, hts, -, -⟩ := id C0
  unfold f_Te_turnLie at h
  refine lv_aload_n hx hb dX5_turnLie_0 rfl (lv_at hl 0 rfl) ?_
  refine lv_lload_n hx hb dX5_turnLie_1 rfl (lv_at hl 1 rfl) ?_
  obtain ⟨r, hcall, h⟩ := bd1_h h
  obtain ⟨wr, hp, hp'⟩ := rd_of (ws := (ws_Te_turnLie cI cJ cZ q_this q_machine q_lies v_lieCount v_lies)) (wc := (ws_Te_placeOfLie cI cJ cZ q_this q_machine q_lies v_lieCount v_lies)) [0, 1] rfl rfl
  refine r_VI (r := r) (As := [.long x1]) (rest := []) (wc' := (ws_Te_placeOfLie cI cJ cZ q_this q_machine q_lies v_lieCount v_lies)) (ws' := (ws_Te_turnLie cI cJ cZ q_this q_machine q_lies v_lieCount v_lies)) C0 w (c_Te_placeOfLie hcall) hp hp' lm_RX5_36 mv_Te_placeOfLie ⟨rfl, rfl⟩ ⟨by decide, by decide⟩ ⟨Nat.zero_le _, Nat.zero_le _⟩ (q0 := 0) rfl rfl rfl rfl hl rfl (Nat.le_of_ble_eq_true rfl) dX5_turnLie_2 (fun H locs w => ?_)
  refine lv_istore_n (lv' := [(3, .int r), (0, .ref q_this), (1, .long x1)]) hx hb dX5_turnLie_5 rfl hl (by decide) rfl (fun ls hl => ?_)
  refine lv_iload_n hx hb dX5_turnLie_6 rfl (lv_at hl 0 rfl) ?_
  refine lv_iconst (v := (-1 : Int32)) hx hb dX5_turnLie_7 (by decide) ?_
  refine lv_icmp_eq (tgt := 38) hx hb dX5_turnLie_8 (by decide) (fun hc => ?_) (fun hc => ?_)
  · have h := if_h hc h
    refine lv_aload_n hx hb dX5_turnLie_38 rfl (lv_at hl 1 rfl) ?_
    refine r_get C0 w 0 rfl kf_Te 2 (by decide) lf_RX5_28 rfl dX5_turnLie_39 ?_
    refine lv_iconst (v := (4 : Int32)) hx hb dX5_turnLie_42 (by decide) ?_
    refine lv_icmp_lt (tgt := 48) hx hb dX5_turnLie_43 (by decide) (fun hc => ?_) (fun hc => ?_)
    · have h := if_h hc h
      refine lv_aload_n hx hb dX5_turnLie_48 rfl (lv_at hl 1 rfl) ?_
      refine r_get C0 w 0 rfl kf_Te 1 (by decide) lf_RX5_24 rfl dX5_turnLie_49 ?_
      refine lv_aload_n hx hb dX5_turnLie_52 rfl (lv_at hl 1 rfl) ?_
      refine r_get C0 w 0 rfl kf_Te 2 (by decide) lf_RX5_28 rfl dX5_turnLie_53 ?_
      refine lv_lload_n hx hb dX5_turnLie_56 rfl (lv_at hl 2 rfl) ?_
      obtain ⟨hi, h⟩ := gIn_h h
      obtain ⟨v_lies_1, ev_lies_1⟩ : ∃ y, y = (vp_updL v_lies v_lieCount.toNatClampNeg x1) := ⟨_, rfl⟩
      have h := bnd_at ev_lies_1 h
      refine r_last C0 w 1 rfl (f' := v_lies_1) rfl hi ev_lies_1 dX5_turnLie_57 (ws' := (ws_Te_turnLie cI cJ cZ q_this q_machine q_lies v_lieCount v_lies_1)) rfl (fun H locs w => ?_)
      refine lv_aload_n hx hb dX5_turnLie_58 rfl (lv_at hl 1 rfl) ?_
      refine lv_dup hx hb dX5_turnLie_59 rfl ?_
      refine r_get C0 w 0 rfl kf_Te 2 (by decide) lf_RX5_28 rfl dX5_turnLie_60 ?_
      refine lv_iconst (v := (1 : Int32)) hx hb dX5_turnLie_63 (by decide) ?_
      refine lv_iadd hx hb dX5_turnLie_64 ?_
      refine lv_topi (fun v_lieCount_1 ev_lieCount_1 => ?_)
      have h := bnd_at ev_lieCount_1 h
      refine r_put C0 w 0 rfl kf_Te 2 (by decide) lf_RX5_28 rfl rfl rfl (Nat.le_of_ble_eq_true rfl) dX5_turnLie_65 (ws' := (ws_Te_turnLie cI cJ cZ q_this q_machine q_lies v_lieCount_1 v_lies_1)) rfl (fun H locs w => ?_)
      refine lv_iconst (v := (1 : Int32)) hx hb dX5_turnLie_68 (by decide) ?_
      cases h
      exact hQ _ _ _ _ dX5_turnLie_69 (gB_n (v := (1 : Int32)) (Or.inr rfl)) w
    · have h := nf_h hc h
      refine lv_iconst (v := (0 : Int32)) hx hb dX5_turnLie_46 (by decide) ?_
      cases h
      exact hQ _ _ _ _ dX5_turnLie_47 (gB_n (v := (0 : Int32)) (Or.inl rfl)) w
  · have h := nf_h hc h
    refine lv_aload_n hx hb dX5_turnLie_11 rfl (lv_at hl 1 rfl) ?_
    refine lv_dup hx hb dX5_turnLie_12 rfl ?_
    refine r_get C0 w 0 rfl kf_Te 2 (by decide) lf_RX5_28 rfl dX5_turnLie_13 ?_
    refine lv_iconst (v := (1 : Int32)) hx hb dX5_turnLie_16 (by decide) ?_
    refine lv_isub hx hb dX5_turnLie_17 ?_
    refine lv_topi (fun v_lieCount_2 ev_lieCount_2 => ?_)
    have h := bnd_at ev_lieCount_2 h
    refine r_put C0 w 0 rfl kf_Te 2 (by decide) lf_RX5_28 rfl rfl rfl (Nat.le_of_ble_eq_true rfl) dX5_turnLie_18 (ws' := (ws_Te_turnLie cI cJ cZ q_this q_machine q_lies v_lieCount_2 v_lies)) rfl (fun H locs w => ?_)
    refine lv_aload_n hx hb dX5_turnLie_21 rfl (lv_at hl 1 rfl) ?_
    refine r_get C0 w 0 rfl kf_Te 1 (by decide) lf_RX5_24 rfl dX5_turnLie_22 ?_
    refine lv_iload_n hx hb dX5_turnLie_25 rfl (lv_at hl 0 rfl) ?_
    refine lv_aload_n hx hb dX5_turnLie_26 rfl (lv_at hl 1 rfl) ?_
    refine r_get C0 w 0 rfl kf_Te 1 (by decide) lf_RX5_24 rfl dX5_turnLie_27 ?_
    refine lv_aload_n hx hb dX5_turnLie_30 rfl (lv_at hl 1 rfl) ?_
    refine r_get C0 w 0 rfl kf_Te 2 (by decide) lf_RX5_28 rfl dX5_turnLie_31 ?_
    obtain ⟨hi, h⟩ := gIn_h h
    refine r_lald C0 w 1 rfl rfl hi dX5_turnLie_34 ?_
    obtain ⟨hi, h⟩ := gIn_h h
    obtain ⟨v_lies_2, ev_lies_2⟩ : ∃ y, y = (vp_updL v_lies r.toNatClampNeg (v_lies v_lieCount_2.toNatClampNeg)) := ⟨_, rfl⟩
    have h := bnd_at ev_lies_2 h
    refine r_last C0 w 1 rfl (f' := v_lies_2) rfl hi ev_lies_2 dX5_turnLie_35 (ws' := (ws_Te_turnLie cI cJ cZ q_this q_machine q_lies v_lieCount_2 v_lies_2)) rfl (fun H locs w => ?_)
    refine lv_iconst (v := (1 : Int32)) hx hb dX5_turnLie_36 (by decide) ?_
    cases h
    exact hQ _ _ _ _ dX5_turnLie_37 (gB_n (v := (1 : Int32)) (Or.inr rfl)) w
theorem dX9_lie_0 : decode cX9_lie 0 = .ok (.aload_n 0, 1) := by decide +kernel
theorem dX9_lie_1 : decode cX9_lie 1 = .ok (.invokevirtual 79, 3) := by decide +kernel
theorem dX9_lie_4 : decode cX9_lie 4 = .ok (.lstore_n 1, 1) := by decide +kernel
theorem dX9_lie_5 : decode cX9_lie 5 = .ok (.lload_n 1, 1) := by decide +kernel
theorem dX9_lie_6 : decode cX9_lie 6 = .ok (.ldc2_w 83, 3) := by decide +kernel
theorem dX9_lie_9 : decode cX9_lie 9 = .ok (.lcmp, 1) := by decide +kernel
theorem dX9_lie_10 : decode cX9_lie 10 = .ok (.ifCond .ne 6, 3) := by decide +kernel
theorem dX9_lie_13 : decode cX9_lie 13 = .ok (.bipush (-2), 2) := by decide +kernel
theorem dX9_lie_15 : decode cX9_lie 15 = .ok (.ireturn, 1) := by decide +kernel
theorem dX9_lie_16 : decode cX9_lie 16 = .ok (.aload_n 0, 1) := by decide +kernel
theorem dX9_lie_17 : decode cX9_lie 17 = .ok (.getfield 10, 3) := by decide +kernel
theorem dX9_lie_20 : decode cX9_lie 20 = .ok (.getfield 35, 3) := by decide +kernel
theorem dX9_lie_23 : decode cX9_lie 23 = .ok (.astore_n 3, 1) := by decide +kernel
theorem dX9_lie_24 : decode cX9_lie 24 = .ok (.aload_n 3, 1) := by decide +kernel
theorem dX9_lie_25 : decode cX9_lie 25 = .ok (.lload_n 1, 1) := by decide +kernel
theorem dX9_lie_26 : decode cX9_lie 26 = .ok (.invokevirtual 85, 3) := by decide +kernel
theorem dX9_lie_29 : decode cX9_lie 29 = .ok (.ifCond .ne 6, 3) := by decide +kernel
theorem dX9_lie_32 : decode cX9_lie 32 = .ok (.bipush (-5), 2) := by decide +kernel
theorem dX9_lie_34 : decode cX9_lie 34 = .ok (.ireturn, 1) := by decide +kernel
theorem dX9_lie_35 : decode cX9_lie 35 = .ok (.aload_n 0, 1) := by decide +kernel
theorem dX9_lie_36 : decode cX9_lie 36 = .ok (.getfield 10, 3) := by decide +kernel
theorem dX9_lie_39 : decode cX9_lie 39 = .ok (.invokevirtual 54, 3) := by decide +kernel
theorem dX9_lie_42 : decode cX9_lie 42 = .ok (.aload_n 3, 1) := by decide +kernel
theorem dX9_lie_43 : decode cX9_lie 43 = .ok (.getfield 51, 3) := by decide +kernel
theorem dX9_lie_46 : decode cX9_lie 46 = .ok (.ireturn, 1) := by decide +kernel
set_option maxRecDepth 100000 in
theorem c_TL_lie {l : Launch} {D : va_G} {cI cJ cZ cO : ClassId} {q_this q_world q_slots q_text q_search q_world_teacher q_world_learner q_world_teacher_machine q_world_teacher_lies q_world_teacher_machine_moves q_world_teacher_machine_finals q_world_learner_asked q_world_learner_table q_world_learner_hypothesis q_world_learner_representatives q_world_learner_asked_entries q_world_learner_table_prefixes q_world_learner_table_suffixes q_world_learner_table_known q_world_learner_table_bits q_world_learner_table_prefixes_words q_world_learner_table_suffixes_words q_world_learner_hypothesis_moves q_world_learner_hypothesis_finals : Nat} {v_textLength : Int32} {v_world_teacher_lieCount : Int32} {v_world_teacher_machine_size : Int32} {v_world_teacher_machine_letters : Int32} {v_world_teacher_lies : (Nat → Int64)} {v_world_learner_mode : Int32} {v_world_learner_budget : Int32} {v_world_learner_formed : Int32} {v_world_learner_counterexample : Int64} {v_world_learner_corrections : Int32} {v_world_learner_deceived : Int32} {v_world_learner_asked_size : Int32} {v_world_learner_table_letters : Int32} {v_world_learner_table_prefixes_size : Int32} {v_world_learner_table_prefixes_longest : Int32} {v_world_learner_table_prefixes_words : (Nat → Int64)} {v_world_learner_table_suffixes_size : Int32} {v_world_learner_table_suffixes_longest : Int32} {v_world_learner_table_suffixes_words : (Nat → Int64)} {v_world_learner_table_known : (Nat → Int32)} {v_world_learner_table_bits : (Nat → Int32)} {v_world_learner_hypothesis_size : Int32} {v_world_learner_hypothesis_letters : Int32} {v_world_learner_hypothesis_moves : (Nat → Int32)} {v_world_learner_hypothesis_finals : (Nat → Int32)} {v_text : (Nat → Int32)} {x : Int32 × (Nat → Int64) × Int32 × Int32 × (Nat → Int64) × Int32 × Int32 × (Nat → Int64) × Int32 × Int32 × (Nat → Int32) × (Nat → Int32) × Int32 × (Nat → Int32) × (Nat → Int32) × Int32 × Int32 × Int32 × Int64 × Int32 × Int32} (h : f_TL_lie v_textLength v_world_teacher_lieCount v_world_teacher_machine_letters v_world_teacher_lies v_world_learner_formed v_world_learner_counterexample v_world_learner_corrections v_world_learner_deceived v_world_learner_asked_size v_world_learner_table_letters v_world_learner_table_prefixes_size v_world_learner_table_prefixes_longest v_world_learner_table_prefixes_words v_world_learner_table_suffixes_size v_world_learner_table_suffixes_longest v_world_learner_table_suffixes_words v_world_learner_table_known v_world_learner_table_bits v_world_learner_hypothesis_size v_world_learner_hypothesis_letters v_world_learner_hypothesis_moves v_world_learner_hypothesis_finals v_text = some x) : ctI l D cI cJ cZ cO yX9_lie cX9_lie 4 .int rm_TL_lie [.ref q_this] (ws_TL_lie cI cJ cZ q_this q_world q_slots q_text q_search q_world_teacher q_world_learner q_world_teacher_machine q_world_teacher_lies q_world_teacher_machine_moves q_world_teacher_machine_finals q_world_learner_asked q_world_learner_table q_world_learner_hypothesis q_world_learner_representatives q_world_learner_asked_entries q_world_learner_table_prefixes q_world_learner_table_suffixes q_world_learner_table_known q_world_learner_table_bits q_world_learner_table_prefixes_words q_world_learner_table_suffixes_words q_world_learner_hypothesis_moves q_world_learner_hypothesis_finals v_textLength v_world_teacher_lieCount v_world_teacher_machine_size v_world_teacher_machine_letters v_world_teacher_lies v_world_learner_mode v_world_learner_budget v_world_learner_formed v_world_learner_counterexample v_world_learner_corrections v_world_learner_deceived v_world_learner_asked_size v_world_learner_table_letters v_world_learner_table_prefixes_size v_world_learner_table_prefixes_longest v_world_learner_table_prefixes_words v_world_learner_table_suffixes_size v_world_learner_table_suffixes_longest v_world_learner_table_suffixes_words v_world_learner_table_known v_world_learner_table_bits v_world_learner_hypothesis_size v_world_learner_hypothesis_letters v_world_learner_hypothesis_moves v_world_learner_hypothesis_finals v_text) (ws_TL_lie cI cJ cZ q_this q_world q_slots q_text q_search q_world_teacher q_world_learner q_world_teacher_machine q_world_teacher_lies q_world_teacher_machine_moves q_world_teacher_machine_finals q_world_learner_asked q_world_learner_table q_world_learner_hypothesis q_world_learner_representatives q_world_learner_asked_entries q_world_learner_table_prefixes q_world_learner_table_suffixes q_world_learner_table_known q_world_learner_table_bits q_world_learner_table_prefixes_words q_world_learner_table_suffixes_words q_world_learner_hypothesis_moves q_world_learner_hypothesis_finals v_textLength x.2.2.1 v_world_teacher_machine_size v_world_teacher_machine_letters x.2.1 v_world_learner_mode v_world_learner_budget x.2.2.2.2.2.2.2.2.2.2.2.2.2.2.2.2.2.1 x.2.2.2.2.2.2.2.2.2.2.2.2.2.2.2.2.2.2.1 x.2.2.2.2.2.2.2.2.2.2.2.2.2.2.2.2.2.2.2.1 x.2.2.2.2.2.2.2.2.2.2.2.2.2.2.2.2.2.2.2.2 x.2.2.2.1 x.2.2.2.2.2.2.2.2.2.2.2.2.1 x.2.2.2.2.2.1 x.2.2.2.2.2.2.1 x.2.2.2.2.1 x.2.2.2.2.2.2.2.2.1 x.2.2.2.2.2.2.2.2.2.1 x.2.2.2.2.2.2.2.1 x.2.2.2.2.2.2.2.2.2.2.1 x.2.2.2.2.2.2.2.2.2.2.2.1 x.2.2.2.2.2.2.2.2.2.2.2.2.2.2.2.1 x.2.2.2.2.2.2.2.2.2.2.2.2.2.2.2.2.1 x.2.2.2.2.2.2.2.2.2.2.2.2.2.1 x.2.2.2.2.2.2.2.2.2.2.2.2.2.2.1 v_text) x.1 := by
  refine ctI_of (by decide) (Nat.le_of_ble_eq_true rfl) ?_
  intro p e s m below meth c Q A ls C0 hQ w hl
  have hl : lv_has ls 4 [(0, .ref q_this)] := hl
  generalize List.toArray (α := Value) [.ref q_this] = args at C0 hQ ⊢
  obtain ⟨hx, hb, hml, hown, hts, -, -⟩ := id C0
  unfold f_TL_lie at h
  refine lv_aload_n hx hb dX9_lie_0 rfl (lv_at hl 0 rfl) ?_
  obtain ⟨r, hcall, h⟩ := bd1_h h
  obtain ⟨wr, hp, hp'⟩ := rd_of (ws := (ws_TL_lie cI cJ cZ q_this q_world q_slots q_text q_search q_world_teacher q_world_learner q_world_teacher_machine q_world_teacher_lies q_world_teacher_machine_moves q_world_teacher_machine_finals q_world_learner_asked q_world_learner_table q_world_learner_hypothesis q_world_learner_representatives q_world_learner_asked_entries q_world_learner_table_prefixes q_world_learner_table_suffixes q_world_learner_table_known q_world_learner_table_bits q_world_learner_table_prefixes_words q_world_learner_table_suffixes_words q_world_learner_hypothesis_moves q_world_learner_hypothesis_finals v_textLength v_world_teacher_lieCount v_world_teacher_machine_size v_world_teacher_machine_letters v_world_teacher_lies v_world_learner_mode v_world_learner_budget v_world_learner_formed v_world_learner_counterexample v_world_learner_corrections v_world_learner_deceived v_world_learner_asked_size v_world_learner_table_letters v_world_learner_table_prefixes_size v_world_learner_table_prefixes_longest v_world_learner_table_prefixes_words v_world_learner_table_suffixes_size v_world_learner_table_suffixes_longest v_world_learner_table_suffixes_words v_world_learner_table_known v_world_learner_table_bits v_world_learner_hypothesis_size v_world_learner_hypothesis_letters v_world_learner_hypothesis_moves v_world_learner_hypothesis_finals v_text)) (wc := (ws_TL_textWord cI cJ cZ q_this q_world q_slots q_text q_search q_world_teacher q_world_learner q_world_teacher_machine q_world_teacher_lies q_world_teacher_machine_moves q_world_teacher_machine_finals v_textLength v_world_teacher_lieCount v_world_teacher_machine_size v_world_teacher_machine_letters v_text)) [0, 1, 2, 3, 17] rfl rfl
  refine r_VJ (r := r) (As := []) (rest := []) (wc' := (ws_TL_textWord cI cJ cZ q_this q_world q_slots q_text q_search q_world_teacher q_world_learner q_world_teacher_machine q_world_teacher_lies q_world_teacher_machine_moves q_world_teacher_machine_finals v_textLength v_world_teacher_lieCount v_world_teacher_machine_size v_world_teacher_machine_letters v_text)) (ws' := (ws_TL_lie cI cJ cZ q_this q_world q_slots q_text q_search q_world_teacher q_world_learner q_world_teacher_machine q_world_teacher_lies q_world_teacher_machine_moves q_world_teacher_machine_finals q_world_learner_asked q_world_learner_table q_world_learner_hypothesis q_world_learner_representatives q_world_learner_asked_entries q_world_learner_table_prefixes q_world_learner_table_suffixes q_world_learner_table_known q_world_learner_table_bits q_world_learner_table_prefixes_words q_world_learner_table_suffixes_words q_world_learner_hypothesis_moves q_world_learner_hypothesis_finals v_textLength v_world_teacher_lieCount v_world_teacher_machine_size v_world_teacher_machine_letters v_world_teacher_lies v_world_learner_mode v_world_learner_budget v_world_learner_formed v_world_learner_counterexample v_world_learner_corrections v_world_learner_deceived v_world_learner_asked_size v_world_learner_table_letters v_world_learner_table_prefixes_size v_world_learner_table_prefixes_longest v_world_learner_table_prefixes_words v_world_learner_table_suffixes_size v_world_learner_table_suffixes_longest v_world_learner_table_suffixes_words v_world_learner_table_known v_world_learner_table_bits v_world_learner_hypothesis_size v_world_learner_hypothesis_letters v_world_learner_hypothesis_moves v_world_learner_hypothesis_finals v_text)) C0 w (c_TL_textWord hcall) hp hp' lm_RX9_79 mv_TL_textWord ⟨rfl, rfl⟩ ⟨by decide, by decide⟩ ⟨Nat.zero_le _, Nat.zero_le _⟩ (q0 := 0) rfl rfl rfl rfl hl rfl (Nat.le_of_ble_eq_true rfl) dX9_lie_1 (fun H locs w => ?_)
  refine lv_lstore_n (lv' := [(1, .long r), (0, .ref q_this)]) hx hb dX9_lie_4 rfl hl (by decide) rfl (fun ls hl => ?_)
  refine lv_lload_n hx hb dX9_lie_5 rfl (lv_at hl 0 rfl) ?_
  refine lv_ldc2 (v := (-1 : Int64)) hx hb hown (hts _ ll_RX9_83) dX9_lie_6 ?_
  refine r_lc_ne (tgt := 16) hx hb dX9_lie_9 dX9_lie_10 (by decide) (fun hc => ?_) (fun hc => ?_)
  · have h := nf_h hc h
    refine lv_aload_n hx hb dX9_lie_16 rfl (lv_at hl 1 rfl) ?_
    refine r_get C0 w 0 rfl kf_TL 0 (by decide) lf_RX9_10 rfl dX9_lie_17 ?_
    refine r_get C0 w 1 rfl kf_Wo 0 (by decide) lf_RX9_35 rfl dX9_lie_20 ?_
    refine lv_astore_n (lv' := [(3, .ref q_world_teacher), (1, .long r), (0, .ref q_this)]) hx hb dX9_lie_23 rfl hl (by decide) rfl (fun ls hl => ?_)
    refine lv_aload_n hx hb dX9_lie_24 rfl (lv_at hl 0 rfl) ?_
    refine lv_lload_n hx hb dX9_lie_25 rfl (lv_at hl 1 rfl) ?_
    obtain ⟨r_1, v_world_teacher_lies_1, v_world_teacher_lieCount_1, hcall, h⟩ := bd3_h h
    have hp := sp_of (ws := (ws_TL_lie cI cJ cZ q_this q_world q_slots q_text q_search q_world_teacher q_world_learner q_world_teacher_machine q_world_teacher_lies q_world_teacher_machine_moves q_world_teacher_machine_finals q_world_learner_asked q_world_learner_table q_world_learner_hypothesis q_world_learner_representatives q_world_learner_asked_entries q_world_learner_table_prefixes q_world_learner_table_suffixes q_world_learner_table_known q_world_learner_table_bits q_world_learner_table_prefixes_words q_world_learner_table_suffixes_words q_world_learner_hypothesis_moves q_world_learner_hypothesis_finals v_textLength v_world_teacher_lieCount v_world_teacher_machine_size v_world_teacher_machine_letters v_world_teacher_lies v_world_learner_mode v_world_learner_budget v_world_learner_formed v_world_learner_counterexample v_world_learner_corrections v_world_learner_deceived v_world_learner_asked_size v_world_learner_table_letters v_world_learner_table_prefixes_size v_world_learner_table_prefixes_longest v_world_learner_table_prefixes_words v_world_learner_table_suffixes_size v_world_learner_table_suffixes_longest v_world_learner_table_suffixes_words v_world_learner_table_known v_world_learner_table_bits v_world_learner_hypothesis_size v_world_learner_hypothesis_letters v_world_learner_hypothesis_moves v_world_learner_hypothesis_finals v_text)) (wc := (ws_Te_turnLie cI cJ cZ q_world_teacher q_world_teacher_machine q_world_teacher_lies v_world_teacher_lieCount v_world_teacher_lies)) [2, 4] [0, 1, 3, 5, 6, 7, 8, 9, 10, 11, 12, 13, 14, 15, 16, 17] rfl rfl
    have hp' : Rp (pk (ws_TL_lie cI cJ cZ q_this q_world q_slots q_text q_search q_world_teacher q_world_learner q_world_teacher_machine q_world_teacher_lies q_world_teacher_machine_moves q_world_teacher_machine_finals q_world_learner_asked q_world_learner_table q_world_learner_hypothesis q_world_learner_representatives q_world_learner_asked_entries q_world_learner_table_prefixes q_world_learner_table_suffixes q_world_learner_table_known q_world_learner_table_bits q_world_learner_table_prefixes_words q_world_learner_table_suffixes_words q_world_learner_hypothesis_moves q_world_learner_hypothesis_finals v_textLength v_world_teacher_lieCount v_world_teacher_machine_size v_world_teacher_machine_letters v_world_teacher_lies v_world_learner_mode v_world_learner_budget v_world_learner_formed v_world_learner_counterexample v_world_learner_corrections v_world_learner_deceived v_world_learner_asked_size v_world_learner_table_letters v_world_learner_table_prefixes_size v_world_learner_table_prefixes_longest v_world_learner_table_prefixes_words v_world_learner_table_suffixes_size v_world_learner_table_suffixes_longest v_world_learner_table_suffixes_words v_world_learner_table_known v_world_learner_table_bits v_world_learner_hypothesis_size v_world_learner_hypothesis_letters v_world_learner_hypothesis_moves v_world_learner_hypothesis_finals v_text) [0, 1, 3, 5, 6, 7, 8, 9, 10, 11, 12, 13, 14, 15, 16, 17] ++ (ws_Te_turnLie cI cJ cZ q_world_teacher q_world_teacher_machine q_world_teacher_lies v_world_teacher_lieCount_1 v_world_teacher_lies_1)) (ws_TL_lie cI cJ cZ q_this q_world q_slots q_text q_search q_world_teacher q_world_learner q_world_teacher_machine q_world_teacher_lies q_world_teacher_machine_moves q_world_teacher_machine_finals q_world_learner_asked q_world_learner_table q_world_learner_hypothesis q_world_learner_representatives q_world_learner_asked_entries q_world_learner_table_prefixes q_world_learner_table_suffixes q_world_learner_table_known q_world_learner_table_bits q_world_learner_table_prefixes_words q_world_learner_table_suffixes_words q_world_learner_hypothesis_moves q_world_learner_hypothesis_finals v_textLength v_world_teacher_lieCount_1 v_world_teacher_machine_size v_world_teacher_machine_letters v_world_teacher_lies_1 v_world_learner_mode v_world_learner_budget v_world_learner_formed v_world_learner_counterexample v_world_learner_corrections v_world_learner_deceived v_world_learner_asked_size v_world_learner_table_letters v_world_learner_table_prefixes_size v_world_learner_table_prefixes_longest v_world_learner_table_prefixes_words v_world_learner_table_suffixes_size v_world_learner_table_suffixes_longest v_world_learner_table_suffixes_words v_world_learner_table_known v_world_learner_table_bits v_world_learner_hypothesis_size v_world_learner_hypothesis_letters v_world_learner_hypothesis_moves v_world_learner_hypothesis_finals v_text) := ⟨[0, 1, 16, 2, 17, 3, 4, 5, 6, 7, 8, 9, 10, 11, 12, 13, 14, 15], rfl, rfl⟩
    refine r_VI (r := r_1) (As := [.long r]) (rest := []) (wc' := (ws_Te_turnLie cI cJ cZ q_world_teacher q_world_teacher_machine q_world_teacher_lies v_world_teacher_lieCount_1 v_world_teacher_lies_1)) (ws' := (ws_TL_lie cI cJ cZ q_this q_world q_slots q_text q_search q_world_teacher q_world_learner q_world_teacher_machine q_world_teacher_lies q_world_teacher_machine_moves q_world_teacher_machine_finals q_world_learner_asked q_world_learner_table q_world_learner_hypothesis q_world_learner_representatives q_world_learner_asked_entries q_world_learner_table_prefixes q_world_learner_table_suffixes q_world_learner_table_known q_world_learner_table_bits q_world_learner_table_prefixes_words q_world_learner_table_suffixes_words q_world_learner_hypothesis_moves q_world_learner_hypothesis_finals v_textLength v_world_teacher_lieCount_1 v_world_teacher_machine_size v_world_teacher_machine_letters v_world_teacher_lies_1 v_world_learner_mode v_world_learner_budget v_world_learner_formed v_world_learner_counterexample v_world_learner_corrections v_world_learner_deceived v_world_learner_asked_size v_world_learner_table_letters v_world_learner_table_prefixes_size v_world_learner_table_prefixes_longest v_world_learner_table_prefixes_words v_world_learner_table_suffixes_size v_world_learner_table_suffixes_longest v_world_learner_table_suffixes_words v_world_learner_table_known v_world_learner_table_bits v_world_learner_hypothesis_size v_world_learner_hypothesis_letters v_world_learner_hypothesis_moves v_world_learner_hypothesis_finals v_text)) C0 w (c_Te_turnLie hcall) hp hp' lm_RX9_85 mv_Te_turnLie ⟨rfl, rfl⟩ ⟨by decide, by decide⟩ ⟨Nat.zero_le _, Nat.zero_le _⟩ (q0 := 2) rfl rfl rfl rfl hl rfl (Nat.le_of_ble_eq_true rfl) dX9_lie_26 (fun H locs w => ?_)
    refine lv_if_ne (tgt := 35) hx hb dX9_lie_29 (by decide) (fun hc => ?_) (fun hc => ?_)
    · have h := nf_h hc h
      refine lv_aload_n hx hb dX9_lie_35 rfl (lv_at hl 2 rfl) ?_
      refine r_get C0 w 0 rfl kf_TL 0 (by decide) lf_RX9_10 rfl dX9_lie_36 ?_
      obtain ⟨v_world_learner_asked_size_1, v_world_learner_table_prefixes_words_1, v_world_learner_table_prefixes_size_1, v_world_learner_table_prefixes_longest_1, v_world_learner_table_suffixes_words_1, v_world_learner_table_suffixes_size_1, v_world_learner_table_suffixes_longest_1, v_world_learner_table_known_1, v_world_learner_table_bits_1, v_world_learner_table_letters_1, v_world_learner_hypothesis_moves_1, v_world_learner_hypothesis_finals_1, v_world_learner_hypothesis_size_1, v_world_learner_hypothesis_letters_1, v_world_learner_formed_1, v_world_learner_counterexample_1, v_world_learner_corrections_1, v_world_learner_deceived_1, hcall, h⟩ := bd18_h h
      have hp := sp_of (ws := (ws_TL_lie cI cJ cZ q_this q_world q_slots q_text q_search q_world_teacher q_world_learner q_world_teacher_machine q_world_teacher_lies q_world_teacher_machine_moves q_world_teacher_machine_finals q_world_learner_asked q_world_learner_table q_world_learner_hypothesis q_world_learner_representatives q_world_learner_asked_entries q_world_learner_table_prefixes q_world_learner_table_suffixes q_world_learner_table_known q_world_learner_table_bits q_world_learner_table_prefixes_words q_world_learner_table_suffixes_words q_world_learner_hypothesis_moves q_world_learner_hypothesis_finals v_textLength v_world_teacher_lieCount_1 v_world_teacher_machine_size v_world_teacher_machine_letters v_world_teacher_lies_1 v_world_learner_mode v_world_learner_budget v_world_learner_formed v_world_learner_counterexample v_world_learner_corrections v_world_learner_deceived v_world_learner_asked_size v_world_learner_table_letters v_world_learner_table_prefixes_size v_world_learner_table_prefixes_longest v_world_learner_table_prefixes_words v_world_learner_table_suffixes_size v_world_learner_table_suffixes_longest v_world_learner_table_suffixes_words v_world_learner_table_known v_world_learner_table_bits v_world_learner_hypothesis_size v_world_learner_hypothesis_letters v_world_learner_hypothesis_moves v_world_learner_hypothesis_finals v_text)) (wc := (ws_Wo_startLearner cI cJ cZ q_world q_world_teacher q_world_learner q_world_teacher_machine q_world_teacher_lies q_world_teacher_machine_moves q_world_teacher_machine_finals q_world_learner_asked q_world_learner_table q_world_learner_hypothesis q_world_learner_representatives q_world_learner_asked_entries q_world_learner_table_prefixes q_world_learner_table_suffixes q_world_learner_table_known q_world_learner_table_bits q_world_learner_table_prefixes_words q_world_learner_table_suffixes_words q_world_learner_hypothesis_moves q_world_learner_hypothesis_finals v_world_teacher_lieCount_1 v_world_teacher_machine_size v_world_teacher_machine_letters v_world_learner_mode v_world_learner_budget v_world_learner_formed v_world_learner_counterexample v_world_learner_corrections v_world_learner_deceived v_world_learner_asked_size v_world_learner_table_letters v_world_learner_table_prefixes_size v_world_learner_table_prefixes_longest v_world_learner_table_prefixes_words v_world_learner_table_suffixes_size v_world_learner_table_suffixes_longest v_world_learner_table_suffixes_words v_world_learner_table_known v_world_learner_table_bits v_world_learner_hypothesis_size v_world_learner_hypothesis_letters v_world_learner_hypothesis_moves v_world_learner_hypothesis_finals)) [1, 2, 3, 5, 6, 7, 8, 9, 10, 11, 12, 13, 14, 15, 16] [0, 4, 17] rfl rfl
      have hp' : Rp (pk (ws_TL_lie cI cJ cZ q_this q_world q_slots q_text q_search q_world_teacher q_world_learner q_world_teacher_machine q_world_teacher_lies q_world_teacher_machine_moves q_world_teacher_machine_finals q_world_learner_asked q_world_learner_table q_world_learner_hypothesis q_world_learner_representatives q_world_learner_asked_entries q_world_learner_table_prefixes q_world_learner_table_suffixes q_world_learner_table_known q_world_learner_table_bits q_world_learner_table_prefixes_words q_world_learner_table_suffixes_words q_world_learner_hypothesis_moves q_world_learner_hypothesis_finals v_textLength v_world_teacher_lieCount_1 v_world_teacher_machine_size v_world_teacher_machine_letters v_world_teacher_lies_1 v_world_learner_mode v_world_learner_budget v_world_learner_formed v_world_learner_counterexample v_world_learner_corrections v_world_learner_deceived v_world_learner_asked_size v_world_learner_table_letters v_world_learner_table_prefixes_size v_world_learner_table_prefixes_longest v_world_learner_table_prefixes_words v_world_learner_table_suffixes_size v_world_learner_table_suffixes_longest v_world_learner_table_suffixes_words v_world_learner_table_known v_world_learner_table_bits v_world_learner_hypothesis_size v_world_learner_hypothesis_letters v_world_learner_hypothesis_moves v_world_learner_hypothesis_finals v_text) [0, 4, 17] ++ (ws_Wo_startLearner cI cJ cZ q_world q_world_teacher q_world_learner q_world_teacher_machine q_world_teacher_lies q_world_teacher_machine_moves q_world_teacher_machine_finals q_world_learner_asked q_world_learner_table q_world_learner_hypothesis q_world_learner_representatives q_world_learner_asked_entries q_world_learner_table_prefixes q_world_learner_table_suffixes q_world_learner_table_known q_world_learner_table_bits q_world_learner_table_prefixes_words q_world_learner_table_suffixes_words q_world_learner_hypothesis_moves q_world_learner_hypothesis_finals v_world_teacher_lieCount_1 v_world_teacher_machine_size v_world_teacher_machine_letters v_world_learner_mode v_world_learner_budget v_world_learner_formed_1 v_world_learner_counterexample_1 v_world_learner_corrections_1 v_world_learner_deceived_1 v_world_learner_asked_size_1 v_world_learner_table_letters_1 v_world_learner_table_prefixes_size_1 v_world_learner_table_prefixes_longest_1 v_world_learner_table_prefixes_words_1 v_world_learner_table_suffixes_size_1 v_world_learner_table_suffixes_longest_1 v_world_learner_table_suffixes_words_1 v_world_learner_table_known_1 v_world_learner_table_bits_1 v_world_learner_hypothesis_size_1 v_world_learner_hypothesis_letters_1 v_world_learner_hypothesis_moves_1 v_world_learner_hypothesis_finals_1)) (ws_TL_lie cI cJ cZ q_this q_world q_slots q_text q_search q_world_teacher q_world_learner q_world_teacher_machine q_world_teacher_lies q_world_teacher_machine_moves q_world_teacher_machine_finals q_world_learner_asked q_world_learner_table q_world_learner_hypothesis q_world_learner_representatives q_world_learner_asked_entries q_world_learner_table_prefixes q_world_learner_table_suffixes q_world_learner_table_known q_world_learner_table_bits q_world_learner_table_prefixes_words q_world_learner_table_suffixes_words q_world_learner_hypothesis_moves q_world_learner_hypothesis_finals v_textLength v_world_teacher_lieCount_1 v_world_teacher_machine_size v_world_teacher_machine_letters v_world_teacher_lies_1 v_world_learner_mode v_world_learner_budget v_world_learner_formed_1 v_world_learner_counterexample_1 v_world_learner_corrections_1 v_world_learner_deceived_1 v_world_learner_asked_size_1 v_world_learner_table_letters_1 v_world_learner_table_prefixes_size_1 v_world_learner_table_prefixes_longest_1 v_world_learner_table_prefixes_words_1 v_world_learner_table_suffixes_size_1 v_world_learner_table_suffixes_longest_1 v_world_learner_table_suffixes_words_1 v_world_learner_table_known_1 v_world_learner_table_bits_1 v_world_learner_hypothesis_size_1 v_world_learner_hypothesis_letters_1 v_world_learner_hypothesis_moves_1 v_world_learner_hypothesis_finals_1 v_text) := ⟨[0, 3, 4, 5, 1, 6, 7, 8, 9, 10, 11, 12, 13, 14, 15, 16, 17, 2], rfl, rfl⟩
      refine r_VV (As := []) (rest := []) (wc' := (ws_Wo_startLearner cI cJ cZ q_world q_world_teacher q_world_learner q_world_teacher_machine q_world_teacher_lies q_world_teacher_machine_moves q_world_teacher_machine_finals q_world_learner_asked q_world_learner_table q_world_learner_hypothesis q_world_learner_representatives q_world_learner_asked_entries q_world_learner_table_prefixes q_world_learner_table_suffixes q_world_learner_table_known q_world_learner_table_bits q_world_learner_table_prefixes_words q_world_learner_table_suffixes_words q_world_learner_hypothesis_moves q_world_learner_hypothesis_finals v_world_teacher_lieCount_1 v_world_teacher_machine_size v_world_teacher_machine_letters v_world_learner_mode v_world_learner_budget v_world_learner_formed_1 v_world_learner_counterexample_1 v_world_learner_corrections_1 v_world_learner_deceived_1 v_world_learner_asked_size_1 v_world_learner_table_letters_1 v_world_learner_table_prefixes_size_1 v_world_learner_table_prefixes_longest_1 v_world_learner_table_prefixes_words_1 v_world_learner_table_suffixes_size_1 v_world_learner_table_suffixes_longest_1 v_world_learner_table_suffixes_words_1 v_world_learner_table_known_1 v_world_learner_table_bits_1 v_world_learner_hypothesis_size_1 v_world_learner_hypothesis_letters_1 v_world_learner_hypothesis_moves_1 v_world_learner_hypothesis_finals_1)) (ws' := (ws_TL_lie cI cJ cZ q_this q_world q_slots q_text q_search q_world_teacher q_world_learner q_world_teacher_machine q_world_teacher_lies q_world_teacher_machine_moves q_world_teacher_machine_finals q_world_learner_asked q_world_learner_table q_world_learner_hypothesis q_world_learner_representatives q_world_learner_asked_entries q_world_learner_table_prefixes q_world_learner_table_suffixes q_world_learner_table_known q_world_learner_table_bits q_world_learner_table_prefixes_words q_world_learner_table_suffixes_words q_world_learner_hypothesis_moves q_world_learner_hypothesis_finals v_textLength v_world_teacher_lieCount_1 v_world_teacher_machine_size v_world_teacher_machine_letters v_world_teacher_lies_1 v_world_learner_mode v_world_learner_budget v_world_learner_formed_1 v_world_learner_counterexample_1 v_world_learner_corrections_1 v_world_learner_deceived_1 v_world_learner_asked_size_1 v_world_learner_table_letters_1 v_world_learner_table_prefixes_size_1 v_world_learner_table_prefixes_longest_1 v_world_learner_table_prefixes_words_1 v_world_learner_table_suffixes_size_1 v_world_learner_table_suffixes_longest_1 v_world_learner_table_suffixes_words_1 v_world_learner_table_known_1 v_world_learner_table_bits_1 v_world_learner_hypothesis_size_1 v_world_learner_hypothesis_letters_1 v_world_learner_hypothesis_moves_1 v_world_learner_hypothesis_finals_1 v_text)) C0 w (c_Wo_startLearner hcall) hp hp' lm_RX9_54 mv_Wo_startLearner ⟨rfl, rfl⟩ ⟨by decide, by decide⟩ ⟨Nat.zero_le _, Nat.zero_le _⟩ (q0 := 1) rfl rfl rfl rfl hl rfl (Nat.le_of_ble_eq_true rfl) dX9_lie_39 (fun H locs w => ?_)
      refine lv_aload_n hx hb dX9_lie_42 rfl (lv_at hl 0 rfl) ?_
      refine r_get C0 w 2 rfl kf_Te 2 (by decide) lf_RX9_51 rfl dX9_lie_43 ?_
      cases h
      exact hQ _ _ _ _ dX9_lie_46 rfl w
    · have h := if_h hc h
      refine lv_bipush (v := (-5 : Int32)) hx hb dX9_lie_32 (by decide) ?_
      cases h
      exact hQ _ _ _ _ dX9_lie_34 rfl w
  · have h := if_h hc h
    refine lv_bipush (v := (-2 : Int32)) hx hb dX9_lie_13 (by decide) ?_
    cases h
    exact hQ _ _ _ _ dX9_lie_15 rfl w
theorem dX0_successors_0 : decode cX0_successors 0 = .ok (.lconst 0, 1) := by decide +kernel
theorem dX0_successors_1 : decode cX0_successors 1 = .ok (.lstore_n 3, 1) := by decide +kernel
theorem dX0_successors_2 : decode cX0_successors 2 = .ok (.iconst 0, 1) := by decide +kernel
theorem dX0_successors_3 : decode cX0_successors 3 = .ok (.istore 5, 2) := by decide +kernel
theorem dX0_successors_5 : decode cX0_successors 5 = .ok (.iload 5, 2) := by decide +kernel
theorem dX0_successors_7 : decode cX0_successors 7 = .ok (.aload_n 0, 1) := by decide +kernel
theorem dX0_successors_8 : decode cX0_successors 8 = .ok (.getfield 18, 3) := by decide +kernel
theorem dX0_successors_11 : decode cX0_successors 11 = .ok (.if_icmp .ge 45, 3) := by decide +kernel
theorem dX0_successors_14 : decode cX0_successors 14 = .ok (.iconst 0, 1) := by decide +kernel
theorem dX0_successors_15 : decode cX0_successors 15 = .ok (.istore 6, 2) := by decide +kernel
theorem dX0_successors_17 : decode cX0_successors 17 = .ok (.iload 6, 2) := by decide +kernel
theorem dX0_successors_19 : decode cX0_successors 19 = .ok (.aload_n 0, 1) := by decide +kernel
theorem dX0_successors_20 : decode cX0_successors 20 = .ok (.getfield 22, 3) := by decide +kernel
theorem dX0_successors_23 : decode cX0_successors 23 = .ok (.if_icmp .ge 27, 3) := by decide +kernel
theorem dX0_successors_26 : decode cX0_successors 26 = .ok (.lload_n 3, 1) := by decide +kernel
theorem dX0_successors_27 : decode cX0_successors 27 = .ok (.lload_n 1, 1) := by decide +kernel
theorem dX0_successors_28 : decode cX0_successors 28 = .ok (.iload 5, 2) := by decide +kernel
theorem dX0_successors_30 : decode cX0_successors 30 = .ok (.lshr, 1) := by decide +kernel
theorem dX0_successors_31 : decode cX0_successors 31 = .ok (.lconst 1, 1) := by decide +kernel
theorem dX0_successors_32 : decode cX0_successors 32 = .ok (.land, 1) := by decide +kernel
theorem dX0_successors_33 : decode cX0_successors 33 = .ok (.aload_n 0, 1) := by decide +kernel
theorem dX0_successors_34 : decode cX0_successors 34 = .ok (.iload 5, 2) := by decide +kernel
theorem dX0_successors_36 : decode cX0_successors 36 = .ok (.iload 6, 2) := by decide +kernel
theorem dX0_successors_38 : decode cX0_successors 38 = .ok (.invokevirtual 35, 3) := by decide +kernel
theorem dX0_successors_41 : decode cX0_successors 41 = .ok (.lshl, 1) := by decide +kernel
theorem dX0_successors_42 : decode cX0_successors 42 = .ok (.lor, 1) := by decide +kernel
theorem dX0_successors_43 : decode cX0_successors 43 = .ok (.lstore_n 3, 1) := by decide +kernel
theorem dX0_successors_44 : decode cX0_successors 44 = .ok (.iinc 6 1, 3) := by decide +kernel
theorem dX0_successors_47 : decode cX0_successors 47 = .ok (.goto (-30), 3) := by decide +kernel
theorem dX0_successors_50 : decode cX0_successors 50 = .ok (.iinc 5 1, 3) := by decide +kernel
theorem dX0_successors_53 : decode cX0_successors 53 = .ok (.goto (-48), 3) := by decide +kernel
theorem dX0_successors_56 : decode cX0_successors 56 = .ok (.lload_n 3, 1) := by decide +kernel
theorem dX0_successors_57 : decode cX0_successors 57 = .ok (.lreturn, 1) := by decide +kernel
set_option maxRecDepth 100000 in
theorem w_Au_successors_L17 {p : Program} {l : Launch} {e : Env} {s : State} {m : MethodId} {args : Array Value} {below : List Frame} {meth : Method} {c : Code} {Q : State → Prop} {A : Nat → Prop} {D : va_G} {cI cJ cZ cO : ClassId} {q_this q_moves q_finals : Nat} {n_moves : Nat} {v_size : Int32} {v_letters : Int32} {v_moves : (Nat → Int32)} {x1 : Int64} {x5 : Int32} {x : Int64} (C0 : Cx p s m args c A D cI cJ cZ cO cX0_successors 7 RX0) (hQ : RtJ p l e rm_Au_successors s m args below meth c Q A D cX0_successors (ws_Au_successors cI cJ cZ q_this q_moves q_finals n_moves v_size v_letters v_moves) x) {K : Int64 → Int32 → Option (Int64)} (hK : ∀ (x3 : Int64) (x6 : Int32) (H : Heap) (locs : List Loc) (ls : Array Slot), K x3 x6 = some x → Wd s A D (ws_Au_successors cI cJ cZ q_this q_moves q_finals n_moves v_size v_letters v_moves) H locs → lv_has ls 7 [(0, .ref q_this), (1, .long x1), (3, .long x3), (5, .int x5)] → W p l e rm_Au_successors s m args below meth c H locs 0 0 Q (F0 m 50 ls [])) {rec : Int64 → Int32 → Option (Int64)} (hrec : ∀ (x3 : Int64) (x6 : Int32) (H : Heap) (locs : List Loc) (ls : Array Slot), rec x3 x6 = some x → Wd s A D (ws_Au_successors cI cJ cZ q_this q_moves q_finals n_moves v_size v_letters v_moves) H locs → lv_has ls 7 [(0, .ref q_this), (1, .long x1), (3, .long x3), (5, .int x5), (6, .int x6)] → W p l e rm_Au_successors s m args below meth c H locs 0 0 Q (F0 m 17 ls [])) (x3 : Int64) (x6 : Int32) {H : Heap} {locs : List Loc} {ls : Array Slot} (h : f_Au_successors_L17 n_moves v_letters v_moves x1 x5 K rec x3 x6 = some x) (w : Wd s A D (ws_Au_successors cI cJ cZ q_this q_moves q_finals n_moves v_size v_letters v_moves) H locs) (hl : lv_has ls 7 [(0, .ref q_this), (1, .long x1), (3, .long x3), (5, .int x5), (6, .int x6)]) : W p l e rm_Au_successors s m args below meth c H locs 0 0 Q (F0 m 17 ls []) := by
  obtain ⟨hx, hb, hml, hown, hts, -, -⟩ := id C0
  unfold f_Au_successors_L17 at h
  refine lv_iload hx hb dX0_successors_17 (lv_at hl 4 rfl) ?_
  refine lv_aload_n hx hb dX0_successors_19 rfl (lv_at hl 0 rfl) ?_
  refine r_get C0 w 0 rfl kf_Au 3 (by decide) lf_RX0_22 rfl dX0_successors_20 ?_
  refine lv_icmp_ge (tgt := 50) hx hb dX0_successors_23 (by decide) (fun hc => ?_) (fun hc => ?_)
  · have h := if_h hc h
    exact hK _ _ _ _ _ h w (lv_sub hl [0, 1, 2, 3] rfl)
  · have h := nf_h hc h
    refine lv_lload_n hx hb dX0_successors_26 rfl (lv_at hl 2 rfl) ?_
    refine lv_lload_n hx hb dX0_successors_27 rfl (lv_at hl 1 rfl) ?_
    refine lv_iload hx hb dX0_successors_28 (lv_at hl 3 rfl) ?_
    refine lv_lshr (v := (x1 >>> (x5.toInt64 &&& 63))) hx hb dX0_successors_30 rfl ?_
    refine lv_lconst (v := (1 : Int64)) hx hb dX0_successors_31 (by decide) ?_
    refine lv_land hx hb dX0_successors_32 ?_
    refine lv_aload_n hx hb dX0_successors_33 rfl (lv_at hl 0 rfl) ?_
    refine lv_iload hx hb dX0_successors_34 (lv_at hl 3 rfl) ?_
    refine lv_iload hx hb dX0_successors_36 (lv_at hl 4 rfl) ?_
    obtain ⟨r, hcall, h⟩ := bd1_h h
    obtain ⟨wr, hp, hp'⟩ := rd_of (ws := (ws_Au_successors cI cJ cZ q_this q_moves q_finals n_moves v_size v_letters v_moves)) (wc := (ws_Au_next cI cJ cZ q_this q_moves q_finals n_moves v_size v_letters v_moves)) [0, 1] rfl rfl
    refine r_VI (r := r) (As := [.int x5, .int x6]) (rest := [.long ((x1 >>> (x5.toInt64 &&& 63)) &&& (1 : Int64)), .long x3]) (wc' := (ws_Au_next cI cJ cZ q_this q_moves q_finals n_moves v_size v_letters v_moves)) (ws' := (ws_Au_successors cI cJ cZ q_this q_moves q_finals n_moves v_size v_letters v_moves)) C0 w (c_Au_next hcall) hp hp' lm_RX0_35 mv_Au_next ⟨rfl, rfl⟩ ⟨by decide, by decide⟩ ⟨Nat.zero_le _, Nat.zero_le _⟩ (q0 := 0) rfl rfl rfl rfl hl rfl (Nat.le_of_ble_eq_true rfl) dX0_successors_38 (fun H locs w => ?_)
    refine lv_lshl (v := (((x1 >>> (x5.toInt64 &&& 63)) &&& (1 : Int64)) <<< (r.toInt64 &&& 63))) hx hb dX0_successors_41 rfl ?_
    refine lv_lor hx hb dX0_successors_42 ?_
    refine lv_topl (fun x3_1 ex3_1 => ?_)
    have h := bnd_at ex3_1 h
    refine lv_lstore_n (lv' := [(3, .long x3_1), (0, .ref q_this), (1, .long x1), (5, .int x5), (6, .int x6)]) hx hb dX0_successors_43 rfl hl (by decide) rfl (fun ls hl => ?_)
    obtain ⟨x6_1, ex6_1⟩ : ∃ y : Int32, y = (x6 + 1) := ⟨_, rfl⟩
    have h := bnd_at ex6_1 h
    refine lv_iinc (v := x6_1) (lv' := [(6, .int x6_1), (3, .long x3_1), (0, .ref q_this), (1, .long x1), (5, .int x5)]) hx hb dX0_successors_44 hl (k := 4) rfl (by rw [ex6_1]; rfl) (by decide) rfl (fun ls hl => ?_)
    refine lv_goto (tgt := 17) hx hb dX0_successors_47 (by decide) ?_
    exact hrec _ _ _ _ _ h w (lv_sub hl [2, 3, 1, 4, 0] rfl)
set_option maxRecDepth 100000 in
theorem wl_Au_successors_L17 {p : Program} {l : Launch} {e : Env} {s : State} {m : MethodId} {args : Array Value} {below : List Frame} {meth : Method} {c : Code} {Q : State → Prop} {A : Nat → Prop} {D : va_G} {cI cJ cZ cO : ClassId} {q_this q_moves q_finals : Nat} {n_moves : Nat} {v_size : Int32} {v_letters : Int32} {v_moves : (Nat → Int32)} {x1 : Int64} {x5 : Int32} {x : Int64} (C0 : Cx p s m args c A D cI cJ cZ cO cX0_successors 7 RX0) (hQ : RtJ p l e rm_Au_successors s m args below meth c Q A D cX0_successors (ws_Au_successors cI cJ cZ q_this q_moves q_finals n_moves v_size v_letters v_moves) x) {K : Int64 → Int32 → Option (Int64)} (hK : ∀ (x3 : Int64) (x6 : Int32) (H : Heap) (locs : List Loc) (ls : Array Slot), K x3 x6 = some x → Wd s A D (ws_Au_successors cI cJ cZ q_this q_moves q_finals n_moves v_size v_letters v_moves) H locs → lv_has ls 7 [(0, .ref q_this), (1, .long x1), (3, .long x3), (5, .int x5)] → W p l e rm_Au_successors s m args below meth c H locs 0 0 Q (F0 m 50 ls [])) : ∀ (n : Nat) (x3 : Int64) (x6 : Int32) (H : Heap) (locs : List Loc) (ls : Array Slot), itr (fun _ _ => none) (f_Au_successors_L17 n_moves v_letters v_moves x1 x5 K) n x3 x6 = some x → Wd s A D (ws_Au_successors cI cJ cZ q_this q_moves q_finals n_moves v_size v_letters v_moves) H locs → lv_has ls 7 [(0, .ref q_this), (1, .long x1), (3, .long x3), (5, .int x5), (6, .int x6)] → W p l e rm_Au_successors s m args below meth c H locs 0 0 Q (F0 m 17 ls []) := by
  intro n
  induction n with
  | zero => intro _ _ _ _ _ h; cases (show none = some _ from h)
  | succ n ih => intro _ _ _ _ _ h w hl; exact w_Au_successors_L17 C0 hQ hK ih _ _ h w hl
set_option maxRecDepth 100000 in
theorem w_Au_successors_L5 {p : Program} {l : Launch} {e : Env} {s : State} {m : MethodId} {args : Array Value} {below : List Frame} {meth : Method} {c : Code} {Q : State → Prop} {A : Nat → Prop} {D : va_G} {cI cJ cZ cO : ClassId} {q_this q_moves q_finals : Nat} {n_moves : Nat} {v_size : Int32} {v_letters : Int32} {v_moves : (Nat → Int32)} {x1 : Int64} {x : Int64} (C0 : Cx p s m args c A D cI cJ cZ cO cX0_successors 7 RX0) (hQ : RtJ p l e rm_Au_successors s m args below meth c Q A D cX0_successors (ws_Au_successors cI cJ cZ q_this q_moves q_finals n_moves v_size v_letters v_moves) x) {K : Int64 → Int32 → Option (Int64)} (hK : ∀ (x3 : Int64) (x5 : Int32) (H : Heap) (locs : List Loc) (ls : Array Slot), K x3 x5 = some x → Wd s A D (ws_Au_successors cI cJ cZ q_this q_moves q_finals n_moves v_size v_letters v_moves) H locs → lv_has ls 7 [(3, .long x3)] → W p l e rm_Au_successors s m args below meth c H locs 0 0 Q (F0 m 56 ls [])) {rec : Int64 → Int32 → Option (Int64)} (hrec : ∀ (x3 : Int64) (x5 : Int32) (H : Heap) (locs : List Loc) (ls : Array Slot), rec x3 x5 = some x → Wd s A D (ws_Au_successors cI cJ cZ q_this q_moves q_finals n_moves v_size v_letters v_moves) H locs → lv_has ls 7 [(0, .ref q_this), (1, .long x1), (3, .long x3), (5, .int x5)] → W p l e rm_Au_successors s m args below meth c H locs 0 0 Q (F0 m 5 ls [])) (x3 : Int64) (x5 : Int32) {H : Heap} {locs : List Loc} {ls : Array Slot} (h : f_Au_successors_L5 n_moves v_size v_letters v_moves x1 K rec x3 x5 = some x) (w : Wd s A D (ws_Au_successors cI cJ cZ q_this q_moves q_finals n_moves v_size v_letters v_moves) H locs) (hl : lv_has ls 7 [(0, .ref q_this), (1, .long x1), (3, .long x3), (5, .int x5)]) : W p l e rm_Au_successors s m args below meth c H locs 0 0 Q (F0 m 5 ls []) := by
  obtain ⟨hx, hb, hml, hown, hts, -, -⟩ := id C0
  unfold f_Au_successors_L5 at h
  refine lv_iload hx hb dX0_successors_5 (lv_at hl 3 rfl) ?_
  refine lv_aload_n hx hb dX0_successors_7 rfl (lv_at hl 0 rfl) ?_
  refine r_get C0 w 0 rfl kf_Au 2 (by decide) lf_RX0_18 rfl dX0_successors_8 ?_
  refine lv_icmp_ge (tgt := 56) hx hb dX0_successors_11 (by decide) (fun hc => ?_) (fun hc => ?_)
  · have h := if_h hc h
    exact hK _ _ _ _ _ h w (lv_sub hl [2] rfl)
  · have h := nf_h hc h
    refine lv_iconst (v := (0 : Int32)) hx hb dX0_successors_14 (by decide) ?_
    refine lv_istore (lv' := [(6, .int (0 : Int32)), (0, .ref q_this), (1, .long x1), (3, .long x3), (5, .int x5)]) hx hb dX0_successors_15 hl (by decide) rfl (fun ls hl => ?_)
    refine wl_Au_successors_L17 C0 hQ (fun x3_1 x6 H locs ls h w hl => ?_) _ _ _ _ _ _ h w (lv_sub hl [1, 2, 3, 4, 0] rfl)
    obtain ⟨x5_1, ex5_1⟩ : ∃ y : Int32, y = (x5 + 1) := ⟨_, rfl⟩
    have h := bnd_at ex5_1 h
    refine lv_iinc (v := x5_1) (lv' := [(5, .int x5_1), (0, .ref q_this), (1, .long x1), (3, .long x3_1)]) hx hb dX0_successors_50 hl (k := 3) rfl (by rw [ex5_1]; rfl) (by decide) rfl (fun ls hl => ?_)
    refine lv_goto (tgt := 5) hx hb dX0_successors_53 (by decide) ?_
    exact hrec _ _ _ _ _ h w (lv_sub hl [1, 2, 3, 0] rfl)
set_option maxRecDepth 100000 in
theorem wl_Au_successors_L5 {p : Program} {l : Launch} {e : Env} {s : State} {m : MethodId} {args : Array Value} {below : List Frame} {meth : Method} {c : Code} {Q : State → Prop} {A : Nat → Prop} {D : va_G} {cI cJ cZ cO : ClassId} {q_this q_moves q_finals : Nat} {n_moves : Nat} {v_size : Int32} {v_letters : Int32} {v_moves : (Nat → Int32)} {x1 : Int64} {x : Int64} (C0 : Cx p s m args c A D cI cJ cZ cO cX0_successors 7 RX0) (hQ : RtJ p l e rm_Au_successors s m args below meth c Q A D cX0_successors (ws_Au_successors cI cJ cZ q_this q_moves q_finals n_moves v_size v_letters v_moves) x) {K : Int64 → Int32 → Option (Int64)} (hK : ∀ (x3 : Int64) (x5 : Int32) (H : Heap) (locs : List Loc) (ls : Array Slot), K x3 x5 = some x → Wd s A D (ws_Au_successors cI cJ cZ q_this q_moves q_finals n_moves v_size v_letters v_moves) H locs → lv_has ls 7 [(3, .long x3)] → W p l e rm_Au_successors s m args below meth c H locs 0 0 Q (F0 m 56 ls [])) : ∀ (n : Nat) (x3 : Int64) (x5 : Int32) (H : Heap) (locs : List Loc) (ls : Array Slot), itr (fun _ _ => none) (f_Au_successors_L5 n_moves v_size v_letters v_moves x1 K) n x3 x5 = some x → Wd s A D (ws_Au_successors cI cJ cZ q_this q_moves q_finals n_moves v_size v_letters v_moves) H locs → lv_has ls 7 [(0, .ref q_this), (1, .long x1), (3, .long x3), (5, .int x5)] → W p l e rm_Au_successors s m args below meth c H locs 0 0 Q (F0 m 5 ls []) := by
  intro n
  induction n with
  | zero => intro _ _ _ _ _ h; cases (show none = some _ from h)
  | succ n ih => intro _ _ _ _ _ h w hl; exact w_Au_successors_L5 C0 hQ hK ih _ _ h w hl
set_option maxRecDepth 100000 in
theorem c_Au_successors {l : Launch} {D : va_G} {cI cJ cZ cO : ClassId} {q_this q_moves q_finals : Nat} {n_moves : Nat} {x1 : Int64} {v_size : Int32} {v_letters : Int32} {v_moves : (Nat → Int32)} {x : Int64} (h : f_Au_successors n_moves x1 v_size v_letters v_moves = some x) : ctJ l D cI cJ cZ cO yX0_successors cX0_successors 7 rm_Au_successors [.ref q_this, .long x1] (ws_Au_successors cI cJ cZ q_this q_moves q_finals n_moves v_size v_letters v_moves) (ws_Au_successors cI cJ cZ q_this q_moves q_finals n_moves v_size v_letters v_moves) x := by
  refine ctJ_of (by decide) (Nat.le_of_ble_eq_true rfl) ?_
  intro p e s m below meth c Q A ls C0 hQ w hl
  have hl : lv_has ls 7 [(0, .ref q_this), (1, .long x1)] := hl
  generalize List.toArray (α := Value) [.ref q_this, .long x1] = args at C0 hQ ⊢
  obtain ⟨hx, hb, hml, hown, hts, -, -⟩ := id C0
  unfold f_Au_successors at h
  refine lv_lconst (v := (0 : Int64)) hx hb dX0_successors_0 (by decide) ?_
  refine lv_lstore_n (lv' := [(3, .long (0 : Int64)), (0, .ref q_this), (1, .long x1)]) hx hb dX0_successors_1 rfl hl (by decide) rfl (fun ls hl => ?_)
  refine lv_iconst (v := (0 : Int32)) hx hb dX0_successors_2 (by decide) ?_
  refine lv_istore (lv' := [(5, .int (0 : Int32)), (3, .long (0 : Int64)), (0, .ref q_this), (1, .long x1)]) hx hb dX0_successors_3 hl (by decide) rfl (fun ls hl => ?_)
  refine wl_Au_successors_L5 C0 hQ (fun x3 x5 H locs ls h w hl => ?_) _ _ _ _ _ _ h w (lv_sub hl [2, 3, 1, 0] rfl)
  refine lv_lload_n hx hb dX0_successors_56 rfl (lv_at hl 0 rfl) ?_
  cases h
  exact hQ _ _ _ _ dX0_successors_57 w
theorem dX0_distanceTo_0 : decode cX0_distanceTo 0 = .ok (.lconst 1, 1) := by decide +kernel
theorem dX0_distanceTo_1 : decode cX0_distanceTo 1 = .ok (.lstore_n 2, 1) := by decide +kernel
theorem dX0_distanceTo_2 : decode cX0_distanceTo 2 = .ok (.iconst 0, 1) := by decide +kernel
theorem dX0_distanceTo_3 : decode cX0_distanceTo 3 = .ok (.istore 4, 2) := by decide +kernel
theorem dX0_distanceTo_5 : decode cX0_distanceTo 5 = .ok (.iload 4, 2) := by decide +kernel
theorem dX0_distanceTo_7 : decode cX0_distanceTo 7 = .ok (.aload_n 0, 1) := by decide +kernel
theorem dX0_distanceTo_8 : decode cX0_distanceTo 8 = .ok (.getfield 18, 3) := by decide +kernel
theorem dX0_distanceTo_11 : decode cX0_distanceTo 11 = .ok (.if_icmp .ge 30, 3) := by decide +kernel
theorem dX0_distanceTo_14 : decode cX0_distanceTo 14 = .ok (.lload_n 2, 1) := by decide +kernel
theorem dX0_distanceTo_15 : decode cX0_distanceTo 15 = .ok (.iload_n 1, 1) := by decide +kernel
theorem dX0_distanceTo_16 : decode cX0_distanceTo 16 = .ok (.lshr, 1) := by decide +kernel
theorem dX0_distanceTo_17 : decode cX0_distanceTo 17 = .ok (.lconst 1, 1) := by decide +kernel
theorem dX0_distanceTo_18 : decode cX0_distanceTo 18 = .ok (.land, 1) := by decide +kernel
theorem dX0_distanceTo_19 : decode cX0_distanceTo 19 = .ok (.lconst 1, 1) := by decide +kernel
theorem dX0_distanceTo_20 : decode cX0_distanceTo 20 = .ok (.lcmp, 1) := by decide +kernel
theorem dX0_distanceTo_21 : decode cX0_distanceTo 21 = .ok (.ifCond .ne 6, 3) := by decide +kernel
theorem dX0_distanceTo_24 : decode cX0_distanceTo 24 = .ok (.iload 4, 2) := by decide +kernel
theorem dX0_distanceTo_26 : decode cX0_distanceTo 26 = .ok (.ireturn, 1) := by decide +kernel
theorem dX0_distanceTo_27 : decode cX0_distanceTo 27 = .ok (.lload_n 2, 1) := by decide +kernel
theorem dX0_distanceTo_28 : decode cX0_distanceTo 28 = .ok (.aload_n 0, 1) := by decide +kernel
theorem dX0_distanceTo_29 : decode cX0_distanceTo 29 = .ok (.lload_n 2, 1) := by decide +kernel
theorem dX0_distanceTo_30 : decode cX0_distanceTo 30 = .ok (.invokevirtual 51, 3) := by decide +kernel
theorem dX0_distanceTo_33 : decode cX0_distanceTo 33 = .ok (.lor, 1) := by decide +kernel
theorem dX0_distanceTo_34 : decode cX0_distanceTo 34 = .ok (.lstore_n 2, 1) := by decide +kernel
theorem dX0_distanceTo_35 : decode cX0_distanceTo 35 = .ok (.iinc 4 1, 3) := by decide +kernel
theorem dX0_distanceTo_38 : decode cX0_distanceTo 38 = .ok (.goto (-33), 3) := by decide +kernel
theorem dX0_distanceTo_41 : decode cX0_distanceTo 41 = .ok (.iconst (-1), 1) := by decide +kernel
theorem dX0_distanceTo_42 : decode cX0_distanceTo 42 = .ok (.ireturn, 1) := by decide +kernel
set_option maxRecDepth 100000 in
theorem w_Au_distanceTo_L5 {p : Program} {l : Launch} {e : Env} {s : State} {m : MethodId} {args : Array Value} {below : List Frame} {meth : Method} {c : Code} {Q : State → Prop} {A : Nat → Prop} {D : va_G} {cI cJ cZ cO : ClassId} {q_this q_moves q_finals : Nat} {n_moves : Nat} {v_size : Int32} {v_letters : Int32} {v_moves : (Nat → Int32)} {x1 : Int32} {x : Int32} (C0 : Cx p s m args c A D cI cJ cZ cO cX0_distanceTo 5 RX0) (hQ : RtI p l e rm_Au_distanceTo s m args below meth c Q A D cX0_distanceTo .int (ws_Au_distanceTo cI cJ cZ q_this q_moves q_finals n_moves v_size v_letters v_moves) x) {K : Int64 → Int32 → Option (Int32)} (hK : ∀ (x2 : Int64) (x4 : Int32) (H : Heap) (locs : List Loc) (ls : Array Slot), K x2 x4 = some x → Wd s A D (ws_Au_distanceTo cI cJ cZ q_this q_moves q_finals n_moves v_size v_letters v_moves) H locs → lv_has ls 5 [] → W p l e rm_Au_distanceTo s m args below meth c H locs 0 0 Q (F0 m 41 ls [])) {rec : Int64 → Int32 → Option (Int32)} (hrec : ∀ (x2 : Int64) (x4 : Int32) (H : Heap) (locs : List Loc) (ls : Array Slot), rec x2 x4 = some x → Wd s A D (ws_Au_distanceTo cI cJ cZ q_this q_moves q_finals n_moves v_size v_letters v_moves) H locs → lv_has ls 5 [(0, .ref q_this), (1, .int x1), (2, .long x2), (4, .int x4)] → W p l e rm_Au_distanceTo s m args below meth c H locs 0 0 Q (F0 m 5 ls [])) (x2 : Int64) (x4 : Int32) {H : Heap} {locs : List Loc} {ls : Array Slot} (h : f_Au_distanceTo_L5 n_moves v_size v_letters v_moves x1 K rec x2 x4 = some x) (w : Wd s A D (ws_Au_distanceTo cI cJ cZ q_this q_moves q_finals n_moves v_size v_letters v_moves) H locs) (hl : lv_has ls 5 [(0, .ref q_this), (1, .int x1), (2, .long x2), (4, .int x4)]) : W p l e rm_Au_distanceTo s m args below meth c H locs 0 0 Q (F0 m 5 ls []) := by
  obtain ⟨hx, hb, hml, hown, hts, -, -⟩ := id C0
  unfold f_Au_distanceTo_L5 at h
  refine lv_iload hx hb dX0_distanceTo_5 (lv_at hl 3 rfl) ?_
  refine lv_aload_n hx hb dX0_distanceTo_7 rfl (lv_at hl 0 rfl) ?_
  refine r_get C0 w 0 rfl kf_Au 2 (by decide) lf_RX0_18 rfl dX0_distanceTo_8 ?_
  refine lv_icmp_ge (tgt := 41) hx hb dX0_distanceTo_11 (by decide) (fun hc => ?_) (fun hc => ?_)
  · have h := if_h hc h
    exact hK _ _ _ _ _ h w (lv_sub hl [] rfl)
  · have h := nf_h hc h
    refine lv_lload_n hx hb dX0_distanceTo_14 rfl (lv_at hl 2 rfl) ?_
    refine lv_iload_n hx hb dX0_distanceTo_15 rfl (lv_at hl 1 rfl) ?_
    refine lv_lshr (v := (x2 >>> (x1.toInt64 &&& 63))) hx hb dX0_distanceTo_16 rfl ?_
    refine lv_lconst (v := (1 : Int64)) hx hb dX0_distanceTo_17 (by decide) ?_
    refine lv_land hx hb dX0_distanceTo_18 ?_
    refine lv_lconst (v := (1 : Int64)) hx hb dX0_distanceTo_19 (by decide) ?_
    refine r_lc_ne (tgt := 27) hx hb dX0_distanceTo_20 dX0_distanceTo_21 (by decide) (fun hc => ?_) (fun hc => ?_)
    · have h := nf_h hc h
      refine lv_lload_n hx hb dX0_distanceTo_27 rfl (lv_at hl 2 rfl) ?_
      refine lv_aload_n hx hb dX0_distanceTo_28 rfl (lv_at hl 0 rfl) ?_
      refine lv_lload_n hx hb dX0_distanceTo_29 rfl (lv_at hl 2 rfl) ?_
      obtain ⟨r, hcall, h⟩ := bd1_h h
      obtain ⟨wr, hp, hp'⟩ := rd_of (ws := (ws_Au_distanceTo cI cJ cZ q_this q_moves q_finals n_moves v_size v_letters v_moves)) (wc := (ws_Au_successors cI cJ cZ q_this q_moves q_finals n_moves v_size v_letters v_moves)) [0, 1] rfl rfl
      refine r_VJ (r := r) (As := [.long x2]) (rest := [.long x2]) (wc' := (ws_Au_successors cI cJ cZ q_this q_moves q_finals n_moves v_size v_letters v_moves)) (ws' := (ws_Au_distanceTo cI cJ cZ q_this q_moves q_finals n_moves v_size v_letters v_moves)) C0 w (c_Au_successors hcall) hp hp' lm_RX0_51 mv_Au_successors ⟨rfl, rfl⟩ ⟨by decide, by decide⟩ ⟨Nat.zero_le _, Nat.zero_le _⟩ (q0 := 0) rfl rfl rfl rfl hl rfl (Nat.le_of_ble_eq_true rfl) dX0_distanceTo_30 (fun H locs w => ?_)
      refine lv_lor hx hb dX0_distanceTo_33 ?_
      refine lv_topl (fun x2_1 ex2_1 => ?_)
      have h := bnd_at ex2_1 h
      refine lv_lstore_n (lv' := [(2, .long x2_1), (0, .ref q_this), (1, .int x1), (4, .int x4)]) hx hb dX0_distanceTo_34 rfl hl (by decide) rfl (fun ls hl => ?_)
      obtain ⟨x4_1, ex4_1⟩ : ∃ y : Int32, y = (x4 + 1) := ⟨_, rfl⟩
      have h := bnd_at ex4_1 h
      refine lv_iinc (v := x4_1) (lv' := [(4, .int x4_1), (2, .long x2_1), (0, .ref q_this), (1, .int x1)]) hx hb dX0_distanceTo_35 hl (k := 3) rfl (by rw [ex4_1]; rfl) (by decide) rfl (fun ls hl => ?_)
      refine lv_goto (tgt := 5) hx hb dX0_distanceTo_38 (by decide) ?_
      exact hrec _ _ _ _ _ h w (lv_sub hl [2, 3, 1, 0] rfl)
    · have h := if_h hc h
      refine lv_iload hx hb dX0_distanceTo_24 (lv_at hl 3 rfl) ?_
      cases h
      exact hQ _ _ _ _ dX0_distanceTo_26 rfl w
set_option maxRecDepth 100000 in
theorem wl_Au_distanceTo_L5 {p : Program} {l : Launch} {e : Env} {s : State} {m : MethodId} {args : Array Value} {below : List Frame} {meth : Method} {c : Code} {Q : State → Prop} {A : Nat → Prop} {D : va_G} {cI cJ cZ cO : ClassId} {q_this q_moves q_finals : Nat} {n_moves : Nat} {v_size : Int32} {v_letters : Int32} {v_moves : (Nat → Int32)} {x1 : Int32} {x : Int32} (C0 : Cx p s m args c A D cI cJ cZ cO cX0_distanceTo 5 RX0) (hQ : RtI p l e rm_Au_distanceTo s m args below meth c Q A D cX0_distanceTo .int (ws_Au_distanceTo cI cJ cZ q_this q_moves q_finals n_moves v_size v_letters v_moves) x) {K : Int64 → Int32 → Option (Int32)} (hK : ∀ (x2 : Int64) (x4 : Int32) (H : Heap) (locs : List Loc) (ls : Array Slot), K x2 x4 = some x → Wd s A D (ws_Au_distanceTo cI cJ cZ q_this q_moves q_finals n_moves v_size v_letters v_moves) H locs → lv_has ls 5 [] → W p l e rm_Au_distanceTo s m args below meth c H locs 0 0 Q (F0 m 41 ls [])) : ∀ (n : Nat) (x2 : Int64) (x4 : Int32) (H : Heap) (locs : List Loc) (ls : Array Slot), itr (fun _ _ => none) (f_Au_distanceTo_L5 n_moves v_size v_letters v_moves x1 K) n x2 x4 = some x → Wd s A D (ws_Au_distanceTo cI cJ cZ q_this q_moves q_finals n_moves v_size v_letters v_moves) H locs → lv_has ls 5 [(0, .ref q_this), (1, .int x1), (2, .long x2), (4, .int x4)] → W p l e rm_Au_distanceTo s m args below meth c H locs 0 0 Q (F0 m 5 ls []) := by
  intro n
  induction n with
  | zero => intro _ _ _ _ _ h; cases (show none = some _ from h)
  | succ n ih => intro _ _ _ _ _ h w hl; exact w_Au_distanceTo_L5 C0 hQ hK ih _ _ h w hl
set_option maxRecDepth 100000 in
theorem c_Au_distanceTo {l : Launch} {D : va_G} {cI cJ cZ cO : ClassId} {q_this q_moves q_finals : Nat} {n_moves : Nat} {x1 : Int32} {v_size : Int32} {v_letters : Int32} {v_moves : (Nat → Int32)} {x : Int32} (h : f_Au_distanceTo n_moves x1 v_size v_letters v_moves = some x) : ctI l D cI cJ cZ cO yX0_distanceTo cX0_distanceTo 5 .int rm_Au_distanceTo [.ref q_this, .int x1] (ws_Au_distanceTo cI cJ cZ q_this q_moves q_finals n_moves v_size v_letters v_moves) (ws_Au_distanceTo cI cJ cZ q_this q_moves q_finals n_moves v_size v_letters v_moves) x := by
  refine ctI_of (by decide) (Nat.le_of_ble_eq_true rfl) ?_
  intro p e s m below meth c Q A ls C0 hQ w hl
  have hl : lv_has ls 5 [(0, .ref q_this), (1, .int x1)] := hl
  generalize List.toArray (α := Value) [.ref q_this, .int x1] = args at C0 hQ ⊢
  obtain ⟨hx, hb, hml, hown, hts, -, -⟩ := id C0
  unfold f_Au_distanceTo at h
  refine lv_lconst (v := (1 : Int64)) hx hb dX0_distanceTo_0 (by decide) ?_
  refine lv_lstore_n (lv' := [(2, .long (1 : Int64)), (0, .ref q_this), (1, .int x1)]) hx hb dX0_distanceTo_1 rfl hl (by decide) rfl (fun ls hl => ?_)
  refine lv_iconst (v := (0 : Int32)) hx hb dX0_distanceTo_2 (by decide) ?_
  refine lv_istore (lv' := [(4, .int (0 : Int32)), (2, .long (1 : Int64)), (0, .ref q_this), (1, .int x1)]) hx hb dX0_distanceTo_3 hl (by decide) rfl (fun ls hl => ?_)
  refine wl_Au_distanceTo_L5 C0 hQ (fun x2 x4 H locs ls h w hl => ?_) _ _ _ _ _ _ h w (lv_sub hl [2, 3, 1, 0] rfl)
  refine lv_iconst (v := (-1 : Int32)) hx hb dX0_distanceTo_41 (by decide) ?_
  cases h
  exact hQ _ _ _ _ dX0_distanceTo_42 rfl w
theorem dX0_hasProperty_0 : decode cX0_hasProperty 0 = .ok (.aload_n 0, 1) := by decide +kernel
theorem dX0_hasProperty_1 : decode cX0_hasProperty 1 = .ok (.iload_n 1, 1) := by decide +kernel
theorem dX0_hasProperty_2 : decode cX0_hasProperty 2 = .ok (.invokevirtual 31, 3) := by decide +kernel
theorem dX0_hasProperty_5 : decode cX0_hasProperty 5 = .ok (.ifCond .ne 13, 3) := by decide +kernel
theorem dX0_hasProperty_8 : decode cX0_hasProperty 8 = .ok (.iload_n 1, 1) := by decide +kernel
theorem dX0_hasProperty_9 : decode cX0_hasProperty 9 = .ok (.iconst 3, 1) := by decide +kernel
theorem dX0_hasProperty_10 : decode cX0_hasProperty 10 = .ok (.if_icmp .eq 8, 3) := by decide +kernel
theorem dX0_hasProperty_13 : decode cX0_hasProperty 13 = .ok (.iload_n 1, 1) := by decide +kernel
theorem dX0_hasProperty_14 : decode cX0_hasProperty 14 = .ok (.iconst 4, 1) := by decide +kernel
theorem dX0_hasProperty_15 : decode cX0_hasProperty 15 = .ok (.if_icmp .ne 7, 3) := by decide +kernel
theorem dX0_hasProperty_18 : decode cX0_hasProperty 18 = .ok (.iconst 1, 1) := by decide +kernel
theorem dX0_hasProperty_19 : decode cX0_hasProperty 19 = .ok (.goto 4, 3) := by decide +kernel
theorem dX0_hasProperty_22 : decode cX0_hasProperty 22 = .ok (.iconst 0, 1) := by decide +kernel
theorem dX0_hasProperty_23 : decode cX0_hasProperty 23 = .ok (.ireturn, 1) := by decide +kernel
set_option maxRecDepth 100000 in
theorem w_Au_hasProperty_J18 {p : Program} {l : Launch} {e : Env} {s : State} {m : MethodId} {args : Array Value} {below : List Frame} {meth : Method} {c : Code} {Q : State → Prop} {A : Nat → Prop} {D : va_G} {cI cJ cZ cO : ClassId} {q_this q_moves q_finals : Nat} {v_size : Int32} {v_letters : Int32} {x : Int32} (C0 : Cx p s m args c A D cI cJ cZ cO cX0_hasProperty 2 RX0) (hQ : RtI p l e rm_Au_hasProperty s m args below meth c Q A D cX0_hasProperty .boolean (ws_Au_hasProperty cI cJ cZ q_this q_moves q_finals v_size v_letters) x) {H : Heap} {locs : List Loc} {ls : Array Slot} (h : f_Au_hasProperty_J18  = some x) (w : Wd s A D (ws_Au_hasProperty cI cJ cZ q_this q_moves q_finals v_size v_letters) H locs) (hl : lv_has ls 2 []) : W p l e rm_Au_hasProperty s m args below meth c H locs 0 0 Q (F0 m 18 ls []) := by
  obtain ⟨hx, hb, hml, hown, hts, -, -⟩ := id C0
  unfold f_Au_hasProperty_J18 at h
  refine lv_iconst (v := (1 : Int32)) hx hb dX0_hasProperty_18 (by decide) ?_
  refine lv_goto (tgt := 23) hx hb dX0_hasProperty_19 (by decide) ?_
  cases h
  exact hQ _ _ _ _ dX0_hasProperty_23 (gB_n (v := (1 : Int32)) (Or.inr rfl)) w
set_option maxRecDepth 100000 in
theorem c_Au_hasProperty {l : Launch} {D : va_G} {cI cJ cZ cO : ClassId} {q_this q_moves q_finals : Nat} {x1 : Int32} {v_size : Int32} {v_letters : Int32} {x : Int32} (h : f_Au_hasProperty x1 v_letters = some x) : ctI l D cI cJ cZ cO yX0_hasProperty cX0_hasProperty 2 .boolean rm_Au_hasProperty [.ref q_this, .int x1] (ws_Au_hasProperty cI cJ cZ q_this q_moves q_finals v_size v_letters) (ws_Au_hasProperty cI cJ cZ q_this q_moves q_finals v_size v_letters) x := by
  refine ctI_of (by decide) (Nat.le_of_ble_eq_true rfl) ?_
  intro p e s m below meth c Q A ls C0 hQ w hl
  have hl : lv_has ls 2 [(0, .ref q_this), (1, .int x1)] := hl
  generalize List.toArray (α := Value) [.ref q_this, .int x1] = args at C0 hQ ⊢
  obtain ⟨hx, hb, hml, hown, hts, -, -⟩ := id C0
  unfold f_Au_hasProperty at h
  refine lv_aload_n hx hb dX0_hasProperty_0 rfl (lv_at hl 0 rfl) ?_
  refine lv_iload_n hx hb dX0_hasProperty_1 rfl (lv_at hl 1 rfl) ?_
  obtain ⟨r, hcall, h⟩ := bd1_h h
  obtain ⟨wr, hp, hp'⟩ := rd_of (ws := (ws_Au_hasProperty cI cJ cZ q_this q_moves q_finals v_size v_letters)) (wc := (ws_Au_hasLetter cI cJ cZ q_this q_moves q_finals v_size v_letters)) [0] rfl rfl
  refine r_VI (r := r) (As := [.int x1]) (rest := []) (wc' := (ws_Au_hasLetter cI cJ cZ q_this q_moves q_finals v_size v_letters)) (ws' := (ws_Au_hasProperty cI cJ cZ q_this q_moves q_finals v_size v_letters)) C0 w (c_Au_hasLetter hcall) hp hp' lm_RX0_31 mv_Au_hasLetter ⟨rfl, rfl⟩ ⟨by decide, by decide⟩ ⟨Nat.zero_le _, Nat.zero_le _⟩ (q0 := 0) rfl rfl rfl rfl hl rfl (Nat.le_of_ble_eq_true rfl) dX0_hasProperty_2 (fun H locs w => ?_)
  refine lv_if_ne (tgt := 18) hx hb dX0_hasProperty_5 (by decide) (fun hc => ?_) (fun hc => ?_)
  · have h := nf_h hc h
    exact w_Au_hasProperty_J18 C0 hQ h w (lv_sub hl [] rfl)
  · have h := if_h hc h
    refine lv_iload_n hx hb dX0_hasProperty_8 rfl (lv_at hl 1 rfl) ?_
    refine lv_iconst (v := (3 : Int32)) hx hb dX0_hasProperty_9 (by decide) ?_
    refine lv_icmp_eq (tgt := 18) hx hb dX0_hasProperty_10 (by decide) (fun hc => ?_) (fun hc => ?_)
    · have h := if_h hc h
      exact w_Au_hasProperty_J18 C0 hQ h w (lv_sub hl [] rfl)
    · have h := nf_h hc h
      refine lv_iload_n hx hb dX0_hasProperty_13 rfl (lv_at hl 1 rfl) ?_
      refine lv_iconst (v := (4 : Int32)) hx hb dX0_hasProperty_14 (by decide) ?_
      obtain ⟨t, et⟩ : ∃ y : Int32, y = (if x1 = (4 : Int32) then (1 : Int32) else (0 : Int32)) := ⟨_, rfl⟩
      have h := bnd_at et h
      have J : W p l e rm_Au_hasProperty s m args below meth c H locs 0 0 Q (F0 m 23 ls [.int t]) := by
        obtain ⟨hg, h⟩ := gB_h h
        cases h
        exact hQ _ _ _ _ dX0_hasProperty_23 (gB_n hg) w
      refine lv_icmp_ne (tgt := 22) hx hb dX0_hasProperty_15 (by decide) (fun hc => ?_) (fun hc => ?_)
      · refine lv_iconst (v := (0 : Int32)) hx hb dX0_hasProperty_22 (by decide) ?_
        exact r_eqi (et.trans (if_neg hc)) J
      · refine lv_iconst (v := (1 : Int32)) hx hb dX0_hasProperty_18 (by decide) ?_
        refine lv_goto (tgt := 23) hx hb dX0_hasProperty_19 (by decide) ?_
        exact r_eqi (et.trans (if_pos hc)) J
theorem dX0_property_0 : decode cX0_property 0 = .ok (.iload_n 2, 1) := by decide +kernel
theorem dX0_property_1 : decode cX0_property 1 = .ok (.iconst 3, 1) := by decide +kernel
theorem dX0_property_2 : decode cX0_property 2 = .ok (.if_icmp .ne 12, 3) := by decide +kernel
theorem dX0_property_5 : decode cX0_property 5 = .ok (.aload_n 0, 1) := by decide +kernel
theorem dX0_property_6 : decode cX0_property 6 = .ok (.getfield 15, 3) := by decide +kernel
theorem dX0_property_9 : decode cX0_property 9 = .ok (.iload_n 1, 1) := by decide +kernel
theorem dX0_property_10 : decode cX0_property 10 = .ok (.iaload, 1) := by decide +kernel
theorem dX0_property_11 : decode cX0_property 11 = .ok (.goto 9, 3) := by decide +kernel
theorem dX0_property_14 : decode cX0_property 14 = .ok (.aload_n 0, 1) := by decide +kernel
theorem dX0_property_15 : decode cX0_property 15 = .ok (.iload_n 1, 1) := by decide +kernel
theorem dX0_property_16 : decode cX0_property 16 = .ok (.iload_n 2, 1) := by decide +kernel
theorem dX0_property_17 : decode cX0_property 17 = .ok (.invokevirtual 35, 3) := by decide +kernel
theorem dX0_property_20 : decode cX0_property 20 = .ok (.ireturn, 1) := by decide +kernel
set_option maxRecDepth 100000 in
theorem c_Au_property {l : Launch} {D : va_G} {cI cJ cZ cO : ClassId} {q_this q_moves q_finals : Nat} {n_moves n_finals : Nat} {x1 : Int32} {x2 : Int32} {v_size : Int32} {v_letters : Int32} {v_moves : (Nat → Int32)} {v_finals : (Nat → Int32)} {x : Int32} (h : f_Au_property n_moves n_finals x1 x2 v_moves v_finals = some x) : ctI l D cI cJ cZ cO yX0_property cX0_property 3 .int rm_Au_property [.ref q_this, .int x1, .int x2] (ws_Au_property cI cJ cZ q_this q_moves q_finals n_moves n_finals v_size v_letters v_moves v_finals) (ws_Au_property cI cJ cZ q_this q_moves q_finals n_moves n_finals v_size v_letters v_moves v_finals) x := by
  refine ctI_of (by decide) (Nat.le_of_ble_eq_true rfl) ?_
  intro p e s m below meth c Q A ls C0 hQ w hl
  have hl : lv_has ls 3 [(0, .ref q_this), (1, .int x1), (2, .int x2)] := hl
  generalize List.toArray (α := Value) [.ref q_this, .int x1, .int x2] = args at C0 hQ ⊢
  obtain ⟨hx, hb, hml, hown, hts, -, -⟩ := id C0
  unfold f_Au_property at h
  refine lv_iload_n hx hb dX0_property_0 rfl (lv_at hl 2 rfl) ?_
  refine lv_iconst (v := (3 : Int32)) hx hb dX0_property_1 (by decide) ?_
  refine lv_icmp_ne (tgt := 14) hx hb dX0_property_2 (by decide) (fun hc => ?_) (fun hc => ?_)
  · have h := nf_h hc h
    refine lv_aload_n hx hb dX0_property_14 rfl (lv_at hl 0 rfl) ?_
    refine lv_iload_n hx hb dX0_property_15 rfl (lv_at hl 1 rfl) ?_
    refine lv_iload_n hx hb dX0_property_16 rfl (lv_at hl 2 rfl) ?_
    obtain ⟨r, hcall, h⟩ := bd1_h h
    obtain ⟨wr, hp, hp'⟩ := rd_of (ws := (ws_Au_property cI cJ cZ q_this q_moves q_finals n_moves n_finals v_size v_letters v_moves v_finals)) (wc := (ws_Au_next cI cJ cZ q_this q_moves q_finals n_moves v_size v_letters v_moves)) [0, 1] rfl rfl
    refine r_VI (r := r) (As := [.int x1, .int x2]) (rest := []) (wc' := (ws_Au_next cI cJ cZ q_this q_moves q_finals n_moves v_size v_letters v_moves)) (ws' := (ws_Au_property cI cJ cZ q_this q_moves q_finals n_moves n_finals v_size v_letters v_moves v_finals)) C0 w (c_Au_next hcall) hp hp' lm_RX0_35 mv_Au_next ⟨rfl, rfl⟩ ⟨by decide, by decide⟩ ⟨Nat.zero_le _, Nat.zero_le _⟩ (q0 := 0) rfl rfl rfl rfl hl rfl (Nat.le_of_ble_eq_true rfl) dX0_property_17 (fun H locs w => ?_)
    cases h
    exact hQ _ _ _ _ dX0_property_20 rfl w
  · have h := if_h hc h
    refine lv_aload_n hx hb dX0_property_5 rfl (lv_at hl 0 rfl) ?_
    refine r_get C0 w 0 rfl kf_Au 1 (by decide) lf_RX0_15 rfl dX0_property_6 ?_
    refine lv_iload_n hx hb dX0_property_9 rfl (lv_at hl 1 rfl) ?_
    obtain ⟨hi, h⟩ := gIn_h h
    refine r_iald C0 w 2 rfl rfl hi dX0_property_10 ?_
    refine lv_goto (tgt := 20) hx hb dX0_property_11 (by decide) ?_
    cases h
    exact hQ _ _ _ _ dX0_property_20 rfl w

set_option maxRecDepth 100000 in
theorem w_Ar_fill_L5 {p : Program} {l : Launch} {e : Env} {s : State} {m : MethodId} {args : Array Value} {below : List Frame} {meth : Method} {c : Code} {Q : State → Prop} {A : Nat → Prop} {D : va_G} {cI cJ cZ cO : ClassId} {q_o0 : Nat} {n_o0 : Nat} {x1 : Int32} {x3 : Int32} {x : (Nat → Int32)} (C0 : Cx p s m args c A D cI cJ cZ cO cJ7_fill_53178 4 RJ7) (hQ : RtV p l e rm_Ar_fill s m args below meth c Q A D cJ7_fill_53178 (ws_Ar_fill cI cJ cZ q_o0 n_o0 x)) {K : Int32 → (Nat → Int32) → Option ((Nat → Int32))} (hK : ∀ (x2 : Int32) (v_o0 : (Nat → Int32)) (H : Heap) (locs : List Loc) (ls : Array Slot), K x2 v_o0 = some x → Wd s A D (ws_Ar_fill cI cJ cZ q_o0 n_o0 v_o0) H locs → lv_has ls 4 [] → W p l e rm_Ar_fill s m args below meth c H locs 0 0 Q (F0 m 20 ls [])) {rec : Int32 → (Nat → Int32) → Option ((Nat → Int32))} (hrec : ∀ (x2 : Int32) (v_o0 : (Nat → Int32)) (H : Heap) (locs : List Loc) (ls : Array Slot), rec x2 v_o0 = some x → Wd s A D (ws_Ar_fill cI cJ cZ q_o0 n_o0 v_o0) H locs → lv_has ls 4 [(0, .ref q_o0), (1, .int x1), (2, .int x2), (3, .int x3)] → W p l e rm_Ar_fill s m args below meth c H locs 0 0 Q (F0 m 5 ls [])) (x2 : Int32) (v_o0 : (Nat → Int32)) {H : Heap} {locs : List Loc} {ls : Array Slot} (h : f_Ar_fill_L5 n_o0 x1 x3 K rec x2 v_o0 = some x) (w : Wd s A D (ws_Ar_fill cI cJ cZ q_o0 n_o0 v_o0) H locs) (hl : lv_has ls 4 [(0, .ref q_o0), (1, .int x1), (2, .int x2), (3, .int x3)]) : W p l e rm_Ar_fill s m args below meth c H locs 0 0 Q (F0 m 5 ls []) := by
  obtain ⟨hx, hb, hml, hown, hts, -, -⟩ := id C0
  unfold f_Ar_fill_L5 at h
  refine lv_iload_n hx hb dJ7_fill_53178_5 rfl (lv_at hl 2 rfl) ?_
  refine lv_iload_n hx hb dJ7_fill_53178_6 rfl (lv_at hl 3 rfl) ?_
  refine lv_icmp_ge (tgt := 20) hx hb dJ7_fill_53178_7 (by decide) (fun hc => ?_) (fun hc => ?_)
  · have h := if_h hc h
    exact hK _ _ _ _ _ h w (lv_sub hl [] rfl)
  · have h := nf_h hc h
    refine lv_aload_n hx hb dJ7_fill_53178_10 rfl (lv_at hl 0 rfl) ?_
    refine lv_iload_n hx hb dJ7_fill_53178_11 rfl (lv_at hl 2 rfl) ?_
    refine lv_iload_n hx hb dJ7_fill_53178_12 rfl (lv_at hl 1 rfl) ?_
    obtain ⟨hi, h⟩ := gIn_h h
    obtain ⟨v_o0_1, ev_o0_1⟩ : ∃ y, y = (upd v_o0 x2.toNatClampNeg x1) := ⟨_, rfl⟩
    have h := bnd_at ev_o0_1 h
    refine r_iast C0 w 0 rfl (f' := v_o0_1) rfl hi ev_o0_1 dJ7_fill_53178_13 (ws' := (ws_Ar_fill cI cJ cZ q_o0 n_o0 v_o0_1)) rfl (fun H locs w => ?_)
    obtain ⟨x2_1, ex2_1⟩ : ∃ y : Int32, y = (x2 + 1) := ⟨_, rfl⟩
    have h := bnd_at ex2_1 h
    refine lv_iinc (v := x2_1) (lv' := [(2, .int x2_1), (0, .ref q_o0), (1, .int x1), (3, .int x3)]) hx hb dJ7_fill_53178_14 hl (k := 2) rfl (by rw [ex2_1]; rfl) (by decide) rfl (fun ls hl => ?_)
    refine lv_goto (tgt := 5) hx hb dJ7_fill_53178_17 (by decide) ?_
    exact hrec _ _ _ _ _ h w (lv_sub hl [1, 2, 0, 3] rfl)
set_option maxRecDepth 100000 in
theorem wl_Ar_fill_L5 {p : Program} {l : Launch} {e : Env} {s : State} {m : MethodId} {args : Array Value} {below : List Frame} {meth : Method} {c : Code} {Q : State → Prop} {A : Nat → Prop} {D : va_G} {cI cJ cZ cO : ClassId} {q_o0 : Nat} {n_o0 : Nat} {x1 : Int32} {x3 : Int32} {x : (Nat → Int32)} (C0 : Cx p s m args c A D cI cJ cZ cO cJ7_fill_53178 4 RJ7) (hQ : RtV p l e rm_Ar_fill s m args below meth c Q A D cJ7_fill_53178 (ws_Ar_fill cI cJ cZ q_o0 n_o0 x)) {K : Int32 → (Nat → Int32) → Option ((Nat → Int32))} (hK : ∀ (x2 : Int32) (v_o0 : (Nat → Int32)) (H : Heap) (locs : List Loc) (ls : Array Slot), K x2 v_o0 = some x → Wd s A D (ws_Ar_fill cI cJ cZ q_o0 n_o0 v_o0) H locs → lv_has ls 4 [] → W p l e rm_Ar_fill s m args below meth c H locs 0 0 Q (F0 m 20 ls [])) : ∀ (n : Nat) (x2 : Int32) (v_o0 : (Nat → Int32)) (H : Heap) (locs : List Loc) (ls : Array Slot), itr (fun _ _ => none) (f_Ar_fill_L5 n_o0 x1 x3 K) n x2 v_o0 = some x → Wd s A D (ws_Ar_fill cI cJ cZ q_o0 n_o0 v_o0) H locs → lv_has ls 4 [(0, .ref q_o0), (1, .int x1), (2, .int x2), (3, .int x3)] → W p l e rm_Ar_fill s m args below meth c H locs 0 0 Q (F0 m 5 ls []) := by
  intro n
  induction n with
  | zero => intro _ _ _ _ _ h; cases (show none = some _ from h)
  | succ n ih => intro _ _ _ _ _ h w hl; exact w_Ar_fill_L5 C0 hQ hK ih _ _ h w hl
set_option maxRecDepth 100000 in
theorem c_Ar_fill {l : Launch} {D : va_G} {cI cJ cZ cO : ClassId} {q_o0 : Nat} {n_o0 : Nat} {x1 : Int32} {v_o0 : (Nat → Int32)} {x : (Nat → Int32)} (h : f_Ar_fill n_o0 x1 v_o0 = some x) : ctV l D cI cJ cZ cO yJ7_fill_53178 cJ7_fill_53178 4 rm_Ar_fill [.ref q_o0, .int x1] (ws_Ar_fill cI cJ cZ q_o0 n_o0 v_o0) (ws_Ar_fill cI cJ cZ q_o0 n_o0 x) := by
  refine ctV_of (by decide) (Nat.le_of_ble_eq_true rfl) ?_
  intro p e s m below meth c Q A ls C0 hQ w hl
  have hl : lv_has ls 4 [(0, .ref q_o0), (1, .int x1)] := hl
  obtain ⟨hx, hb, hml, hown, hts, -, -⟩ := id C0
  unfold f_Ar_fill at h
  skip
  refine lv_iconst (v := (0 : Int32)) hx hb dJ7_fill_53178_0 (by decide) ?_
  refine lv_istore_n (lv' := [(2, .int (0 : Int32)), (0, .ref q_o0), (1, .int x1)]) hx hb dJ7_fill_53178_1 rfl hl (by decide) rfl (fun ls hl => ?_)
  refine lv_aload_n hx hb dJ7_fill_53178_2 rfl (lv_at hl 1 rfl) ?_
  refine r_alen C0 w 0 0 rfl rfl rfl dJ7_fill_53178_3 ?_
  refine lv_topi (fun x3 ex3 => ?_)
  have h := bnd_at ex3 h
  refine lv_istore_n (lv' := [(3, .int x3), (2, .int (0 : Int32)), (0, .ref q_o0), (1, .int x1)]) hx hb dJ7_fill_53178_4 rfl hl (by decide) rfl (fun ls hl => ?_)
  refine wl_Ar_fill_L5 C0 hQ (fun x2 v_o0_1 H locs ls h w hl => ?_) _ _ _ _ _ _ h w (lv_sub hl [2, 3, 1, 0] rfl)
  cases h
  exact hQ _ _ _ _ dJ7_fill_53178_20 w
set_option maxRecDepth 100000 in
theorem c_Au_shape {l : Launch} {D : va_G} {cI cJ cZ cO : ClassId} {q_this q_moves q_finals : Nat} {n_moves n_finals : Nat} {x1 : Int32} {x2 : Int32} {v_size : Int32} {v_letters : Int32} {v_moves : (Nat → Int32)} {v_finals : (Nat → Int32)} {x : (Nat → Int32) × (Nat → Int32) × Int32 × Int32} (h : f_Au_shape n_moves n_finals x1 x2 v_moves v_finals = some x) : ctV l D cI cJ cZ cO yX0_shape cX0_shape 3 rm_Au_shape [.ref q_this, .int x1, .int x2] (ws_Au_shape cI cJ cZ q_this q_moves q_finals n_moves n_finals v_size v_letters v_moves v_finals) (ws_Au_shape cI cJ cZ q_this q_moves q_finals n_moves n_finals x.2.2.1 x.2.2.2 x.1 x.2.1) := by
  refine ctV_of (by decide) (Nat.le_of_ble_eq_true rfl) ?_
  intro p e s m below meth c Q A ls C0 hQ w hl
  have hl : lv_has ls 3 [(0, .ref q_this), (1, .int x1), (2, .int x2)] := hl
  obtain ⟨hx, hb, hml, hown, hts, -, -⟩ := id C0
  unfold f_Au_shape at h
  skip
  refine lv_aload_n hx hb dX0_shape_0 rfl (lv_at hl 0 rfl) ?_
  refine lv_iload_n hx hb dX0_shape_1 rfl (lv_at hl 1 rfl) ?_
  refine r_put C0 w 0 rfl kf_Au 2 (by decide) lf_RX0_18 rfl rfl rfl (Nat.le_of_ble_eq_true rfl) dX0_shape_2 (ws' := (ws_Au_shape cI cJ cZ q_this q_moves q_finals n_moves n_finals x1 v_letters v_moves v_finals)) rfl (fun H locs w => ?_)
  refine lv_aload_n hx hb dX0_shape_5 rfl (lv_at hl 0 rfl) ?_
  refine lv_iload_n hx hb dX0_shape_6 rfl (lv_at hl 2 rfl) ?_
  refine r_put C0 w 0 rfl kf_Au 3 (by decide) lf_RX0_22 rfl rfl rfl (Nat.le_of_ble_eq_true rfl) dX0_shape_7 (ws' := (ws_Au_shape cI cJ cZ q_this q_moves q_finals n_moves n_finals x1 x2 v_moves v_finals)) rfl (fun H locs w => ?_)
  refine lv_aload_n hx hb dX0_shape_10 rfl (lv_at hl 0 rfl) ?_
  refine r_get C0 w 0 rfl kf_Au 0 (by decide) lf_RX0_9 rfl dX0_shape_11 ?_
  refine lv_iconst (v := (0 : Int32)) hx hb dX0_shape_14 (by decide) ?_
  obtain ⟨v_moves_1, hcall, h⟩ := bd1_h h
  have hp := sp_of (ws := (ws_Au_shape cI cJ cZ q_this q_moves q_finals n_moves n_finals x1 x2 v_moves v_finals)) (wc := (ws_Ar_fill cI cJ cZ q_moves n_moves v_moves)) [1] [0, 2] rfl rfl
  have hp' : Rp (pk (ws_Au_shape cI cJ cZ q_this q_moves q_finals n_moves n_finals x1 x2 v_moves v_finals) [0, 2] ++ (ws_Ar_fill cI cJ cZ q_moves n_moves v_moves_1)) (ws_Au_shape cI cJ cZ q_this q_moves q_finals n_moves n_finals x1 x2 v_moves_1 v_finals) := ⟨[0, 2, 1], rfl, rfl⟩
  refine r_SV (As := [.ref q_moves, .int (0 : Int32)]) (rest := []) (wc' := (ws_Ar_fill cI cJ cZ q_moves n_moves v_moves_1)) (ws' := (ws_Au_shape cI cJ cZ q_this q_moves q_finals n_moves n_finals x1 x2 v_moves_1 v_finals)) C0 w (c_Ar_fill hcall) hp hp' lm_RX0_25 ms_Ar_fill ⟨rfl, rfl⟩ ⟨by decide, by decide⟩ ⟨Nat.zero_le _, Nat.zero_le _⟩ rfl hl rfl (Nat.le_of_ble_eq_true rfl) dX0_shape_15 (fun H locs w => ?_)
  refine lv_aload_n hx hb dX0_shape_18 rfl (lv_at hl 0 rfl) ?_
  refine r_get C0 w 0 rfl kf_Au 1 (by decide) lf_RX0_15 rfl dX0_shape_19 ?_
  refine lv_iconst (v := (0 : Int32)) hx hb dX0_shape_22 (by decide) ?_
  obtain ⟨v_finals_1, hcall, h⟩ := bd1_h h
  have hp := sp_of (ws := (ws_Au_shape cI cJ cZ q_this q_moves q_finals n_moves n_finals x1 x2 v_moves_1 v_finals)) (wc := (ws_Ar_fill cI cJ cZ q_finals n_finals v_finals)) [2] [0, 1] rfl rfl
  have hp' : Rp (pk (ws_Au_shape cI cJ cZ q_this q_moves q_finals n_moves n_finals x1 x2 v_moves_1 v_finals) [0, 1] ++ (ws_Ar_fill cI cJ cZ q_finals n_finals v_finals_1)) (ws_Au_shape cI cJ cZ q_this q_moves q_finals n_moves n_finals x1 x2 v_moves_1 v_finals_1) := ⟨[0, 1, 2], rfl, rfl⟩
  refine r_SV (As := [.ref q_finals, .int (0 : Int32)]) (rest := []) (wc' := (ws_Ar_fill cI cJ cZ q_finals n_finals v_finals_1)) (ws' := (ws_Au_shape cI cJ cZ q_this q_moves q_finals n_moves n_finals x1 x2 v_moves_1 v_finals_1)) C0 w (c_Ar_fill hcall) hp hp' lm_RX0_25 ms_Ar_fill ⟨rfl, rfl⟩ ⟨by decide, by decide⟩ ⟨Nat.zero_le _, Nat.zero_le _⟩ rfl hl rfl (Nat.le_of_ble_eq_true rfl) dX0_shape_23 (fun H locs w => ?_)
  cases h
  exact hQ _ _ _ _ dX0_shape_26 w
set_option maxRecDepth 100000 in
theorem w_Ws_lengthOf_L6 {p : Program} {l : Launch} {e : Env} {s : State} {m : MethodId} {args : Array Value} {below : List Frame} {meth : Method} {c : Code} {Q : State → Prop} {A : Nat → Prop} {D : va_G} {cI cJ cZ cO : ClassId} {x : Int32} (C0 : Cx p s m args c A D cI cJ cZ cO cX7_lengthOf 5 RX7) (hQ : RtI p l e rm_Ws_lengthOf s m args below meth c Q A D cX7_lengthOf .int (ws_Ws_lengthOf cI cJ cZ) x) {K : Int32 → Int64 → Option (Int32)} (hK : ∀ (x2 : Int32) (x3 : Int64) (H : Heap) (locs : List Loc) (ls : Array Slot), K x2 x3 = some x → Wd s A D (ws_Ws_lengthOf cI cJ cZ) H locs → lv_has ls 5 [(2, .int x2)] → W p l e rm_Ws_lengthOf s m args below meth c H locs 0 0 Q (F0 m 28 ls [])) {rec : Int32 → Int64 → Option (Int32)} (hrec : ∀ (x2 : Int32) (x3 : Int64) (H : Heap) (locs : List Loc) (ls : Array Slot), rec x2 x3 = some x → Wd s A D (ws_Ws_lengthOf cI cJ cZ) H locs → lv_has ls 5 [(2, .int x2), (3, .long x3)] → W p l e rm_Ws_lengthOf s m args below meth c H locs 0 0 Q (F0 m 6 ls [])) (x2 : Int32) (x3 : Int64) {H : Heap} {locs : List Loc} {ls : Array Slot} (h : f_Ws_lengthOf_L6 K rec x2 x3 = some x) (w : Wd s A D (ws_Ws_lengthOf cI cJ cZ) H locs) (hl : lv_has ls 5 [(2, .int x2), (3, .long x3)]) : W p l e rm_Ws_lengthOf s m args below meth c H locs 0 0 Q (F0 m 6 ls []) := by
  obtain ⟨hx, hb, hml, hown, hts, -, -⟩ := id C0
  unfold f_Ws_lengthOf_L6 at h
  refine lv_lload_n hx hb dX7_lengthOf_6 rfl (lv_at hl 1 rfl) ?_
  refine lv_lconst (v := (0 : Int64)) hx hb dX7_lengthOf_7 (by decide) ?_
  refine r_lc_le (tgt := 28) hx hb dX7_lengthOf_8 dX7_lengthOf_9 (by decide) (fun hc => ?_) (fun hc => ?_)
  · have h := nf_h hc h
    exact hK _ _ _ _ _ h w (lv_sub hl [0] rfl)
  · have h := if_h hc h
    refine lv_iload_n hx hb dX7_lengthOf_12 rfl (lv_at hl 0 rfl) ?_
    refine lv_bipush (v := (16 : Int32)) hx hb dX7_lengthOf_13 (by decide) ?_
    refine lv_icmp_ge (tgt := 28) hx hb dX7_lengthOf_15 (by decide) (fun hc => ?_) (fun hc => ?_)
    · have h := if_h hc h
      exact hK _ _ _ _ _ h w (lv_sub hl [0] rfl)
    · have h := nf_h hc h
      obtain ⟨x2_1, ex2_1⟩ : ∃ y : Int32, y = (x2 + 1) := ⟨_, rfl⟩
      have h := bnd_at ex2_1 h
      refine lv_iinc (v := x2_1) (lv' := [(2, .int x2_1), (3, .long x3)]) hx hb dX7_lengthOf_18 hl (k := 0) rfl (by rw [ex2_1]; rfl) (by decide) rfl (fun ls hl => ?_)
      refine lv_lload_n hx hb dX7_lengthOf_21 rfl (lv_at hl 1 rfl) ?_
      refine lv_iconst (v := (2 : Int32)) hx hb dX7_lengthOf_22 (by decide) ?_
      refine lv_lshr (v := (x3 >>> (2 : Int64))) hx hb dX7_lengthOf_23 (lsh_litr (by decide)) ?_
      refine lv_topl (fun x3_1 ex3_1 => ?_)
      have h := bnd_at ex3_1 h
      refine lv_lstore_n (lv' := [(3, .long x3_1), (2, .int x2_1)]) hx hb dX7_lengthOf_24 rfl hl (by decide) rfl (fun ls hl => ?_)
      refine lv_goto (tgt := 6) hx hb dX7_lengthOf_25 (by decide) ?_
      exact hrec _ _ _ _ _ h w (lv_sub hl [1, 0] rfl)
set_option maxRecDepth 100000 in
theorem wl_Ws_lengthOf_L6 {p : Program} {l : Launch} {e : Env} {s : State} {m : MethodId} {args : Array Value} {below : List Frame} {meth : Method} {c : Code} {Q : State → Prop} {A : Nat → Prop} {D : va_G} {cI cJ cZ cO : ClassId} {x : Int32} (C0 : Cx p s m args c A D cI cJ cZ cO cX7_lengthOf 5 RX7) (hQ : RtI p l e rm_Ws_lengthOf s m args below meth c Q A D cX7_lengthOf .int (ws_Ws_lengthOf cI cJ cZ) x) {K : Int32 → Int64 → Option (Int32)} (hK : ∀ (x2 : Int32) (x3 : Int64) (H : Heap) (locs : List Loc) (ls : Array Slot), K x2 x3 = some x → Wd s A D (ws_Ws_lengthOf cI cJ cZ) H locs → lv_has ls 5 [(2, .int x2)] → W p l e rm_Ws_lengthOf s m args below meth c H locs 0 0 Q (F0 m 28 ls [])) : ∀ (n : Nat) (x2 : Int32) (x3 : Int64) (H : Heap) (locs : List Loc) (ls : Array Slot), itr (fun _ _ => none) (f_Ws_lengthOf_L6 K) n x2 x3 = some x → Wd s A D (ws_Ws_lengthOf cI cJ cZ) H locs → lv_has ls 5 [(2, .int x2), (3, .long x3)] → W p l e rm_Ws_lengthOf s m args below meth c H locs 0 0 Q (F0 m 6 ls []) := by
  intro n
  induction n with
  | zero => intro _ _ _ _ _ h; cases (show none = some _ from h)
  | succ n ih => intro _ _ _ _ _ h w hl; exact w_Ws_lengthOf_L6 C0 hQ hK ih _ _ h w hl
set_option maxRecDepth 100000 in
theorem c_Ws_lengthOf {l : Launch} {D : va_G} {cI cJ cZ cO : ClassId} {x0 : Int64} {x : Int32} (h : f_Ws_lengthOf x0 = some x) : ctI l D cI cJ cZ cO yX7_lengthOf cX7_lengthOf 5 .int rm_Ws_lengthOf [.long x0] (ws_Ws_lengthOf cI cJ cZ) (ws_Ws_lengthOf cI cJ cZ) x := by
  refine ctI_of (by decide) (Nat.le_of_ble_eq_true rfl) ?_
  intro p e s m below meth c Q A ls C0 hQ w hl
  have hl : lv_has ls 5 [(0, .long x0)] := hl
  obtain ⟨hx, hb, hml, hown, hts, -, -⟩ := id C0
  unfold f_Ws_lengthOf at h
  skip
  refine lv_iconst (v := (0 : Int32)) hx hb dX7_lengthOf_0 (by decide) ?_
  refine lv_istore_n (lv' := [(2, .int (0 : Int32)), (0, .long x0)]) hx hb dX7_lengthOf_1 rfl hl (by decide) rfl (fun ls hl => ?_)
  refine lv_lload_n hx hb dX7_lengthOf_2 rfl (lv_at hl 1 rfl) ?_
  refine lv_iconst (v := (2 : Int32)) hx hb dX7_lengthOf_3 (by decide) ?_
  refine lv_lshr (v := (x0 >>> (2 : Int64))) hx hb dX7_lengthOf_4 (lsh_litr (by decide)) ?_
  refine lv_topl (fun x3 ex3 => ?_)
  have h := bnd_at ex3 h
  refine lv_lstore_n (lv' := [(3, .long x3), (2, .int (0 : Int32)), (0, .long x0)]) hx hb dX7_lengthOf_5 rfl hl (by decide) rfl (fun ls hl => ?_)
  refine wl_Ws_lengthOf_L6 C0 hQ (fun x2 x3_1 H locs ls h w hl => ?_) _ _ _ _ _ _ h w (lv_sub hl [1, 0] rfl)
  refine lv_iload_n hx hb dX7_lengthOf_28 rfl (lv_at hl 0 rfl) ?_
  cases h
  exact hQ _ _ _ _ dX7_lengthOf_29 rfl w
set_option maxRecDepth 100000 in
theorem c_Au_hasState {l : Launch} {D : va_G} {cI cJ cZ cO : ClassId} {q_this q_moves q_finals : Nat} {x1 : Int32} {v_size : Int32} {v_letters : Int32} {x : Int32} (h : f_Au_hasState x1 v_size = some x) : ctI l D cI cJ cZ cO yX0_hasState cX0_hasState 2 .boolean rm_Au_hasState [.ref q_this, .int x1] (ws_Au_hasState cI cJ cZ q_this q_moves q_finals v_size v_letters) (ws_Au_hasState cI cJ cZ q_this q_moves q_finals v_size v_letters) x := by
  refine ctI_of (by decide) (Nat.le_of_ble_eq_true rfl) ?_
  intro p e s m below meth c Q A ls C0 hQ w hl
  have hl : lv_has ls 2 [(0, .ref q_this), (1, .int x1)] := hl
  obtain ⟨hx, hb, hml, hown, hts, -, -⟩ := id C0
  unfold f_Au_hasState at h
  skip
  refine lv_iload_n hx hb dX0_hasState_0 rfl (lv_at hl 1 rfl) ?_
  refine lv_if_lt (tgt := 16) hx hb dX0_hasState_1 (by decide) (fun hc => ?_) (fun hc => ?_)
  · have h := if_h hc h
    refine lv_iconst (v := (0 : Int32)) hx hb dX0_hasState_16 (by decide) ?_
    cases h
    exact hQ _ _ _ _ dX0_hasState_17 rfl w
  · have h := nf_h hc h
    refine lv_iload_n hx hb dX0_hasState_4 rfl (lv_at hl 1 rfl) ?_
    refine lv_aload_n hx hb dX0_hasState_5 rfl (lv_at hl 0 rfl) ?_
    refine r_get C0 w 0 rfl kf_Au 2 (by decide) lf_RX0_18 rfl dX0_hasState_6 ?_
    refine lv_icmp_ge (tgt := 16) hx hb dX0_hasState_9 (by decide) (fun hc => ?_) (fun hc => ?_)
    · have h := if_h hc h
      refine lv_iconst (v := (0 : Int32)) hx hb dX0_hasState_16 (by decide) ?_
      cases h
      exact hQ _ _ _ _ dX0_hasState_17 rfl w
    · have h := nf_h hc h
      refine lv_iconst (v := (1 : Int32)) hx hb dX0_hasState_12 (by decide) ?_
      refine lv_goto (tgt := 17) hx hb dX0_hasState_13 (by decide) ?_
      cases h
      exact hQ _ _ _ _ dX0_hasState_17 rfl w
set_option maxRecDepth 100000 in
theorem c_Au_next {l : Launch} {D : va_G} {cI cJ cZ cO : ClassId} {q_this q_moves q_finals : Nat} {n_moves : Nat} {x1 : Int32} {x2 : Int32} {v_size : Int32} {v_letters : Int32} {v_moves : (Nat → Int32)} {x : Int32} (h : f_Au_next n_moves x1 x2 v_moves = some x) : ctI l D cI cJ cZ cO yX0_next cX0_next 3 .int rm_Au_next [.ref q_this, .int x1, .int x2] (ws_Au_next cI cJ cZ q_this q_moves q_finals n_moves v_size v_letters v_moves) (ws_Au_next cI cJ cZ q_this q_moves q_finals n_moves v_size v_letters v_moves) x := by
  refine ctI_of (by decide) (Nat.le_of_ble_eq_true rfl) ?_
  intro p e s m below meth c Q A ls C0 hQ w hl
  have hl : lv_has ls 3 [(0, .ref q_this), (1, .int x1), (2, .int x2)] := hl
  obtain ⟨hx, hb, hml, hown, hts, -, -⟩ := id C0
  unfold f_Au_next at h
  skip
  refine lv_aload_n hx hb dX0_next_0 rfl (lv_at hl 0 rfl) ?_
  refine r_get C0 w 0 rfl kf_Au 0 (by decide) lf_RX0_9 rfl dX0_next_1 ?_
  refine lv_iload_n hx hb dX0_next_4 rfl (lv_at hl 1 rfl) ?_
  refine lv_iconst (v := (3 : Int32)) hx hb dX0_next_5 (by decide) ?_
  refine lv_imul hx hb dX0_next_6 ?_
  refine lv_iload_n hx hb dX0_next_7 rfl (lv_at hl 2 rfl) ?_
  refine lv_iadd hx hb dX0_next_8 ?_
  obtain ⟨hi, h⟩ := gIn_h h
  refine r_iald C0 w 1 rfl rfl hi dX0_next_9 ?_
  cases h
  exact hQ _ _ _ _ dX0_next_10 rfl w
set_option maxRecDepth 100000 in
theorem c_Ws_join {l : Launch} {D : va_G} {cI cJ cZ cO : ClassId} {x0 : Int64} {x2 : Int64} {x : Int64} (h : f_Ws_join x0 x2 = some x) : ctJ l D cI cJ cZ cO yX7_join cX7_join 5 rm_Ws_join [.long x0, .long x2] (ws_Ws_join cI cJ cZ) (ws_Ws_join cI cJ cZ) x := by
  refine ctJ_of (by decide) (Nat.le_of_ble_eq_true rfl) ?_
  intro p e s m below meth c Q A ls C0 hQ w hl
  have hl : lv_has ls 5 [(0, .long x0), (2, .long x2)] := hl
  obtain ⟨hx, hb, hml, hown, hts, -, -⟩ := id C0
  unfold f_Ws_join at h
  skip
  refine lv_iconst (v := (2 : Int32)) hx hb dX7_join_0 (by decide) ?_
  refine lv_lload_n hx hb dX7_join_1 rfl (lv_at hl 0 rfl) ?_
  obtain ⟨r, hcall, h⟩ := bd1_h h
  obtain ⟨wr, hp, hp'⟩ := rd_of (ws := (ws_Ws_join cI cJ cZ)) (wc := (ws_Ws_lengthOf cI cJ cZ)) [] rfl rfl
  refine r_SI (r := r) (As := [.long x0]) (rest := [.int (2 : Int32)]) (wc' := (ws_Ws_lengthOf cI cJ cZ)) (ws' := (ws_Ws_join cI cJ cZ)) C0 w (c_Ws_lengthOf hcall) hp hp' lm_RX7_11 ms_Ws_lengthOf ⟨rfl, rfl⟩ ⟨by decide, by decide⟩ ⟨Nat.zero_le _, Nat.zero_le _⟩ rfl hl rfl (Nat.le_of_ble_eq_true rfl) dX7_join_2 (fun H locs w => ?_)
  refine lv_imul hx hb dX7_join_5 ?_
  refine lv_topi (fun x4 ex4 => ?_)
  have h := bnd_at ex4 h
  refine lv_istore (lv' := [(4, .int x4), (0, .long x0), (2, .long x2)]) hx hb dX7_join_6 hl (by decide) rfl (fun ls hl => ?_)
  refine lv_lload_n hx hb dX7_join_8 rfl (lv_at hl 1 rfl) ?_
  refine lv_lconst (v := (1 : Int64)) hx hb dX7_join_9 (by decide) ?_
  refine lv_iload hx hb dX7_join_10 (lv_at hl 0 rfl) ?_
  refine lv_lshl (v := ((1 : Int64) <<< (x4.toInt64 &&& 63))) hx hb dX7_join_12 rfl ?_
  refine lv_lxor hx hb dX7_join_13 ?_
  refine lv_lload_n hx hb dX7_join_14 rfl (lv_at hl 2 rfl) ?_
  refine lv_iload hx hb dX7_join_15 (lv_at hl 0 rfl) ?_
  refine lv_lshl (v := (x2 <<< (x4.toInt64 &&& 63))) hx hb dX7_join_17 rfl ?_
  refine lv_lor hx hb dX7_join_18 ?_
  cases h
  exact hQ _ _ _ _ dX7_join_19 w
set_option maxRecDepth 100000 in
theorem w_Au_follow_L9 {p : Program} {l : Launch} {e : Env} {s : State} {m : MethodId} {args : Array Value} {below : List Frame} {meth : Method} {c : Code} {Q : State → Prop} {A : Nat → Prop} {D : va_G} {cI cJ cZ cO : ClassId} {q_this q_moves q_finals : Nat} {n_moves : Nat} {v_size : Int32} {v_letters : Int32} {v_moves : (Nat → Int32)} {x3 : Int32} {x : Int32} (C0 : Cx p s m args c A D cI cJ cZ cO cX0_follow 8 RX0) (hQ : RtI p l e rm_Au_follow s m args below meth c Q A D cX0_follow .int (ws_Au_follow cI cJ cZ q_this q_moves q_finals n_moves v_size v_letters v_moves) x) {K : Int32 → Int64 → Int32 → Option (Int32)} (hK : ∀ (x4 : Int32) (x5 : Int64) (x7 : Int32) (H : Heap) (locs : List Loc) (ls : Array Slot), K x4 x5 x7 = some x → Wd s A D (ws_Au_follow cI cJ cZ q_this q_moves q_finals n_moves v_size v_letters v_moves) H locs → lv_has ls 8 [(4, .int x4)] → W p l e rm_Au_follow s m args below meth c H locs 0 0 Q (F0 m 46 ls [])) {rec : Int32 → Int64 → Int32 → Option (Int32)} (hrec : ∀ (x4 : Int32) (x5 : Int64) (x7 : Int32) (H : Heap) (locs : List Loc) (ls : Array Slot), rec x4 x5 x7 = some x → Wd s A D (ws_Au_follow cI cJ cZ q_this q_moves q_finals n_moves v_size v_letters v_moves) H locs → lv_has ls 8 [(0, .ref q_this), (3, .int x3), (4, .int x4), (5, .long x5), (7, .int x7)] → W p l e rm_Au_follow s m args below meth c H locs 0 0 Q (F0 m 9 ls [])) (x4 : Int32) (x5 : Int64) (x7 : Int32) {H : Heap} {locs : List Loc} {ls : Array Slot} (h : f_Au_follow_L9 n_moves v_moves x3 K rec x4 x5 x7 = some x) (w : Wd s A D (ws_Au_follow cI cJ cZ q_this q_moves q_finals n_moves v_size v_letters v_moves) H locs) (hl : lv_has ls 8 [(0, .ref q_this), (3, .int x3), (4, .int x4), (5, .long x5), (7, .int x7)]) : W p l e rm_Au_follow s m args below meth c H locs 0 0 Q (F0 m 9 ls []) := by
  obtain ⟨hx, hb, hml, hown, hts, -, -⟩ := id C0
  unfold f_Au_follow_L9 at h
  refine lv_iload hx hb dX0_follow_9 (lv_at hl 4 rfl) ?_
  refine lv_iload_n hx hb dX0_follow_11 rfl (lv_at hl 1 rfl) ?_
  refine lv_icmp_ge (tgt := 46) hx hb dX0_follow_12 (by decide) (fun hc => ?_) (fun hc => ?_)
  · have h := if_h hc h
    exact hK _ _ _ _ _ _ h w (lv_sub hl [2] rfl)
  · have h := nf_h hc h
    refine lv_aload_n hx hb dX0_follow_15 rfl (lv_at hl 0 rfl) ?_
    refine r_get C0 w 0 rfl kf_Au 0 (by decide) lf_RX0_9 rfl dX0_follow_16 ?_
    refine lv_iload hx hb dX0_follow_19 (lv_at hl 2 rfl) ?_
    refine lv_iconst (v := (3 : Int32)) hx hb dX0_follow_21 (by decide) ?_
    refine lv_imul hx hb dX0_follow_22 ?_
    refine lv_lload hx hb dX0_follow_23 (lv_at hl 3 rfl) ?_
    refine lv_ldc2 (v := (3 : Int64)) hx hb hown (hts _ ll_RX0_39) dX0_follow_25 ?_
    refine lv_land hx hb dX0_follow_28 ?_
    refine lv_l2i hx hb dX0_follow_29 rfl ?_
    refine lv_iadd hx hb dX0_follow_30 ?_
    obtain ⟨hi, h⟩ := gIn_h h
    refine r_iald C0 w 1 rfl rfl hi dX0_follow_31 ?_
    refine lv_topi (fun x4_1 ex4_1 => ?_)
    have h := bnd_at ex4_1 h
    refine lv_istore (lv' := [(4, .int x4_1), (0, .ref q_this), (3, .int x3), (5, .long x5), (7, .int x7)]) hx hb dX0_follow_32 hl (by decide) rfl (fun ls hl => ?_)
    refine lv_lload hx hb dX0_follow_34 (lv_at hl 3 rfl) ?_
    refine lv_iconst (v := (2 : Int32)) hx hb dX0_follow_36 (by decide) ?_
    refine lv_lshr (v := (x5 >>> (2 : Int64))) hx hb dX0_follow_37 (lsh_litr (by decide)) ?_
    refine lv_topl (fun x5_1 ex5_1 => ?_)
    have h := bnd_at ex5_1 h
    refine lv_lstore (lv' := [(5, .long x5_1), (4, .int x4_1), (0, .ref q_this), (3, .int x3), (7, .int x7)]) hx hb dX0_follow_38 hl (by decide) rfl (fun ls hl => ?_)
    obtain ⟨x7_1, ex7_1⟩ : ∃ y : Int32, y = (x7 + 1) := ⟨_, rfl⟩
    have h := bnd_at ex7_1 h
    refine lv_iinc (v := x7_1) (lv' := [(7, .int x7_1), (5, .long x5_1), (4, .int x4_1), (0, .ref q_this), (3, .int x3)]) hx hb dX0_follow_40 hl (k := 4) rfl (by rw [ex7_1]; rfl) (by decide) rfl (fun ls hl => ?_)
    refine lv_goto (tgt := 9) hx hb dX0_follow_43 (by decide) ?_
    exact hrec _ _ _ _ _ _ h w (lv_sub hl [3, 4, 2, 1, 0] rfl)
set_option maxRecDepth 100000 in
theorem wl_Au_follow_L9 {p : Program} {l : Launch} {e : Env} {s : State} {m : MethodId} {args : Array Value} {below : List Frame} {meth : Method} {c : Code} {Q : State → Prop} {A : Nat → Prop} {D : va_G} {cI cJ cZ cO : ClassId} {q_this q_moves q_finals : Nat} {n_moves : Nat} {v_size : Int32} {v_letters : Int32} {v_moves : (Nat → Int32)} {x3 : Int32} {x : Int32} (C0 : Cx p s m args c A D cI cJ cZ cO cX0_follow 8 RX0) (hQ : RtI p l e rm_Au_follow s m args below meth c Q A D cX0_follow .int (ws_Au_follow cI cJ cZ q_this q_moves q_finals n_moves v_size v_letters v_moves) x) {K : Int32 → Int64 → Int32 → Option (Int32)} (hK : ∀ (x4 : Int32) (x5 : Int64) (x7 : Int32) (H : Heap) (locs : List Loc) (ls : Array Slot), K x4 x5 x7 = some x → Wd s A D (ws_Au_follow cI cJ cZ q_this q_moves q_finals n_moves v_size v_letters v_moves) H locs → lv_has ls 8 [(4, .int x4)] → W p l e rm_Au_follow s m args below meth c H locs 0 0 Q (F0 m 46 ls [])) : ∀ (n : Nat) (x4 : Int32) (x5 : Int64) (x7 : Int32) (H : Heap) (locs : List Loc) (ls : Array Slot), itr (fun _ _ _ => none) (f_Au_follow_L9 n_moves v_moves x3 K) n x4 x5 x7 = some x → Wd s A D (ws_Au_follow cI cJ cZ q_this q_moves q_finals n_moves v_size v_letters v_moves) H locs → lv_has ls 8 [(0, .ref q_this), (3, .int x3), (4, .int x4), (5, .long x5), (7, .int x7)] → W p l e rm_Au_follow s m args below meth c H locs 0 0 Q (F0 m 9 ls []) := by
  intro n
  induction n with
  | zero => intro _ _ _ _ _ _ h; cases (show none = some _ from h)
  | succ n ih => intro _ _ _ _ _ _ h w hl; exact w_Au_follow_L9 C0 hQ hK ih _ _ _ h w hl
set_option maxRecDepth 100000 in
theorem c_Au_follow {l : Launch} {D : va_G} {cI cJ cZ cO : ClassId} {q_this q_moves q_finals : Nat} {n_moves : Nat} {x1 : Int64} {x3 : Int32} {v_size : Int32} {v_letters : Int32} {v_moves : (Nat → Int32)} {x : Int32} (h : f_Au_follow n_moves x1 x3 v_moves = some x) : ctI l D cI cJ cZ cO yX0_follow cX0_follow 8 .int rm_Au_follow [.ref q_this, .long x1, .int x3] (ws_Au_follow cI cJ cZ q_this q_moves q_finals n_moves v_size v_letters v_moves) (ws_Au_follow cI cJ cZ q_this q_moves q_finals n_moves v_size v_letters v_moves) x := by
  refine ctI_of (by decide) (Nat.le_of_ble_eq_true rfl) ?_
  intro p e s m below meth c Q A ls C0 hQ w hl
  have hl : lv_has ls 8 [(0, .ref q_this), (1, .long x1), (3, .int x3)] := hl
  obtain ⟨hx, hb, hml, hown, hts, -, -⟩ := id C0
  unfold f_Au_follow at h
  skip
  refine lv_iconst (v := (0 : Int32)) hx hb dX0_follow_0 (by decide) ?_
  refine lv_istore (lv' := [(4, .int (0 : Int32)), (0, .ref q_this), (1, .long x1), (3, .int x3)]) hx hb dX0_follow_1 hl (by decide) rfl (fun ls hl => ?_)
  refine lv_lload_n hx hb dX0_follow_3 rfl (lv_at hl 2 rfl) ?_
  refine lv_lstore (lv' := [(5, .long x1), (4, .int (0 : Int32)), (0, .ref q_this), (1, .long x1), (3, .int x3)]) hx hb dX0_follow_4 hl (by decide) rfl (fun ls hl => ?_)
  refine lv_iconst (v := (0 : Int32)) hx hb dX0_follow_6 (by decide) ?_
  refine lv_istore (lv' := [(7, .int (0 : Int32)), (5, .long x1), (4, .int (0 : Int32)), (0, .ref q_this), (1, .long x1), (3, .int x3)]) hx hb dX0_follow_7 hl (by decide) rfl (fun ls hl => ?_)
  refine wl_Au_follow_L9 C0 hQ (fun x4 x5 x7 H locs ls h w hl => ?_) _ _ _ _ _ _ _ h w (lv_sub hl [3, 5, 2, 1, 0] rfl)
  refine lv_iload hx hb dX0_follow_46 (lv_at hl 0 rfl) ?_
  cases h
  exact hQ _ _ _ _ dX0_follow_48 rfl w
set_option maxRecDepth 100000 in
theorem c_Au_verdict {l : Launch} {D : va_G} {cI cJ cZ cO : ClassId} {q_this q_moves q_finals : Nat} {n_moves n_finals : Nat} {x1 : Int64} {v_size : Int32} {v_letters : Int32} {v_moves : (Nat → Int32)} {v_finals : (Nat → Int32)} {x : Int32} (h : f_Au_verdict n_moves n_finals x1 v_moves v_finals = some x) : ctI l D cI cJ cZ cO yX0_verdict cX0_verdict 3 .int rm_Au_verdict [.ref q_this, .long x1] (ws_Au_verdict cI cJ cZ q_this q_moves q_finals n_moves n_finals v_size v_letters v_moves v_finals) (ws_Au_verdict cI cJ cZ q_this q_moves q_finals n_moves n_finals v_size v_letters v_moves v_finals) x := by
  refine ctI_of (by decide) (Nat.le_of_ble_eq_true rfl) ?_
  intro p e s m below meth c Q A ls C0 hQ w hl
  have hl : lv_has ls 3 [(0, .ref q_this), (1, .long x1)] := hl
  obtain ⟨hx, hb, hml, hown, hts, -, -⟩ := id C0
  unfold f_Au_verdict at h
  skip
  refine lv_aload_n hx hb dX0_verdict_0 rfl (lv_at hl 0 rfl) ?_
  refine r_get C0 w 0 rfl kf_Au 1 (by decide) lf_RX0_15 rfl dX0_verdict_1 ?_
  refine lv_aload_n hx hb dX0_verdict_4 rfl (lv_at hl 0 rfl) ?_
  refine lv_lload_n hx hb dX0_verdict_5 rfl (lv_at hl 1 rfl) ?_
  refine lv_lload_n hx hb dX0_verdict_6 rfl (lv_at hl 1 rfl) ?_
  obtain ⟨r, hcall, h⟩ := bd1_h h
  obtain ⟨wr, hp, hp'⟩ := rd_of (ws := (ws_Au_verdict cI cJ cZ q_this q_moves q_finals n_moves n_finals v_size v_letters v_moves v_finals)) (wc := (ws_Ws_lengthOf cI cJ cZ)) [] rfl rfl
  refine r_SI (r := r) (As := [.long x1]) (rest := [.long x1, .ref q_this, .ref q_finals]) (wc' := (ws_Ws_lengthOf cI cJ cZ)) (ws' := (ws_Au_verdict cI cJ cZ q_this q_moves q_finals n_moves n_finals v_size v_letters v_moves v_finals)) C0 w (c_Ws_lengthOf hcall) hp hp' lm_RX0_41 ms_Ws_lengthOf ⟨rfl, rfl⟩ ⟨by decide, by decide⟩ ⟨Nat.zero_le _, Nat.zero_le _⟩ rfl hl rfl (Nat.le_of_ble_eq_true rfl) dX0_verdict_7 (fun H locs w => ?_)
  obtain ⟨r_1, hcall, h⟩ := bd1_h h
  obtain ⟨wr, hp, hp'⟩ := rd_of (ws := (ws_Au_verdict cI cJ cZ q_this q_moves q_finals n_moves n_finals v_size v_letters v_moves v_finals)) (wc := (ws_Au_follow cI cJ cZ q_this q_moves q_finals n_moves v_size v_letters v_moves)) [0, 1] rfl rfl
  refine r_VI (r := r_1) (As := [.long x1, .int r]) (rest := [.ref q_finals]) (wc' := (ws_Au_follow cI cJ cZ q_this q_moves q_finals n_moves v_size v_letters v_moves)) (ws' := (ws_Au_verdict cI cJ cZ q_this q_moves q_finals n_moves n_finals v_size v_letters v_moves v_finals)) C0 w (c_Au_follow hcall) hp hp' lm_RX0_47 mv_Au_follow ⟨rfl, rfl⟩ ⟨by decide, by decide⟩ ⟨Nat.zero_le _, Nat.zero_le _⟩ (q0 := 0) rfl rfl rfl rfl hl rfl (Nat.le_of_ble_eq_true rfl) dX0_verdict_10 (fun H locs w => ?_)
  obtain ⟨hi, h⟩ := gIn_h h
  refine r_iald C0 w 2 rfl rfl hi dX0_verdict_13 ?_
  cases h
  exact hQ _ _ _ _ dX0_verdict_14 rfl w

theorem dX10_adds_0 : decode cX10_adds 0 = .ok (.iconst 0, 1) := by decide +kernel
theorem dX10_adds_1 : decode cX10_adds 1 = .ok (.istore_n 2, 1) := by decide +kernel
theorem dX10_adds_2 : decode cX10_adds 2 = .ok (.iload_n 2, 1) := by decide +kernel
theorem dX10_adds_3 : decode cX10_adds 3 = .ok (.aload_n 0, 1) := by decide +kernel
theorem dX10_adds_4 : decode cX10_adds 4 = .ok (.getfield 149, 3) := by decide +kernel
theorem dX10_adds_7 : decode cX10_adds 7 = .ok (.if_icmp .ge 90, 3) := by decide +kernel
theorem dX10_adds_10 : decode cX10_adds 10 = .ok (.iload_n 1, 1) := by decide +kernel
theorem dX10_adds_11 : decode cX10_adds 11 = .ok (.ifCond .eq 39, 3) := by decide +kernel
theorem dX10_adds_14 : decode cX10_adds 14 = .ok (.aload_n 0, 1) := by decide +kernel
theorem dX10_adds_15 : decode cX10_adds 15 = .ok (.getfield 16, 3) := by decide +kernel
theorem dX10_adds_18 : decode cX10_adds 18 = .ok (.sipush 344, 3) := by decide +kernel
theorem dX10_adds_21 : decode cX10_adds 21 = .ok (.aload_n 0, 1) := by decide +kernel
theorem dX10_adds_22 : decode cX10_adds 22 = .ok (.getfield 7, 3) := by decide +kernel
theorem dX10_adds_25 : decode cX10_adds 25 = .ok (.bipush 39, 2) := by decide +kernel
theorem dX10_adds_27 : decode cX10_adds 27 = .ok (.iaload, 1) := by decide +kernel
theorem dX10_adds_28 : decode cX10_adds 28 = .ok (.iadd, 1) := by decide +kernel
theorem dX10_adds_29 : decode cX10_adds 29 = .ok (.aload_n 0, 1) := by decide +kernel
theorem dX10_adds_30 : decode cX10_adds 30 = .ok (.getfield 51, 3) := by decide +kernel
theorem dX10_adds_33 : decode cX10_adds 33 = .ok (.iload_n 2, 1) := by decide +kernel
theorem dX10_adds_34 : decode cX10_adds 34 = .ok (.laload, 1) := by decide +kernel
theorem dX10_adds_35 : decode cX10_adds 35 = .ok (.lastore, 1) := by decide +kernel
theorem dX10_adds_36 : decode cX10_adds 36 = .ok (.aload_n 0, 1) := by decide +kernel
theorem dX10_adds_37 : decode cX10_adds 37 = .ok (.getfield 7, 3) := by decide +kernel
theorem dX10_adds_40 : decode cX10_adds 40 = .ok (.bipush 39, 2) := by decide +kernel
theorem dX10_adds_42 : decode cX10_adds 42 = .ok (.dup2, 1) := by decide +kernel
theorem dX10_adds_43 : decode cX10_adds 43 = .ok (.iaload, 1) := by decide +kernel
theorem dX10_adds_44 : decode cX10_adds 44 = .ok (.iconst 1, 1) := by decide +kernel
theorem dX10_adds_45 : decode cX10_adds 45 = .ok (.iadd, 1) := by decide +kernel
theorem dX10_adds_46 : decode cX10_adds 46 = .ok (.iastore, 1) := by decide +kernel
theorem dX10_adds_47 : decode cX10_adds 47 = .ok (.goto 36, 3) := by decide +kernel
theorem dX10_adds_50 : decode cX10_adds 50 = .ok (.aload_n 0, 1) := by decide +kernel
theorem dX10_adds_51 : decode cX10_adds 51 = .ok (.getfield 16, 3) := by decide +kernel
theorem dX10_adds_54 : decode cX10_adds 54 = .ok (.sipush 304, 3) := by decide +kernel
theorem dX10_adds_57 : decode cX10_adds 57 = .ok (.aload_n 0, 1) := by decide +kernel
theorem dX10_adds_58 : decode cX10_adds 58 = .ok (.getfield 7, 3) := by decide +kernel
theorem dX10_adds_61 : decode cX10_adds 61 = .ok (.bipush 38, 2) := by decide +kernel
theorem dX10_adds_63 : decode cX10_adds 63 = .ok (.iaload, 1) := by decide +kernel
theorem dX10_adds_64 : decode cX10_adds 64 = .ok (.iadd, 1) := by decide +kernel
theorem dX10_adds_65 : decode cX10_adds 65 = .ok (.aload_n 0, 1) := by decide +kernel
theorem dX10_adds_66 : decode cX10_adds 66 = .ok (.getfield 51, 3) := by decide +kernel
theorem dX10_adds_69 : decode cX10_adds 69 = .ok (.iload_n 2, 1) := by decide +kernel
theorem dX10_adds_70 : decode cX10_adds 70 = .ok (.laload, 1) := by decide +kernel
theorem dX10_adds_71 : decode cX10_adds 71 = .ok (.lastore, 1) := by decide +kernel
theorem dX10_adds_72 : decode cX10_adds 72 = .ok (.aload_n 0, 1) := by decide +kernel
theorem dX10_adds_73 : decode cX10_adds 73 = .ok (.getfield 7, 3) := by decide +kernel
theorem dX10_adds_76 : decode cX10_adds 76 = .ok (.bipush 38, 2) := by decide +kernel
theorem dX10_adds_78 : decode cX10_adds 78 = .ok (.dup2, 1) := by decide +kernel
theorem dX10_adds_79 : decode cX10_adds 79 = .ok (.iaload, 1) := by decide +kernel
theorem dX10_adds_80 : decode cX10_adds 80 = .ok (.iconst 1, 1) := by decide +kernel
theorem dX10_adds_81 : decode cX10_adds 81 = .ok (.iadd, 1) := by decide +kernel
theorem dX10_adds_82 : decode cX10_adds 82 = .ok (.iastore, 1) := by decide +kernel
theorem dX10_adds_83 : decode cX10_adds 83 = .ok (.aload_n 0, 1) := by decide +kernel
theorem dX10_adds_84 : decode cX10_adds 84 = .ok (.getfield 7, 3) := by decide +kernel
theorem dX10_adds_87 : decode cX10_adds 87 = .ok (.bipush 41, 2) := by decide +kernel
theorem dX10_adds_89 : decode cX10_adds 89 = .ok (.iconst 0, 1) := by decide +kernel
theorem dX10_adds_90 : decode cX10_adds 90 = .ok (.iastore, 1) := by decide +kernel
theorem dX10_adds_91 : decode cX10_adds 91 = .ok (.iinc 2 1, 3) := by decide +kernel
theorem dX10_adds_94 : decode cX10_adds 94 = .ok (.goto (-92), 3) := by decide +kernel
theorem dX10_adds_97 : decode cX10_adds 97 = .ok (.return_, 1) := by decide +kernel
set_option maxRecDepth 100000 in
theorem w_Mo_adds_J83 {p : Program} {l : Launch} {e : Env} {s : State} {m : MethodId} {args : Array Value} {below : List Frame} {meth : Method} {c : Code} {Q : State → Prop} {A : Nat → Prop} {D : va_G} {cI cJ cZ cO : ClassId} {q_this q_m q_saved q_w q_savedWords q_isSaved q_text q_far q_queue q_parent q_by q_seen q_path q_row q_more q_stateOf : Nat} {v_textLength : Int32} {v_steps : Int32} {v_missing : Int64} {v_mores : Int32} {v_hash : Int64} {v_m : (Nat → Int32)} {v_w : (Nat → Int64)} {v_more : (Nat → Int64)} {x : (Nat → Int32) × (Nat → Int64)} {x1 : Int32} {x2 : Int32} (C0 : Cx p s m args c A D cI cJ cZ cO cX10_adds 3 RX10) (hQ : RtV p l e rm_Mo_adds s m args below meth c Q A D cX10_adds (ws_Mo_adds cI cJ cZ q_this q_m q_saved q_w q_savedWords q_isSaved q_text q_far q_queue q_parent q_by q_seen q_path q_row q_more q_stateOf v_textLength v_steps v_missing v_mores v_hash x.1 x.2 v_more)) {K : Int32 → (Nat → Int32) → (Nat → Int64) → Option ((Nat → Int32) × (Nat → Int64))} (hK : ∀ (y2 : Int32) (u_m : (Nat → Int32)) (u_w : (Nat → Int64)) (H : Heap) (locs : List Loc) (ls : Array Slot), K y2 u_m u_w = some x → Wd s A D (ws_Mo_adds cI cJ cZ q_this q_m q_saved q_w q_savedWords q_isSaved q_text q_far q_queue q_parent q_by q_seen q_path q_row q_more q_stateOf v_textLength v_steps v_missing v_mores v_hash u_m u_w v_more) H locs → lv_has ls 3 [] → W p l e rm_Mo_adds s m args below meth c H locs 0 0 Q (F0 m 97 ls [])) {rec : Int32 → (Nat → Int32) → (Nat → Int64) → Option ((Nat → Int32) × (Nat → Int64))} (hrec : ∀ (y2 : Int32) (u_m : (Nat → Int32)) (u_w : (Nat → Int64)) (H : Heap) (locs : List Loc) (ls : Array Slot), rec y2 u_m u_w = some x → Wd s A D (ws_Mo_adds cI cJ cZ q_this q_m q_saved q_w q_savedWords q_isSaved q_text q_far q_queue q_parent q_by q_seen q_path q_row q_more q_stateOf v_textLength v_steps v_missing v_mores v_hash u_m u_w v_more) H locs → lv_has ls 3 [(0, .ref q_this), (1, .int x1), (2, .int y2)] → W p l e rm_Mo_adds s m args below meth c H locs 0 0 Q (F0 m 2 ls [])) {H : Heap} {locs : List Loc} {ls : Array Slot} (h : f_Mo_adds_J83 rec x2 v_m v_w = some x) (w : Wd s A D (ws_Mo_adds cI cJ cZ q_this q_m q_saved q_w q_savedWords q_isSaved q_text q_far q_queue q_parent q_by q_seen q_path q_row q_more q_stateOf v_textLength v_steps v_missing v_mores v_hash v_m v_w v_more) H locs) (hl : lv_has ls 3 [(0, .ref q_this), (1, .int x1), (2, .int x2)]) : W p l e rm_Mo_adds s m args below meth c H locs 0 0 Q (F0 m 83 ls []) := by
  obtain ⟨hx, hb, hml, hown, hts, -, -⟩ := id C0
  unfold f_Mo_adds_J83 at h
  refine lv_aload_n hx hb dX10_adds_83 rfl (lv_at hl 0 rfl) ?_
  refine r_get C0 w 0 rfl kf_Mo 0 (by decide) lf_RX10_7 rfl dX10_adds_84 ?_
  refine lv_bipush (v := (41 : Int32)) hx hb dX10_adds_87 (by decide) ?_
  refine lv_iconst (v := (0 : Int32)) hx hb dX10_adds_89 (by decide) ?_
  obtain ⟨v_m_1, ev_m_1⟩ : ∃ y, y = (upd v_m 41 (0 : Int32)) := ⟨_, rfl⟩
  have h := bnd_at ev_m_1 h
  refine r_iast C0 w 1 rfl (f' := v_m_1) (k := 41) (by decide) (inl (by decide)) ev_m_1 dX10_adds_90 (ws' := (ws_Mo_adds cI cJ cZ q_this q_m q_saved q_w q_savedWords q_isSaved q_text q_far q_queue q_parent q_by q_seen q_path q_row q_more q_stateOf v_textLength v_steps v_missing v_mores v_hash v_m_1 v_w v_more)) rfl (fun H locs w => ?_)
  obtain ⟨x2_1, ex2_1⟩ : ∃ y : Int32, y = (x2 + 1) := ⟨_, rfl⟩
  have h := bnd_at ex2_1 h
  refine lv_iinc (v := x2_1) (lv' := [(2, .int x2_1), (0, .ref q_this), (1, .int x1)]) hx hb dX10_adds_91 hl (k := 2) rfl (by rw [ex2_1]; rfl) (by decide) rfl (fun ls hl => ?_)
  refine lv_goto (tgt := 2) hx hb dX10_adds_94 (by decide) ?_
  exact hrec _ _ _ _ _ _ h w (lv_sub hl [1, 2, 0] rfl)
set_option maxRecDepth 100000 in
theorem w_Mo_adds_L2 {p : Program} {l : Launch} {e : Env} {s : State} {m : MethodId} {args : Array Value} {below : List Frame} {meth : Method} {c : Code} {Q : State → Prop} {A : Nat → Prop} {D : va_G} {cI cJ cZ cO : ClassId} {q_this q_m q_saved q_w q_savedWords q_isSaved q_text q_far q_queue q_parent q_by q_seen q_path q_row q_more q_stateOf : Nat} {v_textLength : Int32} {v_steps : Int32} {v_missing : Int64} {v_mores : Int32} {v_hash : Int64} {v_more : (Nat → Int64)} {x1 : Int32} {x : (Nat → Int32) × (Nat → Int64)} (C0 : Cx p s m args c A D cI cJ cZ cO cX10_adds 3 RX10) (hQ : RtV p l e rm_Mo_adds s m args below meth c Q A D cX10_adds (ws_Mo_adds cI cJ cZ q_this q_m q_saved q_w q_savedWords q_isSaved q_text q_far q_queue q_parent q_by q_seen q_path q_row q_more q_stateOf v_textLength v_steps v_missing v_mores v_hash x.1 x.2 v_more)) {K : Int32 → (Nat → Int32) → (Nat → Int64) → Option ((Nat → Int32) × (Nat → Int64))} (hK : ∀ (x2 : Int32) (v_m : (Nat → Int32)) (v_w : (Nat → Int64)) (H : Heap) (locs : List Loc) (ls : Array Slot), K x2 v_m v_w = some x → Wd s A D (ws_Mo_adds cI cJ cZ q_this q_m q_saved q_w q_savedWords q_isSaved q_text q_far q_queue q_parent q_by q_seen q_path q_row q_more q_stateOf v_textLength v_steps v_missing v_mores v_hash v_m v_w v_more) H locs → lv_has ls 3 [] → W p l e rm_Mo_adds s m args below meth c H locs 0 0 Q (F0 m 97 ls [])) {rec : Int32 → (Nat → Int32) → (Nat → Int64) → Option ((Nat → Int32) × (Nat → Int64))} (hrec : ∀ (x2 : Int32) (v_m : (Nat → Int32)) (v_w : (Nat → Int64)) (H : Heap) (locs : List Loc) (ls : Array Slot), rec x2 v_m v_w = some x → Wd s A D (ws_Mo_adds cI cJ cZ q_this q_m q_saved q_w q_savedWords q_isSaved q_text q_far q_queue q_parent q_by q_seen q_path q_row q_more q_stateOf v_textLength v_steps v_missing v_mores v_hash v_m v_w v_more) H locs → lv_has ls 3 [(0, .ref q_this), (1, .int x1), (2, .int x2)] → W p l e rm_Mo_adds s m args below meth c H locs 0 0 Q (F0 m 2 ls [])) (x2 : Int32) (v_m : (Nat → Int32)) (v_w : (Nat → Int64)) {H : Heap} {locs : List Loc} {ls : Array Slot} (h : f_Mo_adds_L2 v_mores v_more x1 K rec x2 v_m v_w = some x) (w : Wd s A D (ws_Mo_adds cI cJ cZ q_this q_m q_saved q_w q_savedWords q_isSaved q_text q_far q_queue q_parent q_by q_seen q_path q_row q_more q_stateOf v_textLength v_steps v_missing v_mores v_hash v_m v_w v_more) H locs) (hl : lv_has ls 3 [(0, .ref q_this), (1, .int x1), (2, .int x2)]) : W p l e rm_Mo_adds s m args below meth c H locs 0 0 Q (F0 m 2 ls []) := by
  obtain ⟨hx, hb, hml, hown, hts, -, -⟩ := id C0
  unfold f_Mo_adds_L2 at h
  refine lv_iload_n hx hb dX10_adds_2 rfl (lv_at hl 2 rfl) ?_
  refine lv_aload_n hx hb dX10_adds_3 rfl (lv_at hl 0 rfl) ?_
  refine r_get C0 w 0 rfl kf_Mo 17 (by decide) lf_RX10_149 rfl dX10_adds_4 ?_
  refine lv_icmp_ge (tgt := 97) hx hb dX10_adds_7 (by decide) (fun hc => ?_) (fun hc => ?_)
  · have h := if_h hc h
    exact hK _ _ _ _ _ _ h w (lv_sub hl [] rfl)
  · have h := nf_h hc h
    refine lv_iload_n hx hb dX10_adds_10 rfl (lv_at hl 1 rfl) ?_
    refine lv_if_eq (tgt := 50) hx hb dX10_adds_11 (by decide) (fun hc => ?_) (fun hc => ?_)
    · have h := if_h hc h
      refine lv_aload_n hx hb dX10_adds_50 rfl (lv_at hl 0 rfl) ?_
      refine r_get C0 w 0 rfl kf_Mo 2 (by decide) lf_RX10_16 rfl dX10_adds_51 ?_
      refine lv_sipush (v := (304 : Int32)) hx hb dX10_adds_54 (by decide) ?_
      refine lv_aload_n hx hb dX10_adds_57 rfl (lv_at hl 0 rfl) ?_
      refine r_get C0 w 0 rfl kf_Mo 0 (by decide) lf_RX10_7 rfl dX10_adds_58 ?_
      refine lv_bipush (v := (38 : Int32)) hx hb dX10_adds_61 (by decide) ?_
      refine r_iald C0 w 1 rfl (k := 38) (by decide) (inl (by decide)) dX10_adds_63 ?_
      refine lv_iadd hx hb dX10_adds_64 ?_
      refine lv_aload_n hx hb dX10_adds_65 rfl (lv_at hl 0 rfl) ?_
      refine r_get C0 w 0 rfl kf_Mo 16 (by decide) lf_RX10_51 rfl dX10_adds_66 ?_
      refine lv_iload_n hx hb dX10_adds_69 rfl (lv_at hl 2 rfl) ?_
      obtain ⟨hi, h⟩ := gIn_h h
      refine r_lald C0 w 3 rfl rfl hi dX10_adds_70 ?_
      obtain ⟨hi, h⟩ := gIn_h h
      obtain ⟨v_w_1, ev_w_1⟩ : ∃ y, y = (vp_updL v_w ((304 : Int32) + (v_m 38)).toNatClampNeg (v_more x2.toNatClampNeg)) := ⟨_, rfl⟩
      have h := bnd_at ev_w_1 h
      refine r_last C0 w 2 rfl (f' := v_w_1) rfl hi ev_w_1 dX10_adds_71 (ws' := (ws_Mo_adds cI cJ cZ q_this q_m q_saved q_w q_savedWords q_isSaved q_text q_far q_queue q_parent q_by q_seen q_path q_row q_more q_stateOf v_textLength v_steps v_missing v_mores v_hash v_m v_w_1 v_more)) rfl (fun H locs w => ?_)
      refine lv_aload_n hx hb dX10_adds_72 rfl (lv_at hl 0 rfl) ?_
      refine r_get C0 w 0 rfl kf_Mo 0 (by decide) lf_RX10_7 rfl dX10_adds_73 ?_
      refine lv_bipush (v := (38 : Int32)) hx hb dX10_adds_76 (by decide) ?_
      refine lv_dup2_11 hx hb dX10_adds_78 rfl rfl ?_
      refine r_iald C0 w 1 rfl (k := 38) (by decide) (inl (by decide)) dX10_adds_79 ?_
      refine lv_iconst (v := (1 : Int32)) hx hb dX10_adds_80 (by decide) ?_
      refine lv_iadd hx hb dX10_adds_81 ?_
      obtain ⟨v_m_1, ev_m_1⟩ : ∃ y, y = (upd v_m 38 ((v_m 38) + (1 : Int32))) := ⟨_, rfl⟩
      have h := bnd_at ev_m_1 h
      refine r_iast C0 w 1 rfl (f' := v_m_1) (k := 38) (by decide) (inl (by decide)) ev_m_1 dX10_adds_82 (ws' := (ws_Mo_adds cI cJ cZ q_this q_m q_saved q_w q_savedWords q_isSaved q_text q_far q_queue q_parent q_by q_seen q_path q_row q_more q_stateOf v_textLength v_steps v_missing v_mores v_hash v_m_1 v_w_1 v_more)) rfl (fun H locs w => ?_)
      exact w_Mo_adds_J83 C0 hQ hK hrec h w (lv_sub hl [0, 1, 2] rfl)
    · have h := nf_h hc h
      refine lv_aload_n hx hb dX10_adds_14 rfl (lv_at hl 0 rfl) ?_
      refine r_get C0 w 0 rfl kf_Mo 2 (by decide) lf_RX10_16 rfl dX10_adds_15 ?_
      refine lv_sipush (v := (344 : Int32)) hx hb dX10_adds_18 (by decide) ?_
      refine lv_aload_n hx hb dX10_adds_21 rfl (lv_at hl 0 rfl) ?_
      refine r_get C0 w 0 rfl kf_Mo 0 (by decide) lf_RX10_7 rfl dX10_adds_22 ?_
      refine lv_bipush (v := (39 : Int32)) hx hb dX10_adds_25 (by decide) ?_
      refine r_iald C0 w 1 rfl (k := 39) (by decide) (inl (by decide)) dX10_adds_27 ?_
      refine lv_iadd hx hb dX10_adds_28 ?_
      refine lv_aload_n hx hb dX10_adds_29 rfl (lv_at hl 0 rfl) ?_
      refine r_get C0 w 0 rfl kf_Mo 16 (by decide) lf_RX10_51 rfl dX10_adds_30 ?_
      refine lv_iload_n hx hb dX10_adds_33 rfl (lv_at hl 2 rfl) ?_
      obtain ⟨hi, h⟩ := gIn_h h
      refine r_lald C0 w 3 rfl rfl hi dX10_adds_34 ?_
      obtain ⟨hi, h⟩ := gIn_h h
      obtain ⟨v_w_2, ev_w_2⟩ : ∃ y, y = (vp_updL v_w ((344 : Int32) + (v_m 39)).toNatClampNeg (v_more x2.toNatClampNeg)) := ⟨_, rfl⟩
      have h := bnd_at ev_w_2 h
      refine r_last C0 w 2 rfl (f' := v_w_2) rfl hi ev_w_2 dX10_adds_35 (ws' := (ws_Mo_adds cI cJ cZ q_this q_m q_saved q_w q_savedWords q_isSaved q_text q_far q_queue q_parent q_by q_seen q_path q_row q_more q_stateOf v_textLength v_steps v_missing v_mores v_hash v_m v_w_2 v_more)) rfl (fun H locs w => ?_)
      refine lv_aload_n hx hb dX10_adds_36 rfl (lv_at hl 0 rfl) ?_
      refine r_get C0 w 0 rfl kf_Mo 0 (by decide) lf_RX10_7 rfl dX10_adds_37 ?_
      refine lv_bipush (v := (39 : Int32)) hx hb dX10_adds_40 (by decide) ?_
      refine lv_dup2_11 hx hb dX10_adds_42 rfl rfl ?_
      refine r_iald C0 w 1 rfl (k := 39) (by decide) (inl (by decide)) dX10_adds_43 ?_
      refine lv_iconst (v := (1 : Int32)) hx hb dX10_adds_44 (by decide) ?_
      refine lv_iadd hx hb dX10_adds_45 ?_
      obtain ⟨v_m_2, ev_m_2⟩ : ∃ y, y = (upd v_m 39 ((v_m 39) + (1 : Int32))) := ⟨_, rfl⟩
      have h := bnd_at ev_m_2 h
      refine r_iast C0 w 1 rfl (f' := v_m_2) (k := 39) (by decide) (inl (by decide)) ev_m_2 dX10_adds_46 (ws' := (ws_Mo_adds cI cJ cZ q_this q_m q_saved q_w q_savedWords q_isSaved q_text q_far q_queue q_parent q_by q_seen q_path q_row q_more q_stateOf v_textLength v_steps v_missing v_mores v_hash v_m_2 v_w_2 v_more)) rfl (fun H locs w => ?_)
      refine lv_goto (tgt := 83) hx hb dX10_adds_47 (by decide) ?_
      exact w_Mo_adds_J83 C0 hQ hK hrec h w (lv_sub hl [0, 1, 2] rfl)
set_option maxRecDepth 100000 in
theorem wl_Mo_adds_L2 {p : Program} {l : Launch} {e : Env} {s : State} {m : MethodId} {args : Array Value} {below : List Frame} {meth : Method} {c : Code} {Q : State → Prop} {A : Nat → Prop} {D : va_G} {cI cJ cZ cO : ClassId} {q_this q_m q_saved q_w q_savedWords q_isSaved q_text q_far q_queue q_parent q_by q_seen q_path q_row q_more q_stateOf : Nat} {v_textLength : Int32} {v_steps : Int32} {v_missing : Int64} {v_mores : Int32} {v_hash : Int64} {v_more : (Nat → Int64)} {x1 : Int32} {x : (Nat → Int32) × (Nat → Int64)} (C0 : Cx p s m args c A D cI cJ cZ cO cX10_adds 3 RX10) (hQ : RtV p l e rm_Mo_adds s m args below meth c Q A D cX10_adds (ws_Mo_adds cI cJ cZ q_this q_m q_saved q_w q_savedWords q_isSaved q_text q_far q_queue q_parent q_by q_seen q_path q_row q_more q_stateOf v_textLength v_steps v_missing v_mores v_hash x.1 x.2 v_more)) {K : Int32 → (Nat → Int32) → (Nat → Int64) → Option ((Nat → Int32) × (Nat → Int64))} (hK : ∀ (x2 : Int32) (v_m : (Nat → Int32)) (v_w : (Nat → Int64)) (H : Heap) (locs : List Loc) (ls : Array Slot), K x2 v_m v_w = some x → Wd s A D (ws_Mo_adds cI cJ cZ q_this q_m q_saved q_w q_savedWords q_isSaved q_text q_far q_queue q_parent q_by q_seen q_path q_row q_more q_stateOf v_textLength v_steps v_missing v_mores v_hash v_m v_w v_more) H locs → lv_has ls 3 [] → W p l e rm_Mo_adds s m args below meth c H locs 0 0 Q (F0 m 97 ls [])) : ∀ (n : Nat) (x2 : Int32) (v_m : (Nat → Int32)) (v_w : (Nat → Int64)) (H : Heap) (locs : List Loc) (ls : Array Slot), itr (fun _ _ _ => none) (f_Mo_adds_L2 v_mores v_more x1 K) n x2 v_m v_w = some x → Wd s A D (ws_Mo_adds cI cJ cZ q_this q_m q_saved q_w q_savedWords q_isSaved q_text q_far q_queue q_parent q_by q_seen q_path q_row q_more q_stateOf v_textLength v_steps v_missing v_mores v_hash v_m v_w v_more) H locs → lv_has ls 3 [(0, .ref q_this), (1, .int x1), (2, .int x2)] → W p l e rm_Mo_adds s m args below meth c H locs 0 0 Q (F0 m 2 ls []) := by
  intro n
  induction n with
  | zero => intro _ _ _ _ _ _ h; cases (show none = some _ from h)
  | succ n ih => intro _ _ _ _ _ _ h w hl; exact w_Mo_adds_L2 C0 hQ hK ih _ _ _ h w hl
set_option maxRecDepth 100000 in
theorem c_Mo_adds {l : Launch} {D : va_G} {cI cJ cZ cO : ClassId} {q_this q_m q_saved q_w q_savedWords q_isSaved q_text q_far q_queue q_parent q_by q_seen q_path q_row q_more q_stateOf : Nat} {x1 : Int32} {v_textLength : Int32} {v_steps : Int32} {v_missing : Int64} {v_mores : Int32} {v_hash : Int64} {v_m : (Nat → Int32)} {v_w : (Nat → Int64)} {v_more : (Nat → Int64)} {x : (Nat → Int32) × (Nat → Int64)} (h : f_Mo_adds x1 v_mores v_m v_w v_more = some x) : ctV l D cI cJ cZ cO yX10_adds cX10_adds 3 rm_Mo_adds [.ref q_this, .int x1] (ws_Mo_adds cI cJ cZ q_this q_m q_saved q_w q_savedWords q_isSaved q_text q_far q_queue q_parent q_by q_seen q_path q_row q_more q_stateOf v_textLength v_steps v_missing v_mores v_hash v_m v_w v_more) (ws_Mo_adds cI cJ cZ q_this q_m q_saved q_w q_savedWords q_isSaved q_text q_far q_queue q_parent q_by q_seen q_path q_row q_more q_stateOf v_textLength v_steps v_missing v_mores v_hash x.1 x.2 v_more) := by
  refine ctV_of (by decide) (Nat.le_of_ble_eq_true rfl) ?_
  intro p e s m below meth c Q A ls C0 hQ w hl
  have hl : lv_has ls 3 [(0, .ref q_this), (1, .int x1)] := hl
  generalize List.toArray (α := Value) [.ref q_this, .int x1] = args at C0 hQ ⊢
  obtain ⟨hx, hb, hml, hown, hts, -, -⟩ := id C0
  unfold f_Mo_adds at h
  refine lv_iconst (v := (0 : Int32)) hx hb dX10_adds_0 (by decide) ?_
  refine lv_istore_n (lv' := [(2, .int (0 : Int32)), (0, .ref q_this), (1, .int x1)]) hx hb dX10_adds_1 rfl hl (by decide) rfl (fun ls hl => ?_)
  refine wl_Mo_adds_L2 C0 hQ (fun x2 v_m_1 v_w_1 H locs ls h w hl => ?_) _ _ _ _ _ _ _ h w (lv_sub hl [1, 2, 0] rfl)
  cases h
  exact hQ _ _ _ _ dX10_adds_97 w
theorem dX10_rowOfPrefix_0 : decode cX10_rowOfPrefix 0 = .ok (.iconst 0, 1) := by decide +kernel
theorem dX10_rowOfPrefix_1 : decode cX10_rowOfPrefix 1 = .ok (.istore_n 2, 1) := by decide +kernel
theorem dX10_rowOfPrefix_2 : decode cX10_rowOfPrefix 2 = .ok (.iload_n 2, 1) := by decide +kernel
theorem dX10_rowOfPrefix_3 : decode cX10_rowOfPrefix 3 = .ok (.aload_n 0, 1) := by decide +kernel
theorem dX10_rowOfPrefix_4 : decode cX10_rowOfPrefix 4 = .ok (.getfield 7, 3) := by decide +kernel
theorem dX10_rowOfPrefix_7 : decode cX10_rowOfPrefix 7 = .ok (.bipush 38, 2) := by decide +kernel
theorem dX10_rowOfPrefix_9 : decode cX10_rowOfPrefix 9 = .ok (.iaload, 1) := by decide +kernel
theorem dX10_rowOfPrefix_10 : decode cX10_rowOfPrefix 10 = .ok (.if_icmp .ge 21, 3) := by decide +kernel
theorem dX10_rowOfPrefix_13 : decode cX10_rowOfPrefix 13 = .ok (.aload_n 0, 1) := by decide +kernel
theorem dX10_rowOfPrefix_14 : decode cX10_rowOfPrefix 14 = .ok (.getfield 48, 3) := by decide +kernel
theorem dX10_rowOfPrefix_17 : decode cX10_rowOfPrefix 17 = .ok (.iload_n 2, 1) := by decide +kernel
theorem dX10_rowOfPrefix_18 : decode cX10_rowOfPrefix 18 = .ok (.iaload, 1) := by decide +kernel
theorem dX10_rowOfPrefix_19 : decode cX10_rowOfPrefix 19 = .ok (.iload_n 1, 1) := by decide +kernel
theorem dX10_rowOfPrefix_20 : decode cX10_rowOfPrefix 20 = .ok (.if_icmp .ne 5, 3) := by decide +kernel
theorem dX10_rowOfPrefix_23 : decode cX10_rowOfPrefix 23 = .ok (.iload_n 2, 1) := by decide +kernel
theorem dX10_rowOfPrefix_24 : decode cX10_rowOfPrefix 24 = .ok (.ireturn, 1) := by decide +kernel
theorem dX10_rowOfPrefix_25 : decode cX10_rowOfPrefix 25 = .ok (.iinc 2 1, 3) := by decide +kernel
theorem dX10_rowOfPrefix_28 : decode cX10_rowOfPrefix 28 = .ok (.goto (-26), 3) := by decide +kernel
theorem dX10_rowOfPrefix_31 : decode cX10_rowOfPrefix 31 = .ok (.iconst (-1), 1) := by decide +kernel
theorem dX10_rowOfPrefix_32 : decode cX10_rowOfPrefix 32 = .ok (.ireturn, 1) := by decide +kernel
set_option maxRecDepth 100000 in
theorem w_Mo_rowOfPrefix_L2 {p : Program} {l : Launch} {e : Env} {s : State} {m : MethodId} {args : Array Value} {below : List Frame} {meth : Method} {c : Code} {Q : State → Prop} {A : Nat → Prop} {D : va_G} {cI cJ cZ cO : ClassId} {q_this q_m q_saved q_w q_savedWords q_isSaved q_text q_far q_queue q_parent q_by q_seen q_path q_row q_more q_stateOf : Nat} {v_textLength : Int32} {v_steps : Int32} {v_missing : Int64} {v_mores : Int32} {v_hash : Int64} {v_m : (Nat → Int32)} {v_row : (Nat → Int32)} {x1 : Int32} {x : Int32} (C0 : Cx p s m args c A D cI cJ cZ cO cX10_rowOfPrefix 3 RX10) (hQ : RtI p l e rm_Mo_rowOfPrefix s m args below meth c Q A D cX10_rowOfPrefix .int (ws_Mo_rowOfPrefix cI cJ cZ q_this q_m q_saved q_w q_savedWords q_isSaved q_text q_far q_queue q_parent q_by q_seen q_path q_row q_more q_stateOf v_textLength v_steps v_missing v_mores v_hash v_m v_row) x) {K : Int32 → Option (Int32)} (hK : ∀ (x2 : Int32) (H : Heap) (locs : List Loc) (ls : Array Slot), K x2 = some x → Wd s A D (ws_Mo_rowOfPrefix cI cJ cZ q_this q_m q_saved q_w q_savedWords q_isSaved q_text q_far q_queue q_parent q_by q_seen q_path q_row q_more q_stateOf v_textLength v_steps v_missing v_mores v_hash v_m v_row) H locs → lv_has ls 3 [] → W p l e rm_Mo_rowOfPrefix s m args below meth c H locs 0 0 Q (F0 m 31 ls [])) {rec : Int32 → Option (Int32)} (hrec : ∀ (x2 : Int32) (H : Heap) (locs : List Loc) (ls : Array Slot), rec x2 = some x → Wd s A D (ws_Mo_rowOfPrefix cI cJ cZ q_this q_m q_saved q_w q_savedWords q_isSaved q_text q_far q_queue q_parent q_by q_seen q_path q_row q_more q_stateOf v_textLength v_steps v_missing v_mores v_hash v_m v_row) H locs → lv_has ls 3 [(0, .ref q_this), (1, .int x1), (2, .int x2)] → W p l e rm_Mo_rowOfPrefix s m args below meth c H locs 0 0 Q (F0 m 2 ls [])) (x2 : Int32) {H : Heap} {locs : List Loc} {ls : Array Slot} (h : f_Mo_rowOfPrefix_L2 v_m v_row x1 K rec x2 = some x) (w : Wd s A D (ws_Mo_rowOfPrefix cI cJ cZ q_this q_m q_saved q_w q_savedWords q_isSaved q_text q_far q_queue q_parent q_by q_seen q_path q_row q_more q_stateOf v_textLength v_steps v_missing v_mores v_hash v_m v_row) H locs) (hl : lv_has ls 3 [(0, .ref q_this), (1, .int x1), (2, .int x2)]) : W p l e rm_Mo_rowOfPrefix s m args below meth c H locs 0 0 Q (F0 m 2 ls []) := by
  obtain ⟨hx, hb, hml, hown, hts, -, -⟩ := id C0
  unfold f_Mo_rowOfPrefix_L2 at h
  refine lv_iload_n hx hb dX10_rowOfPrefix_2 rfl (lv_at hl 2 rfl) ?_
  refine lv_aload_n hx hb dX10_rowOfPrefix_3 rfl (lv_at hl 0 rfl) ?_
  refine r_get C0 w 0 rfl kf_Mo 0 (by decide) lf_RX10_7 rfl dX10_rowOfPrefix_4 ?_
  refine lv_bipush (v := (38 : Int32)) hx hb dX10_rowOfPrefix_7 (by decide) ?_
  refine r_iald C0 w 1 rfl (k := 38) (by decide) (inl (by decide)) dX10_rowOfPrefix_9 ?_
  refine lv_icmp_ge (tgt := 31) hx hb dX10_rowOfPrefix_10 (by decide) (fun hc => ?_) (fun hc => ?_)
  · have h := if_h hc h
    exact hK _ _ _ _ h w (lv_sub hl [] rfl)
  · have h := nf_h hc h
    refine lv_aload_n hx hb dX10_rowOfPrefix_13 rfl (lv_at hl 0 rfl) ?_
    refine r_get C0 w 0 rfl kf_Mo 14 (by decide) lf_RX10_48 rfl dX10_rowOfPrefix_14 ?_
    refine lv_iload_n hx hb dX10_rowOfPrefix_17 rfl (lv_at hl 2 rfl) ?_
    obtain ⟨hi, h⟩ := gIn_h h
    refine r_iald C0 w 2 rfl rfl hi dX10_rowOfPrefix_18 ?_
    refine lv_iload_n hx hb dX10_rowOfPrefix_19 rfl (lv_at hl 1 rfl) ?_
    refine lv_icmp_ne (tgt := 25) hx hb dX10_rowOfPrefix_20 (by decide) (fun hc => ?_) (fun hc => ?_)
    · have h := nf_h hc h
      obtain ⟨x2_1, ex2_1⟩ : ∃ y : Int32, y = (x2 + 1) := ⟨_, rfl⟩
      have h := bnd_at ex2_1 h
      refine lv_iinc (v := x2_1) (lv' := [(2, .int x2_1), (0, .ref q_this), (1, .int x1)]) hx hb dX10_rowOfPrefix_25 hl (k := 2) rfl (by rw [ex2_1]; rfl) (by decide) rfl (fun ls hl => ?_)
      refine lv_goto (tgt := 2) hx hb dX10_rowOfPrefix_28 (by decide) ?_
      exact hrec _ _ _ _ h w (lv_sub hl [1, 2, 0] rfl)
    · have h := if_h hc h
      refine lv_iload_n hx hb dX10_rowOfPrefix_23 rfl (lv_at hl 2 rfl) ?_
      cases h
      exact hQ _ _ _ _ dX10_rowOfPrefix_24 rfl w
set_option maxRecDepth 100000 in
theorem wl_Mo_rowOfPrefix_L2 {p : Program} {l : Launch} {e : Env} {s : State} {m : MethodId} {args : Array Value} {below : List Frame} {meth : Method} {c : Code} {Q : State → Prop} {A : Nat → Prop} {D : va_G} {cI cJ cZ cO : ClassId} {q_this q_m q_saved q_w q_savedWords q_isSaved q_text q_far q_queue q_parent q_by q_seen q_path q_row q_more q_stateOf : Nat} {v_textLength : Int32} {v_steps : Int32} {v_missing : Int64} {v_mores : Int32} {v_hash : Int64} {v_m : (Nat → Int32)} {v_row : (Nat → Int32)} {x1 : Int32} {x : Int32} (C0 : Cx p s m args c A D cI cJ cZ cO cX10_rowOfPrefix 3 RX10) (hQ : RtI p l e rm_Mo_rowOfPrefix s m args below meth c Q A D cX10_rowOfPrefix .int (ws_Mo_rowOfPrefix cI cJ cZ q_this q_m q_saved q_w q_savedWords q_isSaved q_text q_far q_queue q_parent q_by q_seen q_path q_row q_more q_stateOf v_textLength v_steps v_missing v_mores v_hash v_m v_row) x) {K : Int32 → Option (Int32)} (hK : ∀ (x2 : Int32) (H : Heap) (locs : List Loc) (ls : Array Slot), K x2 = some x → Wd s A D (ws_Mo_rowOfPrefix cI cJ cZ q_this q_m q_saved q_w q_savedWords q_isSaved q_text q_far q_queue q_parent q_by q_seen q_path q_row q_more q_stateOf v_textLength v_steps v_missing v_mores v_hash v_m v_row) H locs → lv_has ls 3 [] → W p l e rm_Mo_rowOfPrefix s m args below meth c H locs 0 0 Q (F0 m 31 ls [])) : ∀ (n : Nat) (x2 : Int32) (H : Heap) (locs : List Loc) (ls : Array Slot), itr (fun _ => none) (f_Mo_rowOfPrefix_L2 v_m v_row x1 K) n x2 = some x → Wd s A D (ws_Mo_rowOfPrefix cI cJ cZ q_this q_m q_saved q_w q_savedWords q_isSaved q_text q_far q_queue q_parent q_by q_seen q_path q_row q_more q_stateOf v_textLength v_steps v_missing v_mores v_hash v_m v_row) H locs → lv_has ls 3 [(0, .ref q_this), (1, .int x1), (2, .int x2)] → W p l e rm_Mo_rowOfPrefix s m args below meth c H locs 0 0 Q (F0 m 2 ls []) := by
  intro n
  induction n with
  | zero => intro _ _ _ _ h; cases (show none = some _ from h)
  | succ n ih => intro _ _ _ _ h w hl; exact w_Mo_rowOfPrefix_L2 C0 hQ hK ih _ h w hl
set_option maxRecDepth 100000 in
theorem c_Mo_rowOfPrefix {l : Launch} {D : va_G} {cI cJ cZ cO : ClassId} {q_this q_m q_saved q_w q_savedWords q_isSaved q_text q_far q_queue q_parent q_by q_seen q_path q_row q_more q_stateOf : Nat} {x1 : Int32} {v_textLength : Int32} {v_steps : Int32} {v_missing : Int64} {v_mores : Int32} {v_hash : Int64} {v_m : (Nat → Int32)} {v_row : (Nat → Int32)} {x : Int32} (h : f_Mo_rowOfPrefix x1 v_m v_row = some x) : ctI l D cI cJ cZ cO yX10_rowOfPrefix cX10_rowOfPrefix 3 .int rm_Mo_rowOfPrefix [.ref q_this, .int x1] (ws_Mo_rowOfPrefix cI cJ cZ q_this q_m q_saved q_w q_savedWords q_isSaved q_text q_far q_queue q_parent q_by q_seen q_path q_row q_more q_stateOf v_textLength v_steps v_missing v_mores v_hash v_m v_row) (ws_Mo_rowOfPrefix cI cJ cZ q_this q_m q_saved q_w q_savedWords q_isSaved q_text q_far q_queue q_parent q_by q_seen q_path q_row q_more q_stateOf v_textLength v_steps v_missing v_mores v_hash v_m v_row) x := by
  refine ctI_of (by decide) (Nat.le_of_ble_eq_true rfl) ?_
  intro p e s m below meth c Q A ls C0 hQ w hl
  have hl : lv_has ls 3 [(0, .ref q_this), (1, .int x1)] := hl
  generalize List.toArray (α := Value) [.ref q_this, .int x1] = args at C0 hQ ⊢
  obtain ⟨hx, hb, hml, hown, hts, -, -⟩ := id C0
  unfold f_Mo_rowOfPrefix at h
  refine lv_iconst (v := (0 : Int32)) hx hb dX10_rowOfPrefix_0 (by decide) ?_
  refine lv_istore_n (lv' := [(2, .int (0 : Int32)), (0, .ref q_this), (1, .int x1)]) hx hb dX10_rowOfPrefix_1 rfl hl (by decide) rfl (fun ls hl => ?_)
  refine wl_Mo_rowOfPrefix_L2 C0 hQ (fun x2 H locs ls h w hl => ?_) _ _ _ _ _ h w (lv_sub hl [1, 2, 0] rfl)
  refine lv_iconst (v := (-1 : Int32)) hx hb dX10_rowOfPrefix_31 (by decide) ?_
  cases h
  exact hQ _ _ _ _ dX10_rowOfPrefix_32 rfl w
theorem dX10_open_0 : decode cX10_open 0 = .ok (.aload_n 0, 1) := by decide +kernel
theorem dX10_open_1 : decode cX10_open 1 = .ok (.getfield 7, 3) := by decide +kernel
theorem dX10_open_4 : decode cX10_open 4 = .ok (.bipush 38, 2) := by decide +kernel
theorem dX10_open_6 : decode cX10_open 6 = .ok (.iaload, 1) := by decide +kernel
theorem dX10_open_7 : decode cX10_open 7 = .ok (.istore_n 1, 1) := by decide +kernel
theorem dX10_open_8 : decode cX10_open 8 = .ok (.iload_n 1, 1) := by decide +kernel
theorem dX10_open_9 : decode cX10_open 9 = .ok (.aload_n 0, 1) := by decide +kernel
theorem dX10_open_10 : decode cX10_open 10 = .ok (.getfield 7, 3) := by decide +kernel
theorem dX10_open_13 : decode cX10_open 13 = .ok (.bipush 38, 2) := by decide +kernel
theorem dX10_open_15 : decode cX10_open 15 = .ok (.iaload, 1) := by decide +kernel
theorem dX10_open_16 : decode cX10_open 16 = .ok (.iconst 1, 1) := by decide +kernel
theorem dX10_open_17 : decode cX10_open 17 = .ok (.aload_n 0, 1) := by decide +kernel
theorem dX10_open_18 : decode cX10_open 18 = .ok (.getfield 7, 3) := by decide +kernel
theorem dX10_open_21 : decode cX10_open 21 = .ok (.iconst 1, 1) := by decide +kernel
theorem dX10_open_22 : decode cX10_open 22 = .ok (.iaload, 1) := by decide +kernel
theorem dX10_open_23 : decode cX10_open 23 = .ok (.iadd, 1) := by decide +kernel
theorem dX10_open_24 : decode cX10_open 24 = .ok (.imul, 1) := by decide +kernel
theorem dX10_open_25 : decode cX10_open 25 = .ok (.if_icmp .ge 25, 3) := by decide +kernel
theorem dX10_open_28 : decode cX10_open 28 = .ok (.aload_n 0, 1) := by decide +kernel
theorem dX10_open_29 : decode cX10_open 29 = .ok (.aload_n 0, 1) := by decide +kernel
theorem dX10_open_30 : decode cX10_open 30 = .ok (.getfield 48, 3) := by decide +kernel
theorem dX10_open_33 : decode cX10_open 33 = .ok (.iload_n 1, 1) := by decide +kernel
theorem dX10_open_34 : decode cX10_open 34 = .ok (.iaload, 1) := by decide +kernel
theorem dX10_open_35 : decode cX10_open 35 = .ok (.invokevirtual 156, 3) := by decide +kernel
theorem dX10_open_38 : decode cX10_open 38 = .ok (.iconst (-1), 1) := by decide +kernel
theorem dX10_open_39 : decode cX10_open 39 = .ok (.if_icmp .ne 5, 3) := by decide +kernel
theorem dX10_open_42 : decode cX10_open 42 = .ok (.iload_n 1, 1) := by decide +kernel
theorem dX10_open_43 : decode cX10_open 43 = .ok (.ireturn, 1) := by decide +kernel
theorem dX10_open_44 : decode cX10_open 44 = .ok (.iinc 1 1, 3) := by decide +kernel
theorem dX10_open_47 : decode cX10_open 47 = .ok (.goto (-39), 3) := by decide +kernel
theorem dX10_open_50 : decode cX10_open 50 = .ok (.iconst (-1), 1) := by decide +kernel
theorem dX10_open_51 : decode cX10_open 51 = .ok (.ireturn, 1) := by decide +kernel
set_option maxRecDepth 100000 in
theorem w_Mo_open_L8 {p : Program} {l : Launch} {e : Env} {s : State} {m : MethodId} {args : Array Value} {below : List Frame} {meth : Method} {c : Code} {Q : State → Prop} {A : Nat → Prop} {D : va_G} {cI cJ cZ cO : ClassId} {q_this q_m q_saved q_w q_savedWords q_isSaved q_text q_far q_queue q_parent q_by q_seen q_path q_row q_more q_stateOf : Nat} {v_textLength : Int32} {v_steps : Int32} {v_missing : Int64} {v_mores : Int32} {v_hash : Int64} {v_m : (Nat → Int32)} {v_row : (Nat → Int32)} {x : Int32} (C0 : Cx p s m args c A D cI cJ cZ cO cX10_open 2 RX10) (hQ : RtI p l e rm_Mo_open s m args below meth c Q A D cX10_open .int (ws_Mo_open cI cJ cZ q_this q_m q_saved q_w q_savedWords q_isSaved q_text q_far q_queue q_parent q_by q_seen q_path q_row q_more q_stateOf v_textLength v_steps v_missing v_mores v_hash v_m v_row) x) {K : Int32 → Option (Int32)} (hK : ∀ (x1 : Int32) (H : Heap) (locs : List Loc) (ls : Array Slot), K x1 = some x → Wd s A D (ws_Mo_open cI cJ cZ q_this q_m q_saved q_w q_savedWords q_isSaved q_text q_far q_queue q_parent q_by q_seen q_path q_row q_more q_stateOf v_textLength v_steps v_missing v_mores v_hash v_m v_row) H locs → lv_has ls 2 [] → W p l e rm_Mo_open s m args below meth c H locs 0 0 Q (F0 m 50 ls [])) {rec : Int32 → Option (Int32)} (hrec : ∀ (x1 : Int32) (H : Heap) (locs : List Loc) (ls : Array Slot), rec x1 = some x → Wd s A D (ws_Mo_open cI cJ cZ q_this q_m q_saved q_w q_savedWords q_isSaved q_text q_far q_queue q_parent q_by q_seen q_path q_row q_more q_stateOf v_textLength v_steps v_missing v_mores v_hash v_m v_row) H locs → lv_has ls 2 [(0, .ref q_this), (1, .int x1)] → W p l e rm_Mo_open s m args below meth c H locs 0 0 Q (F0 m 8 ls [])) (x1 : Int32) {H : Heap} {locs : List Loc} {ls : Array Slot} (h : f_Mo_open_L8 v_m v_row K rec x1 = some x) (w : Wd s A D (ws_Mo_open cI cJ cZ q_this q_m q_saved q_w q_savedWords q_isSaved q_text q_far q_queue q_parent q_by q_seen q_path q_row q_more q_stateOf v_textLength v_steps v_missing v_mores v_hash v_m v_row) H locs) (hl : lv_has ls 2 [(0, .ref q_this), (1, .int x1)]) : W p l e rm_Mo_open s m args below meth c H locs 0 0 Q (F0 m 8 ls []) := by
  obtain ⟨hx, hb, hml, hown, hts, -, -⟩ := id C0
  unfold f_Mo_open_L8 at h
  refine lv_iload_n hx hb dX10_open_8 rfl (lv_at hl 1 rfl) ?_
  refine lv_aload_n hx hb dX10_open_9 rfl (lv_at hl 0 rfl) ?_
  refine r_get C0 w 0 rfl kf_Mo 0 (by decide) lf_RX10_7 rfl dX10_open_10 ?_
  refine lv_bipush (v := (38 : Int32)) hx hb dX10_open_13 (by decide) ?_
  refine r_iald C0 w 1 rfl (k := 38) (by decide) (inl (by decide)) dX10_open_15 ?_
  refine lv_iconst (v := (1 : Int32)) hx hb dX10_open_16 (by decide) ?_
  refine lv_aload_n hx hb dX10_open_17 rfl (lv_at hl 0 rfl) ?_
  refine r_get C0 w 0 rfl kf_Mo 0 (by decide) lf_RX10_7 rfl dX10_open_18 ?_
  refine lv_iconst (v := (1 : Int32)) hx hb dX10_open_21 (by decide) ?_
  refine r_iald C0 w 1 rfl (k := 1) (by decide) (inl (by decide)) dX10_open_22 ?_
  refine lv_iadd hx hb dX10_open_23 ?_
  refine lv_imul hx hb dX10_open_24 ?_
  refine lv_icmp_ge (tgt := 50) hx hb dX10_open_25 (by decide) (fun hc => ?_) (fun hc => ?_)
  · have h := if_h hc h
    exact hK _ _ _ _ h w (lv_sub hl [] rfl)
  · have h := nf_h hc h
    refine lv_aload_n hx hb dX10_open_28 rfl (lv_at hl 0 rfl) ?_
    refine lv_aload_n hx hb dX10_open_29 rfl (lv_at hl 0 rfl) ?_
    refine r_get C0 w 0 rfl kf_Mo 14 (by decide) lf_RX10_48 rfl dX10_open_30 ?_
    refine lv_iload_n hx hb dX10_open_33 rfl (lv_at hl 1 rfl) ?_
    obtain ⟨hi, h⟩ := gIn_h h
    refine r_iald C0 w 2 rfl rfl hi dX10_open_34 ?_
    obtain ⟨r, hcall, h⟩ := bd1_h h
    obtain ⟨wr, hp, hp'⟩ := rd_of (ws := (ws_Mo_open cI cJ cZ q_this q_m q_saved q_w q_savedWords q_isSaved q_text q_far q_queue q_parent q_by q_seen q_path q_row q_more q_stateOf v_textLength v_steps v_missing v_mores v_hash v_m v_row)) (wc := (ws_Mo_rowOfPrefix cI cJ cZ q_this q_m q_saved q_w q_savedWords q_isSaved q_text q_far q_queue q_parent q_by q_seen q_path q_row q_more q_stateOf v_textLength v_steps v_missing v_mores v_hash v_m v_row)) [0, 1, 2] rfl rfl
    refine r_VI (r := r) (As := [.int (v_row x1.toNatClampNeg)]) (rest := []) (wc' := (ws_Mo_rowOfPrefix cI cJ cZ q_this q_m q_saved q_w q_savedWords q_isSaved q_text q_far q_queue q_parent q_by q_seen q_path q_row q_more q_stateOf v_textLength v_steps v_missing v_mores v_hash v_m v_row)) (ws' := (ws_Mo_open cI cJ cZ q_this q_m q_saved q_w q_savedWords q_isSaved q_text q_far q_queue q_parent q_by q_seen q_path q_row q_more q_stateOf v_textLength v_steps v_missing v_mores v_hash v_m v_row)) C0 w (c_Mo_rowOfPrefix hcall) hp hp' lm_RX10_156 mv_Mo_rowOfPrefix ⟨rfl, rfl⟩ ⟨by decide, by decide⟩ ⟨Nat.zero_le _, Nat.zero_le _⟩ (q0 := 0) rfl rfl rfl rfl hl rfl (Nat.le_of_ble_eq_true rfl) dX10_open_35 (fun H locs w => ?_)
    refine lv_iconst (v := (-1 : Int32)) hx hb dX10_open_38 (by decide) ?_
    refine lv_icmp_ne (tgt := 44) hx hb dX10_open_39 (by decide) (fun hc => ?_) (fun hc => ?_)
    · have h := nf_h hc h
      obtain ⟨x1_1, ex1_1⟩ : ∃ y : Int32, y = (x1 + 1) := ⟨_, rfl⟩
      have h := bnd_at ex1_1 h
      refine lv_iinc (v := x1_1) (lv' := [(1, .int x1_1), (0, .ref q_this)]) hx hb dX10_open_44 hl (k := 1) rfl (by rw [ex1_1]; rfl) (by decide) rfl (fun ls hl => ?_)
      refine lv_goto (tgt := 8) hx hb dX10_open_47 (by decide) ?_
      exact hrec _ _ _ _ h w (lv_sub hl [1, 0] rfl)
    · have h := if_h hc h
      refine lv_iload_n hx hb dX10_open_42 rfl (lv_at hl 1 rfl) ?_
      cases h
      exact hQ _ _ _ _ dX10_open_43 rfl w
set_option maxRecDepth 100000 in
theorem wl_Mo_open_L8 {p : Program} {l : Launch} {e : Env} {s : State} {m : MethodId} {args : Array Value} {below : List Frame} {meth : Method} {c : Code} {Q : State → Prop} {A : Nat → Prop} {D : va_G} {cI cJ cZ cO : ClassId} {q_this q_m q_saved q_w q_savedWords q_isSaved q_text q_far q_queue q_parent q_by q_seen q_path q_row q_more q_stateOf : Nat} {v_textLength : Int32} {v_steps : Int32} {v_missing : Int64} {v_mores : Int32} {v_hash : Int64} {v_m : (Nat → Int32)} {v_row : (Nat → Int32)} {x : Int32} (C0 : Cx p s m args c A D cI cJ cZ cO cX10_open 2 RX10) (hQ : RtI p l e rm_Mo_open s m args below meth c Q A D cX10_open .int (ws_Mo_open cI cJ cZ q_this q_m q_saved q_w q_savedWords q_isSaved q_text q_far q_queue q_parent q_by q_seen q_path q_row q_more q_stateOf v_textLength v_steps v_missing v_mores v_hash v_m v_row) x) {K : Int32 → Option (Int32)} (hK : ∀ (x1 : Int32) (H : Heap) (locs : List Loc) (ls : Array Slot), K x1 = some x → Wd s A D (ws_Mo_open cI cJ cZ q_this q_m q_saved q_w q_savedWords q_isSaved q_text q_far q_queue q_parent q_by q_seen q_path q_row q_more q_stateOf v_textLength v_steps v_missing v_mores v_hash v_m v_row) H locs → lv_has ls 2 [] → W p l e rm_Mo_open s m args below meth c H locs 0 0 Q (F0 m 50 ls [])) : ∀ (n : Nat) (x1 : Int32) (H : Heap) (locs : List Loc) (ls : Array Slot), itr (fun _ => none) (f_Mo_open_L8 v_m v_row K) n x1 = some x → Wd s A D (ws_Mo_open cI cJ cZ q_this q_m q_saved q_w q_savedWords q_isSaved q_text q_far q_queue q_parent q_by q_seen q_path q_row q_more q_stateOf v_textLength v_steps v_missing v_mores v_hash v_m v_row) H locs → lv_has ls 2 [(0, .ref q_this), (1, .int x1)] → W p l e rm_Mo_open s m args below meth c H locs 0 0 Q (F0 m 8 ls []) := by
  intro n
  induction n with
  | zero => intro _ _ _ _ h; cases (show none = some _ from h)
  | succ n ih => intro _ _ _ _ h w hl; exact w_Mo_open_L8 C0 hQ hK ih _ h w hl
set_option maxRecDepth 100000 in
theorem c_Mo_open {l : Launch} {D : va_G} {cI cJ cZ cO : ClassId} {q_this q_m q_saved q_w q_savedWords q_isSaved q_text q_far q_queue q_parent q_by q_seen q_path q_row q_more q_stateOf : Nat} {v_textLength : Int32} {v_steps : Int32} {v_missing : Int64} {v_mores : Int32} {v_hash : Int64} {v_m : (Nat → Int32)} {v_row : (Nat → Int32)} {x : Int32} (h : f_Mo_open v_m v_row = some x) : ctI l D cI cJ cZ cO yX10_open cX10_open 2 .int rm_Mo_open [.ref q_this] (ws_Mo_open cI cJ cZ q_this q_m q_saved q_w q_savedWords q_isSaved q_text q_far q_queue q_parent q_by q_seen q_path q_row q_more q_stateOf v_textLength v_steps v_missing v_mores v_hash v_m v_row) (ws_Mo_open cI cJ cZ q_this q_m q_saved q_w q_savedWords q_isSaved q_text q_far q_queue q_parent q_by q_seen q_path q_row q_more q_stateOf v_textLength v_steps v_missing v_mores v_hash v_m v_row) x := by
  refine ctI_of (by decide) (Nat.le_of_ble_eq_true rfl) ?_
  intro p e s m below meth c Q A ls C0 hQ w hl
  have hl : lv_has ls 2 [(0, .ref q_this)] := hl
  generalize List.toArray (α := Value) [.ref q_this] = args at C0 hQ ⊢
  obtain ⟨hx, hb, hml, hown, hts, -, -⟩ := id C0
  unfold f_Mo_open at h
  refine lv_aload_n hx hb dX10_open_0 rfl (lv_at hl 0 rfl) ?_
  refine r_get C0 w 0 rfl kf_Mo 0 (by decide) lf_RX10_7 rfl dX10_open_1 ?_
  refine lv_bipush (v := (38 : Int32)) hx hb dX10_open_4 (by decide) ?_
  refine r_iald C0 w 1 rfl (k := 38) (by decide) (inl (by decide)) dX10_open_6 ?_
  refine lv_topi (fun x1 ex1 => ?_)
  have h := bnd_at ex1 h
  refine lv_istore_n (lv' := [(1, .int x1), (0, .ref q_this)]) hx hb dX10_open_7 rfl hl (by decide) rfl (fun ls hl => ?_)
  refine wl_Mo_open_L8 C0 hQ (fun x1_1 H locs ls h w hl => ?_) _ _ _ _ _ h w (lv_sub hl [1, 0] rfl)
  refine lv_iconst (v := (-1 : Int32)) hx hb dX10_open_50 (by decide) ?_
  cases h
  exact hQ _ _ _ _ dX10_open_51 rfl w
theorem dX10_isInconsistent_0 : decode cX10_isInconsistent 0 = .ok (.iconst 0, 1) := by decide +kernel
theorem dX10_isInconsistent_1 : decode cX10_isInconsistent 1 = .ok (.istore_n 1, 1) := by decide +kernel
theorem dX10_isInconsistent_2 : decode cX10_isInconsistent 2 = .ok (.iload_n 1, 1) := by decide +kernel
theorem dX10_isInconsistent_3 : decode cX10_isInconsistent 3 = .ok (.aload_n 0, 1) := by decide +kernel
theorem dX10_isInconsistent_4 : decode cX10_isInconsistent 4 = .ok (.getfield 7, 3) := by decide +kernel
theorem dX10_isInconsistent_7 : decode cX10_isInconsistent 7 = .ok (.bipush 38, 2) := by decide +kernel
theorem dX10_isInconsistent_9 : decode cX10_isInconsistent 9 = .ok (.iaload, 1) := by decide +kernel
theorem dX10_isInconsistent_10 : decode cX10_isInconsistent 10 = .ok (.if_icmp .ge 143, 3) := by decide +kernel
theorem dX10_isInconsistent_13 : decode cX10_isInconsistent 13 = .ok (.iload_n 1, 1) := by decide +kernel
theorem dX10_isInconsistent_14 : decode cX10_isInconsistent 14 = .ok (.iconst 1, 1) := by decide +kernel
theorem dX10_isInconsistent_15 : decode cX10_isInconsistent 15 = .ok (.iadd, 1) := by decide +kernel
theorem dX10_isInconsistent_16 : decode cX10_isInconsistent 16 = .ok (.istore_n 2, 1) := by decide +kernel
theorem dX10_isInconsistent_17 : decode cX10_isInconsistent 17 = .ok (.iload_n 2, 1) := by decide +kernel
theorem dX10_isInconsistent_18 : decode cX10_isInconsistent 18 = .ok (.aload_n 0, 1) := by decide +kernel
theorem dX10_isInconsistent_19 : decode cX10_isInconsistent 19 = .ok (.getfield 7, 3) := by decide +kernel
theorem dX10_isInconsistent_22 : decode cX10_isInconsistent 22 = .ok (.bipush 38, 2) := by decide +kernel
theorem dX10_isInconsistent_24 : decode cX10_isInconsistent 24 = .ok (.iaload, 1) := by decide +kernel
theorem dX10_isInconsistent_25 : decode cX10_isInconsistent 25 = .ok (.if_icmp .ge 122, 3) := by decide +kernel
theorem dX10_isInconsistent_28 : decode cX10_isInconsistent 28 = .ok (.iconst 0, 1) := by decide +kernel
theorem dX10_isInconsistent_29 : decode cX10_isInconsistent 29 = .ok (.istore_n 3, 1) := by decide +kernel
theorem dX10_isInconsistent_30 : decode cX10_isInconsistent 30 = .ok (.iload_n 3, 1) := by decide +kernel
theorem dX10_isInconsistent_31 : decode cX10_isInconsistent 31 = .ok (.aload_n 0, 1) := by decide +kernel
theorem dX10_isInconsistent_32 : decode cX10_isInconsistent 32 = .ok (.getfield 7, 3) := by decide +kernel
theorem dX10_isInconsistent_35 : decode cX10_isInconsistent 35 = .ok (.iconst 1, 1) := by decide +kernel
theorem dX10_isInconsistent_36 : decode cX10_isInconsistent 36 = .ok (.iaload, 1) := by decide +kernel
theorem dX10_isInconsistent_37 : decode cX10_isInconsistent 37 = .ok (.if_icmp .ge 104, 3) := by decide +kernel
theorem dX10_isInconsistent_40 : decode cX10_isInconsistent 40 = .ok (.aload_n 0, 1) := by decide +kernel
theorem dX10_isInconsistent_41 : decode cX10_isInconsistent 41 = .ok (.getfield 48, 3) := by decide +kernel
theorem dX10_isInconsistent_44 : decode cX10_isInconsistent 44 = .ok (.iload_n 1, 1) := by decide +kernel
theorem dX10_isInconsistent_45 : decode cX10_isInconsistent 45 = .ok (.iaload, 1) := by decide +kernel
theorem dX10_isInconsistent_46 : decode cX10_isInconsistent 46 = .ok (.aload_n 0, 1) := by decide +kernel
theorem dX10_isInconsistent_47 : decode cX10_isInconsistent 47 = .ok (.getfield 48, 3) := by decide +kernel
theorem dX10_isInconsistent_50 : decode cX10_isInconsistent 50 = .ok (.iload_n 2, 1) := by decide +kernel
theorem dX10_isInconsistent_51 : decode cX10_isInconsistent 51 = .ok (.iaload, 1) := by decide +kernel
theorem dX10_isInconsistent_52 : decode cX10_isInconsistent 52 = .ok (.if_icmp .ne 89, 3) := by decide +kernel
theorem dX10_isInconsistent_55 : decode cX10_isInconsistent 55 = .ok (.aload_n 0, 1) := by decide +kernel
theorem dX10_isInconsistent_56 : decode cX10_isInconsistent 56 = .ok (.getfield 48, 3) := by decide +kernel
theorem dX10_isInconsistent_59 : decode cX10_isInconsistent 59 = .ok (.aload_n 0, 1) := by decide +kernel
theorem dX10_isInconsistent_60 : decode cX10_isInconsistent 60 = .ok (.iload_n 1, 1) := by decide +kernel
theorem dX10_isInconsistent_61 : decode cX10_isInconsistent 61 = .ok (.iload_n 3, 1) := by decide +kernel
theorem dX10_isInconsistent_62 : decode cX10_isInconsistent 62 = .ok (.invokevirtual 159, 3) := by decide +kernel
theorem dX10_isInconsistent_65 : decode cX10_isInconsistent 65 = .ok (.iaload, 1) := by decide +kernel
theorem dX10_isInconsistent_66 : decode cX10_isInconsistent 66 = .ok (.aload_n 0, 1) := by decide +kernel
theorem dX10_isInconsistent_67 : decode cX10_isInconsistent 67 = .ok (.getfield 48, 3) := by decide +kernel
theorem dX10_isInconsistent_70 : decode cX10_isInconsistent 70 = .ok (.aload_n 0, 1) := by decide +kernel
theorem dX10_isInconsistent_71 : decode cX10_isInconsistent 71 = .ok (.iload_n 2, 1) := by decide +kernel
theorem dX10_isInconsistent_72 : decode cX10_isInconsistent 72 = .ok (.iload_n 3, 1) := by decide +kernel
theorem dX10_isInconsistent_73 : decode cX10_isInconsistent 73 = .ok (.invokevirtual 159, 3) := by decide +kernel
theorem dX10_isInconsistent_76 : decode cX10_isInconsistent 76 = .ok (.iaload, 1) := by decide +kernel
theorem dX10_isInconsistent_77 : decode cX10_isInconsistent 77 = .ok (.ixor, 1) := by decide +kernel
theorem dX10_isInconsistent_78 : decode cX10_isInconsistent 78 = .ok (.istore 4, 2) := by decide +kernel
theorem dX10_isInconsistent_80 : decode cX10_isInconsistent 80 = .ok (.iload 4, 2) := by decide +kernel
theorem dX10_isInconsistent_82 : decode cX10_isInconsistent 82 = .ok (.ifCond .eq 53, 3) := by decide +kernel
theorem dX10_isInconsistent_85 : decode cX10_isInconsistent 85 = .ok (.iconst 0, 1) := by decide +kernel
theorem dX10_isInconsistent_86 : decode cX10_isInconsistent 86 = .ok (.istore 5, 2) := by decide +kernel
theorem dX10_isInconsistent_88 : decode cX10_isInconsistent 88 = .ok (.iload 4, 2) := by decide +kernel
theorem dX10_isInconsistent_90 : decode cX10_isInconsistent 90 = .ok (.iload 5, 2) := by decide +kernel
theorem dX10_isInconsistent_92 : decode cX10_isInconsistent 92 = .ok (.ishr, 1) := by decide +kernel
theorem dX10_isInconsistent_93 : decode cX10_isInconsistent 93 = .ok (.iconst 1, 1) := by decide +kernel
theorem dX10_isInconsistent_94 : decode cX10_isInconsistent 94 = .ok (.iand, 1) := by decide +kernel
theorem dX10_isInconsistent_95 : decode cX10_isInconsistent 95 = .ok (.ifCond .ne 9, 3) := by decide +kernel
theorem dX10_isInconsistent_98 : decode cX10_isInconsistent 98 = .ok (.iinc 5 1, 3) := by decide +kernel
theorem dX10_isInconsistent_101 : decode cX10_isInconsistent 101 = .ok (.goto (-13), 3) := by decide +kernel
theorem dX10_isInconsistent_104 : decode cX10_isInconsistent 104 = .ok (.aload_n 0, 1) := by decide +kernel
theorem dX10_isInconsistent_105 : decode cX10_isInconsistent 105 = .ok (.iconst 0, 1) := by decide +kernel
theorem dX10_isInconsistent_106 : decode cX10_isInconsistent 106 = .ok (.putfield 149, 3) := by decide +kernel
theorem dX10_isInconsistent_109 : decode cX10_isInconsistent 109 = .ok (.aload_n 0, 1) := by decide +kernel
theorem dX10_isInconsistent_110 : decode cX10_isInconsistent 110 = .ok (.lconst 0, 1) := by decide +kernel
theorem dX10_isInconsistent_111 : decode cX10_isInconsistent 111 = .ok (.iload_n 3, 1) := by decide +kernel
theorem dX10_isInconsistent_112 : decode cX10_isInconsistent 112 = .ok (.invokestatic 82, 3) := by decide +kernel
theorem dX10_isInconsistent_115 : decode cX10_isInconsistent 115 = .ok (.aload_n 0, 1) := by decide +kernel
theorem dX10_isInconsistent_116 : decode cX10_isInconsistent 116 = .ok (.getfield 16, 3) := by decide +kernel
theorem dX10_isInconsistent_119 : decode cX10_isInconsistent 119 = .ok (.sipush 344, 3) := by decide +kernel
theorem dX10_isInconsistent_122 : decode cX10_isInconsistent 122 = .ok (.iload 5, 2) := by decide +kernel
theorem dX10_isInconsistent_124 : decode cX10_isInconsistent 124 = .ok (.iadd, 1) := by decide +kernel
theorem dX10_isInconsistent_125 : decode cX10_isInconsistent 125 = .ok (.laload, 1) := by decide +kernel
theorem dX10_isInconsistent_126 : decode cX10_isInconsistent 126 = .ok (.invokestatic 137, 3) := by decide +kernel
theorem dX10_isInconsistent_129 : decode cX10_isInconsistent 129 = .ok (.iconst 1, 1) := by decide +kernel
theorem dX10_isInconsistent_130 : decode cX10_isInconsistent 130 = .ok (.invokevirtual 162, 3) := by decide +kernel
theorem dX10_isInconsistent_133 : decode cX10_isInconsistent 133 = .ok (.iconst 1, 1) := by decide +kernel
theorem dX10_isInconsistent_134 : decode cX10_isInconsistent 134 = .ok (.ireturn, 1) := by decide +kernel
theorem dX10_isInconsistent_135 : decode cX10_isInconsistent 135 = .ok (.iinc 3 1, 3) := by decide +kernel
theorem dX10_isInconsistent_138 : decode cX10_isInconsistent 138 = .ok (.goto (-108), 3) := by decide +kernel
theorem dX10_isInconsistent_141 : decode cX10_isInconsistent 141 = .ok (.iinc 2 1, 3) := by decide +kernel
theorem dX10_isInconsistent_144 : decode cX10_isInconsistent 144 = .ok (.goto (-127), 3) := by decide +kernel
theorem dX10_isInconsistent_147 : decode cX10_isInconsistent 147 = .ok (.iinc 1 1, 3) := by decide +kernel
theorem dX10_isInconsistent_150 : decode cX10_isInconsistent 150 = .ok (.goto (-148), 3) := by decide +kernel
theorem dX10_isInconsistent_153 : decode cX10_isInconsistent 153 = .ok (.iconst 0, 1) := by decide +kernel
theorem dX10_isInconsistent_154 : decode cX10_isInconsistent 154 = .ok (.ireturn, 1) := by decide +kernel
set_option maxRecDepth 100000 in
theorem w_Mo_isInconsistent_L88 {p : Program} {l : Launch} {e : Env} {s : State} {m : MethodId} {args : Array Value} {below : List Frame} {meth : Method} {c : Code} {Q : State → Prop} {A : Nat → Prop} {D : va_G} {cI cJ cZ cO : ClassId} {q_this q_m q_saved q_w q_savedWords q_isSaved q_text q_far q_queue q_parent q_by q_seen q_path q_row q_more q_stateOf : Nat} {v_textLength : Int32} {v_steps : Int32} {v_missing : Int64} {v_mores : Int32} {v_hash : Int64} {v_m : (Nat → Int32)} {v_w : (Nat → Int64)} {v_row : (Nat → Int32)} {v_more : (Nat → Int64)} {x3 : Int32} {x4 : Int32} {x : Int32 × (Nat → Int64) × Int32} (C0 : Cx p s m args c A D cI cJ cZ cO cX10_isInconsistent 6 RX10) (hQ : RtI p l e rm_Mo_isInconsistent s m args below meth c Q A D cX10_isInconsistent .boolean (ws_Mo_isInconsistent cI cJ cZ q_this q_m q_saved q_w q_savedWords q_isSaved q_text q_far q_queue q_parent q_by q_seen q_path q_row q_more q_stateOf v_textLength v_steps v_missing x.2.2 v_hash v_m v_w v_row x.2.1) x.1) {K : Int32 → Option (Int32 × (Nat → Int64) × Int32)} (hK : ∀ (x5 : Int32) (H : Heap) (locs : List Loc) (ls : Array Slot), K x5 = some x → Wd s A D (ws_Mo_isInconsistent cI cJ cZ q_this q_m q_saved q_w q_savedWords q_isSaved q_text q_far q_queue q_parent q_by q_seen q_path q_row q_more q_stateOf v_textLength v_steps v_missing v_mores v_hash v_m v_w v_row v_more) H locs → lv_has ls 6 [(0, .ref q_this), (3, .int x3), (5, .int x5)] → W p l e rm_Mo_isInconsistent s m args below meth c H locs 0 0 Q (F0 m 104 ls [])) {rec : Int32 → Option (Int32 × (Nat → Int64) × Int32)} (hrec : ∀ (x5 : Int32) (H : Heap) (locs : List Loc) (ls : Array Slot), rec x5 = some x → Wd s A D (ws_Mo_isInconsistent cI cJ cZ q_this q_m q_saved q_w q_savedWords q_isSaved q_text q_far q_queue q_parent q_by q_seen q_path q_row q_more q_stateOf v_textLength v_steps v_missing v_mores v_hash v_m v_w v_row v_more) H locs → lv_has ls 6 [(0, .ref q_this), (3, .int x3), (4, .int x4), (5, .int x5)] → W p l e rm_Mo_isInconsistent s m args below meth c H locs 0 0 Q (F0 m 88 ls [])) (x5 : Int32) {H : Heap} {locs : List Loc} {ls : Array Slot} (h : f_Mo_isInconsistent_L88 x4 K rec x5 = some x) (w : Wd s A D (ws_Mo_isInconsistent cI cJ cZ q_this q_m q_saved q_w q_savedWords q_isSaved q_text q_far q_queue q_parent q_by q_seen q_path q_row q_more q_stateOf v_textLength v_steps v_missing v_mores v_hash v_m v_w v_row v_more) H locs) (hl : lv_has ls 6 [(0, .ref q_this), (3, .int x3), (4, .int x4), (5, .int x5)]) : W p l e rm_Mo_isInconsistent s m args below meth c H locs 0 0 Q (F0 m 88 ls []) := by
  obtain ⟨hx, hb, hml, hown, hts, -, -⟩ := id C0
  unfold f_Mo_isInconsistent_L88 at h
  refine lv_iload hx hb dX10_isInconsistent_88 (lv_at hl 2 rfl) ?_
  refine lv_iload hx hb dX10_isInconsistent_90 (lv_at hl 3 rfl) ?_
  refine lv_ishr hx hb dX10_isInconsistent_92 ?_
  refine lv_iconst (v := (1 : Int32)) hx hb dX10_isInconsistent_93 (by decide) ?_
  refine lv_iand hx hb dX10_isInconsistent_94 ?_
  refine lv_if_ne (tgt := 104) hx hb dX10_isInconsistent_95 (by decide) (fun hc => ?_) (fun hc => ?_)
  · have h := nf_h hc h
    exact hK _ _ _ _ h w (lv_sub hl [0, 1, 3] rfl)
  · have h := if_h hc h
    obtain ⟨x5_1, ex5_1⟩ : ∃ y : Int32, y = (x5 + 1) := ⟨_, rfl⟩
    have h := bnd_at ex5_1 h
    refine lv_iinc (v := x5_1) (lv' := [(5, .int x5_1), (0, .ref q_this), (3, .int x3), (4, .int x4)]) hx hb dX10_isInconsistent_98 hl (k := 3) rfl (by rw [ex5_1]; rfl) (by decide) rfl (fun ls hl => ?_)
    refine lv_goto (tgt := 88) hx hb dX10_isInconsistent_101 (by decide) ?_
    exact hrec _ _ _ _ h w (lv_sub hl [1, 2, 3, 0] rfl)
set_option maxRecDepth 100000 in
theorem wl_Mo_isInconsistent_L88 {p : Program} {l : Launch} {e : Env} {s : State} {m : MethodId} {args : Array Value} {below : List Frame} {meth : Method} {c : Code} {Q : State → Prop} {A : Nat → Prop} {D : va_G} {cI cJ cZ cO : ClassId} {q_this q_m q_saved q_w q_savedWords q_isSaved q_text q_far q_queue q_parent q_by q_seen q_path q_row q_more q_stateOf : Nat} {v_textLength : Int32} {v_steps : Int32} {v_missing : Int64} {v_mores : Int32} {v_hash : Int64} {v_m : (Nat → Int32)} {v_w : (Nat → Int64)} {v_row : (Nat → Int32)} {v_more : (Nat → Int64)} {x3 : Int32} {x4 : Int32} {x : Int32 × (Nat → Int64) × Int32} (C0 : Cx p s m args c A D cI cJ cZ cO cX10_isInconsistent 6 RX10) (hQ : RtI p l e rm_Mo_isInconsistent s m args below meth c Q A D cX10_isInconsistent .boolean (ws_Mo_isInconsistent cI cJ cZ q_this q_m q_saved q_w q_savedWords q_isSaved q_text q_far q_queue q_parent q_by q_seen q_path q_row q_more q_stateOf v_textLength v_steps v_missing x.2.2 v_hash v_m v_w v_row x.2.1) x.1) {K : Int32 → Option (Int32 × (Nat → Int64) × Int32)} (hK : ∀ (x5 : Int32) (H : Heap) (locs : List Loc) (ls : Array Slot), K x5 = some x → Wd s A D (ws_Mo_isInconsistent cI cJ cZ q_this q_m q_saved q_w q_savedWords q_isSaved q_text q_far q_queue q_parent q_by q_seen q_path q_row q_more q_stateOf v_textLength v_steps v_missing v_mores v_hash v_m v_w v_row v_more) H locs → lv_has ls 6 [(0, .ref q_this), (3, .int x3), (5, .int x5)] → W p l e rm_Mo_isInconsistent s m args below meth c H locs 0 0 Q (F0 m 104 ls [])) : ∀ (n : Nat) (x5 : Int32) (H : Heap) (locs : List Loc) (ls : Array Slot), itr (fun _ => none) (f_Mo_isInconsistent_L88 x4 K) n x5 = some x → Wd s A D (ws_Mo_isInconsistent cI cJ cZ q_this q_m q_saved q_w q_savedWords q_isSaved q_text q_far q_queue q_parent q_by q_seen q_path q_row q_more q_stateOf v_textLength v_steps v_missing v_mores v_hash v_m v_w v_row v_more) H locs → lv_has ls 6 [(0, .ref q_this), (3, .int x3), (4, .int x4), (5, .int x5)] → W p l e rm_Mo_isInconsistent s m args below meth c H locs 0 0 Q (F0 m 88 ls []) := by
  intro n
  induction n with
  | zero => intro _ _ _ _ h; cases (show none = some _ from h)
  | succ n ih => intro _ _ _ _ h w hl; exact w_Mo_isInconsistent_L88 C0 hQ hK ih _ h w hl
set_option maxRecDepth 100000 in
theorem w_Mo_isInconsistent_L30 {p : Program} {l : Launch} {e : Env} {s : State} {m : MethodId} {args : Array Value} {below : List Frame} {meth : Method} {c : Code} {Q : State → Prop} {A : Nat → Prop} {D : va_G} {cI cJ cZ cO : ClassId} {q_this q_m q_saved q_w q_savedWords q_isSaved q_text q_far q_queue q_parent q_by q_seen q_path q_row q_more q_stateOf : Nat} {v_textLength : Int32} {v_steps : Int32} {v_missing : Int64} {v_mores : Int32} {v_hash : Int64} {v_m : (Nat → Int32)} {v_w : (Nat → Int64)} {v_row : (Nat → Int32)} {v_more : (Nat → Int64)} {x1 : Int32} {x2 : Int32} {x : Int32 × (Nat → Int64) × Int32} (C0 : Cx p s m args c A D cI cJ cZ cO cX10_isInconsistent 6 RX10) (hQ : RtI p l e rm_Mo_isInconsistent s m args below meth c Q A D cX10_isInconsistent .boolean (ws_Mo_isInconsistent cI cJ cZ q_this q_m q_saved q_w q_savedWords q_isSaved q_text q_far q_queue q_parent q_by q_seen q_path q_row q_more q_stateOf v_textLength v_steps v_missing x.2.2 v_hash v_m v_w v_row x.2.1) x.1) {K : Int32 → Option (Int32 × (Nat → Int64) × Int32)} (hK : ∀ (x3 : Int32) (H : Heap) (locs : List Loc) (ls : Array Slot), K x3 = some x → Wd s A D (ws_Mo_isInconsistent cI cJ cZ q_this q_m q_saved q_w q_savedWords q_isSaved q_text q_far q_queue q_parent q_by q_seen q_path q_row q_more q_stateOf v_textLength v_steps v_missing v_mores v_hash v_m v_w v_row v_more) H locs → lv_has ls 6 [(0, .ref q_this), (1, .int x1), (2, .int x2)] → W p l e rm_Mo_isInconsistent s m args below meth c H locs 0 0 Q (F0 m 141 ls [])) {rec : Int32 → Option (Int32 × (Nat → Int64) × Int32)} (hrec : ∀ (x3 : Int32) (H : Heap) (locs : List Loc) (ls : Array Slot), rec x3 = some x → Wd s A D (ws_Mo_isInconsistent cI cJ cZ q_this q_m q_saved q_w q_savedWords q_isSaved q_text q_far q_queue q_parent q_by q_seen q_path q_row q_more q_stateOf v_textLength v_steps v_missing v_mores v_hash v_m v_w v_row v_more) H locs → lv_has ls 6 [(0, .ref q_this), (1, .int x1), (2, .int x2), (3, .int x3)] → W p l e rm_Mo_isInconsistent s m args below meth c H locs 0 0 Q (F0 m 30 ls [])) (x3 : Int32) {H : Heap} {locs : List Loc} {ls : Array Slot} (h : f_Mo_isInconsistent_L30 v_m v_w v_row v_more x1 x2 K rec x3 = some x) (w : Wd s A D (ws_Mo_isInconsistent cI cJ cZ q_this q_m q_saved q_w q_savedWords q_isSaved q_text q_far q_queue q_parent q_by q_seen q_path q_row q_more q_stateOf v_textLength v_steps v_missing v_mores v_hash v_m v_w v_row v_more) H locs) (hl : lv_has ls 6 [(0, .ref q_this), (1, .int x1), (2, .int x2), (3, .int x3)]) : W p l e rm_Mo_isInconsistent s m args below meth c H locs 0 0 Q (F0 m 30 ls []) := by
  obtain ⟨hx, hb, hml, hown, hts, -, -⟩ := id C0
  unfold f_Mo_isInconsistent_L30 at h
  refine lv_iload_n hx hb dX10_isInconsistent_30 rfl (lv_at hl 3 rfl) ?_
  refine lv_aload_n hx hb dX10_isInconsistent_31 rfl (lv_at hl 0 rfl) ?_
  refine r_get C0 w 0 rfl kf_Mo 0 (by decide) lf_RX10_7 rfl dX10_isInconsistent_32 ?_
  refine lv_iconst (v := (1 : Int32)) hx hb dX10_isInconsistent_35 (by decide) ?_
  refine r_iald C0 w 1 rfl (k := 1) (by decide) (inl (by decide)) dX10_isInconsistent_36 ?_
  refine lv_icmp_ge (tgt := 141) hx hb dX10_isInconsistent_37 (by decide) (fun hc => ?_) (fun hc => ?_)
  · have h := if_h hc h
    exact hK _ _ _ _ h w (lv_sub hl [0, 1, 2] rfl)
  · have h := nf_h hc h
    refine lv_aload_n hx hb dX10_isInconsistent_40 rfl (lv_at hl 0 rfl) ?_
    refine r_get C0 w 0 rfl kf_Mo 14 (by decide) lf_RX10_48 rfl dX10_isInconsistent_41 ?_
    refine lv_iload_n hx hb dX10_isInconsistent_44 rfl (lv_at hl 1 rfl) ?_
    obtain ⟨hi, h⟩ := gIn_h h
    refine r_iald C0 w 3 rfl rfl hi dX10_isInconsistent_45 ?_
    refine lv_aload_n hx hb dX10_isInconsistent_46 rfl (lv_at hl 0 rfl) ?_
    refine r_get C0 w 0 rfl kf_Mo 14 (by decide) lf_RX10_48 rfl dX10_isInconsistent_47 ?_
    refine lv_iload_n hx hb dX10_isInconsistent_50 rfl (lv_at hl 2 rfl) ?_
    obtain ⟨hi, h⟩ := gIn_h h
    refine r_iald C0 w 3 rfl rfl hi dX10_isInconsistent_51 ?_
    refine lv_icmp_ne (tgt := 141) hx hb dX10_isInconsistent_52 (by decide) (fun hc => ?_) (fun hc => ?_)
    · have h := nf_h hc h
      exact hK _ _ _ _ h w (lv_sub hl [0, 1, 2] rfl)
    · have h := if_h hc h
      refine lv_aload_n hx hb dX10_isInconsistent_55 rfl (lv_at hl 0 rfl) ?_
      refine r_get C0 w 0 rfl kf_Mo 14 (by decide) lf_RX10_48 rfl dX10_isInconsistent_56 ?_
      refine lv_aload_n hx hb dX10_isInconsistent_59 rfl (lv_at hl 0 rfl) ?_
      refine lv_iload_n hx hb dX10_isInconsistent_60 rfl (lv_at hl 1 rfl) ?_
      refine lv_iload_n hx hb dX10_isInconsistent_61 rfl (lv_at hl 3 rfl) ?_
      obtain ⟨r, hcall, h⟩ := bd1_h h
      obtain ⟨wr, hp, hp'⟩ := rd_of (ws := (ws_Mo_isInconsistent cI cJ cZ q_this q_m q_saved q_w q_savedWords q_isSaved q_text q_far q_queue q_parent q_by q_seen q_path q_row q_more q_stateOf v_textLength v_steps v_missing v_mores v_hash v_m v_w v_row v_more)) (wc := (ws_Mo_extension cI cJ cZ q_this q_m q_saved q_w q_savedWords q_isSaved q_text q_far q_queue q_parent q_by q_seen q_path q_row q_more q_stateOf v_textLength v_steps v_missing v_mores v_hash v_m)) [0, 1] rfl rfl
      refine r_VI (r := r) (As := [.int x1, .int x3]) (rest := [.ref q_row]) (wc' := (ws_Mo_extension cI cJ cZ q_this q_m q_saved q_w q_savedWords q_isSaved q_text q_far q_queue q_parent q_by q_seen q_path q_row q_more q_stateOf v_textLength v_steps v_missing v_mores v_hash v_m)) (ws' := (ws_Mo_isInconsistent cI cJ cZ q_this q_m q_saved q_w q_savedWords q_isSaved q_text q_far q_queue q_parent q_by q_seen q_path q_row q_more q_stateOf v_textLength v_steps v_missing v_mores v_hash v_m v_w v_row v_more)) C0 w (c_Mo_extension hcall) hp hp' lm_RX10_159 mv_Mo_extension ⟨rfl, rfl⟩ ⟨by decide, by decide⟩ ⟨Nat.zero_le _, Nat.zero_le _⟩ (q0 := 0) rfl rfl rfl rfl hl rfl (Nat.le_of_ble_eq_true rfl) dX10_isInconsistent_62 (fun H locs w => ?_)
      obtain ⟨hi, h⟩ := gIn_h h
      refine r_iald C0 w 3 rfl rfl hi dX10_isInconsistent_65 ?_
      refine lv_aload_n hx hb dX10_isInconsistent_66 rfl (lv_at hl 0 rfl) ?_
      refine r_get C0 w 0 rfl kf_Mo 14 (by decide) lf_RX10_48 rfl dX10_isInconsistent_67 ?_
      refine lv_aload_n hx hb dX10_isInconsistent_70 rfl (lv_at hl 0 rfl) ?_
      refine lv_iload_n hx hb dX10_isInconsistent_71 rfl (lv_at hl 2 rfl) ?_
      refine lv_iload_n hx hb dX10_isInconsistent_72 rfl (lv_at hl 3 rfl) ?_
      obtain ⟨r_1, hcall, h⟩ := bd1_h h
      obtain ⟨wr, hp, hp'⟩ := rd_of (ws := (ws_Mo_isInconsistent cI cJ cZ q_this q_m q_saved q_w q_savedWords q_isSaved q_text q_far q_queue q_parent q_by q_seen q_path q_row q_more q_stateOf v_textLength v_steps v_missing v_mores v_hash v_m v_w v_row v_more)) (wc := (ws_Mo_extension cI cJ cZ q_this q_m q_saved q_w q_savedWords q_isSaved q_text q_far q_queue q_parent q_by q_seen q_path q_row q_more q_stateOf v_textLength v_steps v_missing v_mores v_hash v_m)) [0, 1] rfl rfl
      refine r_VI (r := r_1) (As := [.int x2, .int x3]) (rest := [.ref q_row, .int (v_row r.toNatClampNeg)]) (wc' := (ws_Mo_extension cI cJ cZ q_this q_m q_saved q_w q_savedWords q_isSaved q_text q_far q_queue q_parent q_by q_seen q_path q_row q_more q_stateOf v_textLength v_steps v_missing v_mores v_hash v_m)) (ws' := (ws_Mo_isInconsistent cI cJ cZ q_this q_m q_saved q_w q_savedWords q_isSaved q_text q_far q_queue q_parent q_by q_seen q_path q_row q_more q_stateOf v_textLength v_steps v_missing v_mores v_hash v_m v_w v_row v_more)) C0 w (c_Mo_extension hcall) hp hp' lm_RX10_159 mv_Mo_extension ⟨rfl, rfl⟩ ⟨by decide, by decide⟩ ⟨Nat.zero_le _, Nat.zero_le _⟩ (q0 := 0) rfl rfl rfl rfl hl rfl (Nat.le_of_ble_eq_true rfl) dX10_isInconsistent_73 (fun H locs w => ?_)
      obtain ⟨hi, h⟩ := gIn_h h
      refine r_iald C0 w 3 rfl rfl hi dX10_isInconsistent_76 ?_
      refine lv_ixor hx hb dX10_isInconsistent_77 ?_
      refine lv_topi (fun x4 ex4 => ?_)
      have h := bnd_at ex4 h
      refine lv_istore (lv' := [(4, .int x4), (0, .ref q_this), (1, .int x1), (2, .int x2), (3, .int x3)]) hx hb dX10_isInconsistent_78 hl (by decide) rfl (fun ls hl => ?_)
      refine lv_iload hx hb dX10_isInconsistent_80 (lv_at hl 0 rfl) ?_
      refine lv_if_eq (tgt := 135) hx hb dX10_isInconsistent_82 (by decide) (fun hc => ?_) (fun hc => ?_)
      · have h := if_h hc h
        obtain ⟨x3_1, ex3_1⟩ : ∃ y : Int32, y = (x3 + 1) := ⟨_, rfl⟩
        have h := bnd_at ex3_1 h
        refine lv_iinc (v := x3_1) (lv' := [(3, .int x3_1), (4, .int x4), (0, .ref q_this), (1, .int x1), (2, .int x2)]) hx hb dX10_isInconsistent_135 hl (k := 4) rfl (by rw [ex3_1]; rfl) (by decide) rfl (fun ls hl => ?_)
        refine lv_goto (tgt := 30) hx hb dX10_isInconsistent_138 (by decide) ?_
        exact hrec _ _ _ _ h w (lv_sub hl [2, 3, 4, 0] rfl)
      · have h := nf_h hc h
        refine lv_iconst (v := (0 : Int32)) hx hb dX10_isInconsistent_85 (by decide) ?_
        refine lv_istore (lv' := [(5, .int (0 : Int32)), (4, .int x4), (0, .ref q_this), (1, .int x1), (2, .int x2), (3, .int x3)]) hx hb dX10_isInconsistent_86 hl (by decide) rfl (fun ls hl => ?_)
        refine wl_Mo_isInconsistent_L88 C0 hQ (fun x5 H locs ls h w hl => ?_) _ _ _ _ _ h w (lv_sub hl [2, 5, 1, 0] rfl)
        refine lv_aload_n hx hb dX10_isInconsistent_104 rfl (lv_at hl 0 rfl) ?_
        refine lv_iconst (v := (0 : Int32)) hx hb dX10_isInconsistent_105 (by decide) ?_
        refine r_put C0 w 0 rfl kf_Mo 17 (by decide) lf_RX10_149 rfl rfl rfl (Nat.le_of_ble_eq_true rfl) dX10_isInconsistent_106 (ws' := (ws_Mo_isInconsistent cI cJ cZ q_this q_m q_saved q_w q_savedWords q_isSaved q_text q_far q_queue q_parent q_by q_seen q_path q_row q_more q_stateOf v_textLength v_steps v_missing (0 : Int32) v_hash v_m v_w v_row v_more)) rfl (fun H locs w => ?_)
        refine lv_aload_n hx hb dX10_isInconsistent_109 rfl (lv_at hl 0 rfl) ?_
        refine lv_lconst (v := (0 : Int64)) hx hb dX10_isInconsistent_110 (by decide) ?_
        refine lv_iload_n hx hb dX10_isInconsistent_111 rfl (lv_at hl 1 rfl) ?_
        obtain ⟨r_2, hcall, h⟩ := bd1_h h
        obtain ⟨wr, hp, hp'⟩ := rd_of (ws := (ws_Mo_isInconsistent cI cJ cZ q_this q_m q_saved q_w q_savedWords q_isSaved q_text q_far q_queue q_parent q_by q_seen q_path q_row q_more q_stateOf v_textLength v_steps v_missing (0 : Int32) v_hash v_m v_w v_row v_more)) (wc := (ws_Mo_longer cI cJ cZ)) [] rfl rfl
        refine r_SJ (r := r_2) (As := [.long (0 : Int64), .int x3]) (rest := [.ref q_this]) (wc' := (ws_Mo_longer cI cJ cZ)) (ws' := (ws_Mo_isInconsistent cI cJ cZ q_this q_m q_saved q_w q_savedWords q_isSaved q_text q_far q_queue q_parent q_by q_seen q_path q_row q_more q_stateOf v_textLength v_steps v_missing (0 : Int32) v_hash v_m v_w v_row v_more)) C0 w (c_Mo_longer hcall) hp hp' lm_RX10_82 ms_Mo_longer ⟨rfl, rfl⟩ ⟨by decide, by decide⟩ ⟨Nat.zero_le _, Nat.zero_le _⟩ rfl hl rfl (Nat.le_of_ble_eq_true rfl) dX10_isInconsistent_112 (fun H locs w => ?_)
        refine lv_aload_n hx hb dX10_isInconsistent_115 rfl (lv_at hl 0 rfl) ?_
        refine r_get C0 w 0 rfl kf_Mo 2 (by decide) lf_RX10_16 rfl dX10_isInconsistent_116 ?_
        refine lv_sipush (v := (344 : Int32)) hx hb dX10_isInconsistent_119 (by decide) ?_
        refine lv_iload hx hb dX10_isInconsistent_122 (lv_at hl 2 rfl) ?_
        refine lv_iadd hx hb dX10_isInconsistent_124 ?_
        obtain ⟨hi, h⟩ := gIn_h h
        refine r_lald C0 w 2 rfl rfl hi dX10_isInconsistent_125 ?_
        obtain ⟨r_3, hcall, h⟩ := bd1_h h
        obtain ⟨wr, hp, hp'⟩ := rd_of (ws := (ws_Mo_isInconsistent cI cJ cZ q_this q_m q_saved q_w q_savedWords q_isSaved q_text q_far q_queue q_parent q_by q_seen q_path q_row q_more q_stateOf v_textLength v_steps v_missing (0 : Int32) v_hash v_m v_w v_row v_more)) (wc := (ws_Mo_joined cI cJ cZ)) [] rfl rfl
        refine r_SJ (r := r_3) (As := [.long r_2, .long (v_w ((344 : Int32) + x5).toNatClampNeg)]) (rest := [.ref q_this]) (wc' := (ws_Mo_joined cI cJ cZ)) (ws' := (ws_Mo_isInconsistent cI cJ cZ q_this q_m q_saved q_w q_savedWords q_isSaved q_text q_far q_queue q_parent q_by q_seen q_path q_row q_more q_stateOf v_textLength v_steps v_missing (0 : Int32) v_hash v_m v_w v_row v_more)) C0 w (c_Mo_joined hcall) hp hp' lm_RX10_137 ms_Mo_joined ⟨rfl, rfl⟩ ⟨by decide, by decide⟩ ⟨Nat.zero_le _, Nat.zero_le _⟩ rfl hl rfl (Nat.le_of_ble_eq_true rfl) dX10_isInconsistent_126 (fun H locs w => ?_)
        refine lv_iconst (v := (1 : Int32)) hx hb dX10_isInconsistent_129 (by decide) ?_
        obtain ⟨v_more_1, v_mores_1, hcall, h⟩ := bd2_h h
        have hp := sp_of (ws := (ws_Mo_isInconsistent cI cJ cZ q_this q_m q_saved q_w q_savedWords q_isSaved q_text q_far q_queue q_parent q_by q_seen q_path q_row q_more q_stateOf v_textLength v_steps v_missing (0 : Int32) v_hash v_m v_w v_row v_more)) (wc := (ws_Mo_wants cI cJ cZ q_this q_m q_saved q_w q_savedWords q_isSaved q_text q_far q_queue q_parent q_by q_seen q_path q_row q_more q_stateOf v_textLength v_steps v_missing (0 : Int32) v_hash v_m v_w v_more)) [0, 1, 2, 4] [3] rfl rfl
        have hp' : Rp (pk (ws_Mo_isInconsistent cI cJ cZ q_this q_m q_saved q_w q_savedWords q_isSaved q_text q_far q_queue q_parent q_by q_seen q_path q_row q_more q_stateOf v_textLength v_steps v_missing (0 : Int32) v_hash v_m v_w v_row v_more) [3] ++ (ws_Mo_wants cI cJ cZ q_this q_m q_saved q_w q_savedWords q_isSaved q_text q_far q_queue q_parent q_by q_seen q_path q_row q_more q_stateOf v_textLength v_steps v_missing v_mores_1 v_hash v_m v_w v_more_1)) (ws_Mo_isInconsistent cI cJ cZ q_this q_m q_saved q_w q_savedWords q_isSaved q_text q_far q_queue q_parent q_by q_seen q_path q_row q_more q_stateOf v_textLength v_steps v_missing v_mores_1 v_hash v_m v_w v_row v_more_1) := ⟨[1, 2, 3, 0, 4], rfl, rfl⟩
        refine r_VV (As := [.long r_3, .int (1 : Int32)]) (rest := []) (wc' := (ws_Mo_wants cI cJ cZ q_this q_m q_saved q_w q_savedWords q_isSaved q_text q_far q_queue q_parent q_by q_seen q_path q_row q_more q_stateOf v_textLength v_steps v_missing v_mores_1 v_hash v_m v_w v_more_1)) (ws' := (ws_Mo_isInconsistent cI cJ cZ q_this q_m q_saved q_w q_savedWords q_isSaved q_text q_far q_queue q_parent q_by q_seen q_path q_row q_more q_stateOf v_textLength v_steps v_missing v_mores_1 v_hash v_m v_w v_row v_more_1)) C0 w (c_Mo_wants hcall) hp hp' lm_RX10_162 mv_Mo_wants ⟨rfl, rfl⟩ ⟨by decide, by decide⟩ ⟨Nat.zero_le _, Nat.zero_le _⟩ (q0 := 0) rfl rfl rfl rfl hl rfl (Nat.le_of_ble_eq_true rfl) dX10_isInconsistent_130 (fun H locs w => ?_)
        refine lv_iconst (v := (1 : Int32)) hx hb dX10_isInconsistent_133 (by decide) ?_
        cases h
        exact hQ _ _ _ _ dX10_isInconsistent_134 (gB_n (v := (1 : Int32)) (Or.inr rfl)) w
set_option maxRecDepth 100000 in
theorem wl_Mo_isInconsistent_L30 {p : Program} {l : Launch} {e : Env} {s : State} {m : MethodId} {args : Array Value} {below : List Frame} {meth : Method} {c : Code} {Q : State → Prop} {A : Nat → Prop} {D : va_G} {cI cJ cZ cO : ClassId} {q_this q_m q_saved q_w q_savedWords q_isSaved q_text q_far q_queue q_parent q_by q_seen q_path q_row q_more q_stateOf : Nat} {v_textLength : Int32} {v_steps : Int32} {v_missing : Int64} {v_mores : Int32} {v_hash : Int64} {v_m : (Nat → Int32)} {v_w : (Nat → Int64)} {v_row : (Nat → Int32)} {v_more : (Nat → Int64)} {x1 : Int32} {x2 : Int32} {x : Int32 × (Nat → Int64) × Int32} (C0 : Cx p s m args c A D cI cJ cZ cO cX10_isInconsistent 6 RX10) (hQ : RtI p l e rm_Mo_isInconsistent s m args below meth c Q A D cX10_isInconsistent .boolean (ws_Mo_isInconsistent cI cJ cZ q_this q_m q_saved q_w q_savedWords q_isSaved q_text q_far q_queue q_parent q_by q_seen q_path q_row q_more q_stateOf v_textLength v_steps v_missing x.2.2 v_hash v_m v_w v_row x.2.1) x.1) {K : Int32 → Option (Int32 × (Nat → Int64) × Int32)} (hK : ∀ (x3 : Int32) (H : Heap) (locs : List Loc) (ls : Array Slot), K x3 = some x → Wd s A D (ws_Mo_isInconsistent cI cJ cZ q_this q_m q_saved q_w q_savedWords q_isSaved q_text q_far q_queue q_parent q_by q_seen q_path q_row q_more q_stateOf v_textLength v_steps v_missing v_mores v_hash v_m v_w v_row v_more) H locs → lv_has ls 6 [(0, .ref q_this), (1, .int x1), (2, .int x2)] → W p l e rm_Mo_isInconsistent s m args below meth c H locs 0 0 Q (F0 m 141 ls [])) : ∀ (n : Nat) (x3 : Int32) (H : Heap) (locs : List Loc) (ls : Array Slot), itr (fun _ => none) (f_Mo_isInconsistent_L30 v_m v_w v_row v_more x1 x2 K) n x3 = some x → Wd s A D (ws_Mo_isInconsistent cI cJ cZ q_this q_m q_saved q_w q_savedWords q_isSaved q_text q_far q_queue q_parent q_by q_seen q_path q_row q_more q_stateOf v_textLength v_steps v_missing v_mores v_hash v_m v_w v_row v_more) H locs → lv_has ls 6 [(0, .ref q_this), (1, .int x1), (2, .int x2), (3, .int x3)] → W p l e rm_Mo_isInconsistent s m args below meth c H locs 0 0 Q (F0 m 30 ls []) := by
  intro n
  induction n with
  | zero => intro _ _ _ _ h; cases (show none = some _ from h)
  | succ n ih => intro _ _ _ _ h w hl; exact w_Mo_isInconsistent_L30 C0 hQ hK ih _ h w hl
set_option maxRecDepth 100000 in
theorem w_Mo_isInconsistent_L17 {p : Program} {l : Launch} {e : Env} {s : State} {m : MethodId} {args : Array Value} {below : List Frame} {meth : Method} {c : Code} {Q : State → Prop} {A : Nat → Prop} {D : va_G} {cI cJ cZ cO : ClassId} {q_this q_m q_saved q_w q_savedWords q_isSaved q_text q_far q_queue q_parent q_by q_seen q_path q_row q_more q_stateOf : Nat} {v_textLength : Int32} {v_steps : Int32} {v_missing : Int64} {v_mores : Int32} {v_hash : Int64} {v_m : (Nat → Int32)} {v_w : (Nat → Int64)} {v_row : (Nat → Int32)} {v_more : (Nat → Int64)} {x1 : Int32} {x : Int32 × (Nat → Int64) × Int32} (C0 : Cx p s m args c A D cI cJ cZ cO cX10_isInconsistent 6 RX10) (hQ : RtI p l e rm_Mo_isInconsistent s m args below meth c Q A D cX10_isInconsistent .boolean (ws_Mo_isInconsistent cI cJ cZ q_this q_m q_saved q_w q_savedWords q_isSaved q_text q_far q_queue q_parent q_by q_seen q_path q_row q_more q_stateOf v_textLength v_steps v_missing x.2.2 v_hash v_m v_w v_row x.2.1) x.1) {K : Int32 → Option (Int32 × (Nat → Int64) × Int32)} (hK : ∀ (x2 : Int32) (H : Heap) (locs : List Loc) (ls : Array Slot), K x2 = some x → Wd s A D (ws_Mo_isInconsistent cI cJ cZ q_this q_m q_saved q_w q_savedWords q_isSaved q_text q_far q_queue q_parent q_by q_seen q_path q_row q_more q_stateOf v_textLength v_steps v_missing v_mores v_hash v_m v_w v_row v_more) H locs → lv_has ls 6 [(0, .ref q_this), (1, .int x1)] → W p l e rm_Mo_isInconsistent s m args below meth c H locs 0 0 Q (F0 m 147 ls [])) {rec : Int32 → Option (Int32 × (Nat → Int64) × Int32)} (hrec : ∀ (x2 : Int32) (H : Heap) (locs : List Loc) (ls : Array Slot), rec x2 = some x → Wd s A D (ws_Mo_isInconsistent cI cJ cZ q_this q_m q_saved q_w q_savedWords q_isSaved q_text q_far q_queue q_parent q_by q_seen q_path q_row q_more q_stateOf v_textLength v_steps v_missing v_mores v_hash v_m v_w v_row v_more) H locs → lv_has ls 6 [(0, .ref q_this), (1, .int x1), (2, .int x2)] → W p l e rm_Mo_isInconsistent s m args below meth c H locs 0 0 Q (F0 m 17 ls [])) (x2 : Int32) {H : Heap} {locs : List Loc} {ls : Array Slot} (h : f_Mo_isInconsistent_L17 v_m v_w v_row v_more x1 K rec x2 = some x) (w : Wd s A D (ws_Mo_isInconsistent cI cJ cZ q_this q_m q_saved q_w q_savedWords q_isSaved q_text q_far q_queue q_parent q_by q_seen q_path q_row q_more q_stateOf v_textLength v_steps v_missing v_mores v_hash v_m v_w v_row v_more) H locs) (hl : lv_has ls 6 [(0, .ref q_this), (1, .int x1), (2, .int x2)]) : W p l e rm_Mo_isInconsistent s m args below meth c H locs 0 0 Q (F0 m 17 ls []) := by
  obtain ⟨hx, hb, hml, hown, hts, -, -⟩ := id C0
  unfold f_Mo_isInconsistent_L17 at h
  refine lv_iload_n hx hb dX10_isInconsistent_17 rfl (lv_at hl 2 rfl) ?_
  refine lv_aload_n hx hb dX10_isInconsistent_18 rfl (lv_at hl 0 rfl) ?_
  refine r_get C0 w 0 rfl kf_Mo 0 (by decide) lf_RX10_7 rfl dX10_isInconsistent_19 ?_
  refine lv_bipush (v := (38 : Int32)) hx hb dX10_isInconsistent_22 (by decide) ?_
  refine r_iald C0 w 1 rfl (k := 38) (by decide) (inl (by decide)) dX10_isInconsistent_24 ?_
  refine lv_icmp_ge (tgt := 147) hx hb dX10_isInconsistent_25 (by decide) (fun hc => ?_) (fun hc => ?_)
  · have h := if_h hc h
    exact hK _ _ _ _ h w (lv_sub hl [0, 1] rfl)
  · have h := nf_h hc h
    refine lv_iconst (v := (0 : Int32)) hx hb dX10_isInconsistent_28 (by decide) ?_
    refine lv_istore_n (lv' := [(3, .int (0 : Int32)), (0, .ref q_this), (1, .int x1), (2, .int x2)]) hx hb dX10_isInconsistent_29 rfl hl (by decide) rfl (fun ls hl => ?_)
    refine wl_Mo_isInconsistent_L30 C0 hQ (fun x3 H locs ls h w hl => ?_) _ _ _ _ _ h w (lv_sub hl [1, 2, 3, 0] rfl)
    obtain ⟨x2_1, ex2_1⟩ : ∃ y : Int32, y = (x2 + 1) := ⟨_, rfl⟩
    have h := bnd_at ex2_1 h
    refine lv_iinc (v := x2_1) (lv' := [(2, .int x2_1), (0, .ref q_this), (1, .int x1)]) hx hb dX10_isInconsistent_141 hl (k := 2) rfl (by rw [ex2_1]; rfl) (by decide) rfl (fun ls hl => ?_)
    refine lv_goto (tgt := 17) hx hb dX10_isInconsistent_144 (by decide) ?_
    exact hrec _ _ _ _ h w (lv_sub hl [1, 2, 0] rfl)
set_option maxRecDepth 100000 in
theorem wl_Mo_isInconsistent_L17 {p : Program} {l : Launch} {e : Env} {s : State} {m : MethodId} {args : Array Value} {below : List Frame} {meth : Method} {c : Code} {Q : State → Prop} {A : Nat → Prop} {D : va_G} {cI cJ cZ cO : ClassId} {q_this q_m q_saved q_w q_savedWords q_isSaved q_text q_far q_queue q_parent q_by q_seen q_path q_row q_more q_stateOf : Nat} {v_textLength : Int32} {v_steps : Int32} {v_missing : Int64} {v_mores : Int32} {v_hash : Int64} {v_m : (Nat → Int32)} {v_w : (Nat → Int64)} {v_row : (Nat → Int32)} {v_more : (Nat → Int64)} {x1 : Int32} {x : Int32 × (Nat → Int64) × Int32} (C0 : Cx p s m args c A D cI cJ cZ cO cX10_isInconsistent 6 RX10) (hQ : RtI p l e rm_Mo_isInconsistent s m args below meth c Q A D cX10_isInconsistent .boolean (ws_Mo_isInconsistent cI cJ cZ q_this q_m q_saved q_w q_savedWords q_isSaved q_text q_far q_queue q_parent q_by q_seen q_path q_row q_more q_stateOf v_textLength v_steps v_missing x.2.2 v_hash v_m v_w v_row x.2.1) x.1) {K : Int32 → Option (Int32 × (Nat → Int64) × Int32)} (hK : ∀ (x2 : Int32) (H : Heap) (locs : List Loc) (ls : Array Slot), K x2 = some x → Wd s A D (ws_Mo_isInconsistent cI cJ cZ q_this q_m q_saved q_w q_savedWords q_isSaved q_text q_far q_queue q_parent q_by q_seen q_path q_row q_more q_stateOf v_textLength v_steps v_missing v_mores v_hash v_m v_w v_row v_more) H locs → lv_has ls 6 [(0, .ref q_this), (1, .int x1)] → W p l e rm_Mo_isInconsistent s m args below meth c H locs 0 0 Q (F0 m 147 ls [])) : ∀ (n : Nat) (x2 : Int32) (H : Heap) (locs : List Loc) (ls : Array Slot), itr (fun _ => none) (f_Mo_isInconsistent_L17 v_m v_w v_row v_more x1 K) n x2 = some x → Wd s A D (ws_Mo_isInconsistent cI cJ cZ q_this q_m q_saved q_w q_savedWords q_isSaved q_text q_far q_queue q_parent q_by q_seen q_path q_row q_more q_stateOf v_textLength v_steps v_missing v_mores v_hash v_m v_w v_row v_more) H locs → lv_has ls 6 [(0, .ref q_this), (1, .int x1), (2, .int x2)] → W p l e rm_Mo_isInconsistent s m args below meth c H locs 0 0 Q (F0 m 17 ls []) := by
  intro n
  induction n with
  | zero => intro _ _ _ _ h; cases (show none = some _ from h)
  | succ n ih => intro _ _ _ _ h w hl; exact w_Mo_isInconsistent_L17 C0 hQ hK ih _ h w hl
set_option maxRecDepth 100000 in
theorem w_Mo_isInconsistent_L2 {p : Program} {l : Launch} {e : Env} {s : State} {m : MethodId} {args : Array Value} {below : List Frame} {meth : Method} {c : Code} {Q : State → Prop} {A : Nat → Prop} {D : va_G} {cI cJ cZ cO : ClassId} {q_this q_m q_saved q_w q_savedWords q_isSaved q_text q_far q_queue q_parent q_by q_seen q_path q_row q_more q_stateOf : Nat} {v_textLength : Int32} {v_steps : Int32} {v_missing : Int64} {v_mores : Int32} {v_hash : Int64} {v_m : (Nat → Int32)} {v_w : (Nat → Int64)} {v_row : (Nat → Int32)} {v_more : (Nat → Int64)} {x : Int32 × (Nat → Int64) × Int32} (C0 : Cx p s m args c A D cI cJ cZ cO cX10_isInconsistent 6 RX10) (hQ : RtI p l e rm_Mo_isInconsistent s m args below meth c Q A D cX10_isInconsistent .boolean (ws_Mo_isInconsistent cI cJ cZ q_this q_m q_saved q_w q_savedWords q_isSaved q_text q_far q_queue q_parent q_by q_seen q_path q_row q_more q_stateOf v_textLength v_steps v_missing x.2.2 v_hash v_m v_w v_row x.2.1) x.1) {K : Int32 → Option (Int32 × (Nat → Int64) × Int32)} (hK : ∀ (x1 : Int32) (H : Heap) (locs : List Loc) (ls : Array Slot), K x1 = some x → Wd s A D (ws_Mo_isInconsistent cI cJ cZ q_this q_m q_saved q_w q_savedWords q_isSaved q_text q_far q_queue q_parent q_by q_seen q_path q_row q_more q_stateOf v_textLength v_steps v_missing v_mores v_hash v_m v_w v_row v_more) H locs → lv_has ls 6 [] → W p l e rm_Mo_isInconsistent s m args below meth c H locs 0 0 Q (F0 m 153 ls [])) {rec : Int32 → Option (Int32 × (Nat → Int64) × Int32)} (hrec : ∀ (x1 : Int32) (H : Heap) (locs : List Loc) (ls : Array Slot), rec x1 = some x → Wd s A D (ws_Mo_isInconsistent cI cJ cZ q_this q_m q_saved q_w q_savedWords q_isSaved q_text q_far q_queue q_parent q_by q_seen q_path q_row q_more q_stateOf v_textLength v_steps v_missing v_mores v_hash v_m v_w v_row v_more) H locs → lv_has ls 6 [(0, .ref q_this), (1, .int x1)] → W p l e rm_Mo_isInconsistent s m args below meth c H locs 0 0 Q (F0 m 2 ls [])) (x1 : Int32) {H : Heap} {locs : List Loc} {ls : Array Slot} (h : f_Mo_isInconsistent_L2 v_m v_w v_row v_more K rec x1 = some x) (w : Wd s A D (ws_Mo_isInconsistent cI cJ cZ q_this q_m q_saved q_w q_savedWords q_isSaved q_text q_far q_queue q_parent q_by q_seen q_path q_row q_more q_stateOf v_textLength v_steps v_missing v_mores v_hash v_m v_w v_row v_more) H locs) (hl : lv_has ls 6 [(0, .ref q_this), (1, .int x1)]) : W p l e rm_Mo_isInconsistent s m args below meth c H locs 0 0 Q (F0 m 2 ls []) := by
  obtain ⟨hx, hb, hml, hown, hts, -, -⟩ := id C0
  unfold f_Mo_isInconsistent_L2 at h
  refine lv_iload_n hx hb dX10_isInconsistent_2 rfl (lv_at hl 1 rfl) ?_
  refine lv_aload_n hx hb dX10_isInconsistent_3 rfl (lv_at hl 0 rfl) ?_
  refine r_get C0 w 0 rfl kf_Mo 0 (by decide) lf_RX10_7 rfl dX10_isInconsistent_4 ?_
  refine lv_bipush (v := (38 : Int32)) hx hb dX10_isInconsistent_7 (by decide) ?_
  refine r_iald C0 w 1 rfl (k := 38) (by decide) (inl (by decide)) dX10_isInconsistent_9 ?_
  refine lv_icmp_ge (tgt := 153) hx hb dX10_isInconsistent_10 (by decide) (fun hc => ?_) (fun hc => ?_)
  · have h := if_h hc h
    exact hK _ _ _ _ h w (lv_sub hl [] rfl)
  · have h := nf_h hc h
    refine lv_iload_n hx hb dX10_isInconsistent_13 rfl (lv_at hl 1 rfl) ?_
    refine lv_iconst (v := (1 : Int32)) hx hb dX10_isInconsistent_14 (by decide) ?_
    refine lv_iadd hx hb dX10_isInconsistent_15 ?_
    refine lv_topi (fun x2 ex2 => ?_)
    have h := bnd_at ex2 h
    refine lv_istore_n (lv' := [(2, .int x2), (0, .ref q_this), (1, .int x1)]) hx hb dX10_isInconsistent_16 rfl hl (by decide) rfl (fun ls hl => ?_)
    refine wl_Mo_isInconsistent_L17 C0 hQ (fun x2_1 H locs ls h w hl => ?_) _ _ _ _ _ h w (lv_sub hl [1, 2, 0] rfl)
    obtain ⟨x1_1, ex1_1⟩ : ∃ y : Int32, y = (x1 + 1) := ⟨_, rfl⟩
    have h := bnd_at ex1_1 h
    refine lv_iinc (v := x1_1) (lv' := [(1, .int x1_1), (0, .ref q_this)]) hx hb dX10_isInconsistent_147 hl (k := 1) rfl (by rw [ex1_1]; rfl) (by decide) rfl (fun ls hl => ?_)
    refine lv_goto (tgt := 2) hx hb dX10_isInconsistent_150 (by decide) ?_
    exact hrec _ _ _ _ h w (lv_sub hl [1, 0] rfl)
set_option maxRecDepth 100000 in
theorem wl_Mo_isInconsistent_L2 {p : Program} {l : Launch} {e : Env} {s : State} {m : MethodId} {args : Array Value} {below : List Frame} {meth : Method} {c : Code} {Q : State → Prop} {A : Nat → Prop} {D : va_G} {cI cJ cZ cO : ClassId} {q_this q_m q_saved q_w q_savedWords q_isSaved q_text q_far q_queue q_parent q_by q_seen q_path q_row q_more q_stateOf : Nat} {v_textLength : Int32} {v_steps : Int32} {v_missing : Int64} {v_mores : Int32} {v_hash : Int64} {v_m : (Nat → Int32)} {v_w : (Nat → Int64)} {v_row : (Nat → Int32)} {v_more : (Nat → Int64)} {x : Int32 × (Nat → Int64) × Int32} (C0 : Cx p s m args c A D cI cJ cZ cO cX10_isInconsistent 6 RX10) (hQ : RtI p l e rm_Mo_isInconsistent s m args below meth c Q A D cX10_isInconsistent .boolean (ws_Mo_isInconsistent cI cJ cZ q_this q_m q_saved q_w q_savedWords q_isSaved q_text q_far q_queue q_parent q_by q_seen q_path q_row q_more q_stateOf v_textLength v_steps v_missing x.2.2 v_hash v_m v_w v_row x.2.1) x.1) {K : Int32 → Option (Int32 × (Nat → Int64) × Int32)} (hK : ∀ (x1 : Int32) (H : Heap) (locs : List Loc) (ls : Array Slot), K x1 = some x → Wd s A D (ws_Mo_isInconsistent cI cJ cZ q_this q_m q_saved q_w q_savedWords q_isSaved q_text q_far q_queue q_parent q_by q_seen q_path q_row q_more q_stateOf v_textLength v_steps v_missing v_mores v_hash v_m v_w v_row v_more) H locs → lv_has ls 6 [] → W p l e rm_Mo_isInconsistent s m args below meth c H locs 0 0 Q (F0 m 153 ls [])) : ∀ (n : Nat) (x1 : Int32) (H : Heap) (locs : List Loc) (ls : Array Slot), itr (fun _ => none) (f_Mo_isInconsistent_L2 v_m v_w v_row v_more K) n x1 = some x → Wd s A D (ws_Mo_isInconsistent cI cJ cZ q_this q_m q_saved q_w q_savedWords q_isSaved q_text q_far q_queue q_parent q_by q_seen q_path q_row q_more q_stateOf v_textLength v_steps v_missing v_mores v_hash v_m v_w v_row v_more) H locs → lv_has ls 6 [(0, .ref q_this), (1, .int x1)] → W p l e rm_Mo_isInconsistent s m args below meth c H locs 0 0 Q (F0 m 2 ls []) := by
  intro n
  induction n with
  | zero => intro _ _ _ _ h; cases (show none = some _ from h)
  | succ n ih => intro _ _ _ _ h w hl; exact w_Mo_isInconsistent_L2 C0 hQ hK ih _ h w hl
set_option maxRecDepth 100000 in
theorem c_Mo_isInconsistent {l : Launch} {D : va_G} {cI cJ cZ cO : ClassId} {q_this q_m q_saved q_w q_savedWords q_isSaved q_text q_far q_queue q_parent q_by q_seen q_path q_row q_more q_stateOf : Nat} {v_textLength : Int32} {v_steps : Int32} {v_missing : Int64} {v_mores : Int32} {v_hash : Int64} {v_m : (Nat → Int32)} {v_w : (Nat → Int64)} {v_row : (Nat → Int32)} {v_more : (Nat → Int64)} {x : Int32 × (Nat → Int64) × Int32} (h : f_Mo_isInconsistent v_mores v_m v_w v_row v_more = some x) : ctI l D cI cJ cZ cO yX10_isInconsistent cX10_isInconsistent 6 .boolean rm_Mo_isInconsistent [.ref q_this] (ws_Mo_isInconsistent cI cJ cZ q_this q_m q_saved q_w q_savedWords q_isSaved q_text q_far q_queue q_parent q_by q_seen q_path q_row q_more q_stateOf v_textLength v_steps v_missing v_mores v_hash v_m v_w v_row v_more) (ws_Mo_isInconsistent cI cJ cZ q_this q_m q_saved q_w q_savedWords q_isSaved q_text q_far q_queue q_parent q_by q_seen q_path q_row q_more q_stateOf v_textLength v_steps v_missing x.2.2 v_hash v_m v_w v_row x.2.1) x.1 := by
  refine ctI_of (by decide) (Nat.le_of_ble_eq_true rfl) ?_
  intro p e s m below meth c Q A ls C0 hQ w hl
  have hl : lv_has ls 6 [(0, .ref q_this)] := hl
  generalize List.toArray (α := Value) [.ref q_this] = args at C0 hQ ⊢
  obtain ⟨hx, hb, hml, hown, hts, -, -⟩ := id C0
  unfold f_Mo_isInconsistent at h
  refine lv_iconst (v := (0 : Int32)) hx hb dX10_isInconsistent_0 (by decide) ?_
  refine lv_istore_n (lv' := [(1, .int (0 : Int32)), (0, .ref q_this)]) hx hb dX10_isInconsistent_1 rfl hl (by decide) rfl (fun ls hl => ?_)
  refine wl_Mo_isInconsistent_L2 C0 hQ (fun x1 H locs ls h w hl => ?_) _ _ _ _ _ h w (lv_sub hl [1, 0] rfl)
  refine lv_iconst (v := (0 : Int32)) hx hb dX10_isInconsistent_153 (by decide) ?_
  cases h
  exact hQ _ _ _ _ dX10_isInconsistent_154 (gB_n (v := (0 : Int32)) (Or.inl rfl)) w
theorem dX10_forms_0 : decode cX10_forms 0 = .ok (.iconst 0, 1) := by decide +kernel
theorem dX10_forms_1 : decode cX10_forms 1 = .ok (.istore_n 1, 1) := by decide +kernel
theorem dX10_forms_2 : decode cX10_forms 2 = .ok (.iconst 0, 1) := by decide +kernel
theorem dX10_forms_3 : decode cX10_forms 3 = .ok (.istore_n 2, 1) := by decide +kernel
theorem dX10_forms_4 : decode cX10_forms 4 = .ok (.iload_n 2, 1) := by decide +kernel
theorem dX10_forms_5 : decode cX10_forms 5 = .ok (.aload_n 0, 1) := by decide +kernel
theorem dX10_forms_6 : decode cX10_forms 6 = .ok (.getfield 7, 3) := by decide +kernel
theorem dX10_forms_9 : decode cX10_forms 9 = .ok (.bipush 38, 2) := by decide +kernel
theorem dX10_forms_11 : decode cX10_forms 11 = .ok (.iaload, 1) := by decide +kernel
theorem dX10_forms_12 : decode cX10_forms 12 = .ok (.if_icmp .ge 78, 3) := by decide +kernel
theorem dX10_forms_15 : decode cX10_forms 15 = .ok (.aload_n 0, 1) := by decide +kernel
theorem dX10_forms_16 : decode cX10_forms 16 = .ok (.aload_n 0, 1) := by decide +kernel
theorem dX10_forms_17 : decode cX10_forms 17 = .ok (.getfield 48, 3) := by decide +kernel
theorem dX10_forms_20 : decode cX10_forms 20 = .ok (.iload_n 2, 1) := by decide +kernel
theorem dX10_forms_21 : decode cX10_forms 21 = .ok (.iaload, 1) := by decide +kernel
theorem dX10_forms_22 : decode cX10_forms 22 = .ok (.invokevirtual 156, 3) := by decide +kernel
theorem dX10_forms_25 : decode cX10_forms 25 = .ok (.istore_n 3, 1) := by decide +kernel
theorem dX10_forms_26 : decode cX10_forms 26 = .ok (.aload_n 0, 1) := by decide +kernel
theorem dX10_forms_27 : decode cX10_forms 27 = .ok (.getfield 54, 3) := by decide +kernel
theorem dX10_forms_30 : decode cX10_forms 30 = .ok (.iload_n 2, 1) := by decide +kernel
theorem dX10_forms_31 : decode cX10_forms 31 = .ok (.iload_n 3, 1) := by decide +kernel
theorem dX10_forms_32 : decode cX10_forms 32 = .ok (.iload_n 2, 1) := by decide +kernel
theorem dX10_forms_33 : decode cX10_forms 33 = .ok (.if_icmp .ne 7, 3) := by decide +kernel
theorem dX10_forms_36 : decode cX10_forms 36 = .ok (.iload_n 1, 1) := by decide +kernel
theorem dX10_forms_37 : decode cX10_forms 37 = .ok (.goto 9, 3) := by decide +kernel
theorem dX10_forms_40 : decode cX10_forms 40 = .ok (.aload_n 0, 1) := by decide +kernel
theorem dX10_forms_41 : decode cX10_forms 41 = .ok (.getfield 54, 3) := by decide +kernel
theorem dX10_forms_44 : decode cX10_forms 44 = .ok (.iload_n 3, 1) := by decide +kernel
theorem dX10_forms_45 : decode cX10_forms 45 = .ok (.iaload, 1) := by decide +kernel
theorem dX10_forms_46 : decode cX10_forms 46 = .ok (.iastore, 1) := by decide +kernel
theorem dX10_forms_47 : decode cX10_forms 47 = .ok (.iload_n 3, 1) := by decide +kernel
theorem dX10_forms_48 : decode cX10_forms 48 = .ok (.iload_n 2, 1) := by decide +kernel
theorem dX10_forms_49 : decode cX10_forms 49 = .ok (.if_icmp .ne 35, 3) := by decide +kernel
theorem dX10_forms_52 : decode cX10_forms 52 = .ok (.aload_n 0, 1) := by decide +kernel
theorem dX10_forms_53 : decode cX10_forms 53 = .ok (.getfield 7, 3) := by decide +kernel
theorem dX10_forms_56 : decode cX10_forms 56 = .ok (.sipush 521, 3) := by decide +kernel
theorem dX10_forms_59 : decode cX10_forms 59 = .ok (.iload_n 1, 1) := by decide +kernel
theorem dX10_forms_60 : decode cX10_forms 60 = .ok (.iadd, 1) := by decide +kernel
theorem dX10_forms_61 : decode cX10_forms 61 = .ok (.iload_n 2, 1) := by decide +kernel
theorem dX10_forms_62 : decode cX10_forms 62 = .ok (.iastore, 1) := by decide +kernel
theorem dX10_forms_63 : decode cX10_forms 63 = .ok (.aload_n 0, 1) := by decide +kernel
theorem dX10_forms_64 : decode cX10_forms 64 = .ok (.getfield 7, 3) := by decide +kernel
theorem dX10_forms_67 : decode cX10_forms 67 = .ok (.sipush 481, 3) := by decide +kernel
theorem dX10_forms_70 : decode cX10_forms 70 = .ok (.iload_n 1, 1) := by decide +kernel
theorem dX10_forms_71 : decode cX10_forms 71 = .ok (.iadd, 1) := by decide +kernel
theorem dX10_forms_72 : decode cX10_forms 72 = .ok (.aload_n 0, 1) := by decide +kernel
theorem dX10_forms_73 : decode cX10_forms 73 = .ok (.getfield 48, 3) := by decide +kernel
theorem dX10_forms_76 : decode cX10_forms 76 = .ok (.iload_n 2, 1) := by decide +kernel
theorem dX10_forms_77 : decode cX10_forms 77 = .ok (.iaload, 1) := by decide +kernel
theorem dX10_forms_78 : decode cX10_forms 78 = .ok (.iconst 1, 1) := by decide +kernel
theorem dX10_forms_79 : decode cX10_forms 79 = .ok (.iand, 1) := by decide +kernel
theorem dX10_forms_80 : decode cX10_forms 80 = .ok (.iastore, 1) := by decide +kernel
theorem dX10_forms_81 : decode cX10_forms 81 = .ok (.iinc 1 1, 3) := by decide +kernel
theorem dX10_forms_84 : decode cX10_forms 84 = .ok (.iinc 2 1, 3) := by decide +kernel
theorem dX10_forms_87 : decode cX10_forms 87 = .ok (.goto (-83), 3) := by decide +kernel
theorem dX10_forms_90 : decode cX10_forms 90 = .ok (.iconst 0, 1) := by decide +kernel
theorem dX10_forms_91 : decode cX10_forms 91 = .ok (.istore_n 2, 1) := by decide +kernel
theorem dX10_forms_92 : decode cX10_forms 92 = .ok (.iload_n 2, 1) := by decide +kernel
theorem dX10_forms_93 : decode cX10_forms 93 = .ok (.iload_n 1, 1) := by decide +kernel
theorem dX10_forms_94 : decode cX10_forms 94 = .ok (.if_icmp .ge 70, 3) := by decide +kernel
theorem dX10_forms_97 : decode cX10_forms 97 = .ok (.iconst 0, 1) := by decide +kernel
theorem dX10_forms_98 : decode cX10_forms 98 = .ok (.istore_n 3, 1) := by decide +kernel
theorem dX10_forms_99 : decode cX10_forms 99 = .ok (.iload_n 3, 1) := by decide +kernel
theorem dX10_forms_100 : decode cX10_forms 100 = .ok (.aload_n 0, 1) := by decide +kernel
theorem dX10_forms_101 : decode cX10_forms 101 = .ok (.getfield 7, 3) := by decide +kernel
theorem dX10_forms_104 : decode cX10_forms 104 = .ok (.iconst 1, 1) := by decide +kernel
theorem dX10_forms_105 : decode cX10_forms 105 = .ok (.iaload, 1) := by decide +kernel
theorem dX10_forms_106 : decode cX10_forms 106 = .ok (.if_icmp .ge 52, 3) := by decide +kernel
theorem dX10_forms_109 : decode cX10_forms 109 = .ok (.aload_n 0, 1) := by decide +kernel
theorem dX10_forms_110 : decode cX10_forms 110 = .ok (.getfield 7, 3) := by decide +kernel
theorem dX10_forms_113 : decode cX10_forms 113 = .ok (.sipush 361, 3) := by decide +kernel
theorem dX10_forms_116 : decode cX10_forms 116 = .ok (.iconst 3, 1) := by decide +kernel
theorem dX10_forms_117 : decode cX10_forms 117 = .ok (.iload_n 2, 1) := by decide +kernel
theorem dX10_forms_118 : decode cX10_forms 118 = .ok (.imul, 1) := by decide +kernel
theorem dX10_forms_119 : decode cX10_forms 119 = .ok (.iadd, 1) := by decide +kernel
theorem dX10_forms_120 : decode cX10_forms 120 = .ok (.iload_n 3, 1) := by decide +kernel
theorem dX10_forms_121 : decode cX10_forms 121 = .ok (.iadd, 1) := by decide +kernel
theorem dX10_forms_122 : decode cX10_forms 122 = .ok (.aload_n 0, 1) := by decide +kernel
theorem dX10_forms_123 : decode cX10_forms 123 = .ok (.getfield 54, 3) := by decide +kernel
theorem dX10_forms_126 : decode cX10_forms 126 = .ok (.aload_n 0, 1) := by decide +kernel
theorem dX10_forms_127 : decode cX10_forms 127 = .ok (.aload_n 0, 1) := by decide +kernel
theorem dX10_forms_128 : decode cX10_forms 128 = .ok (.getfield 48, 3) := by decide +kernel
theorem dX10_forms_131 : decode cX10_forms 131 = .ok (.aload_n 0, 1) := by decide +kernel
theorem dX10_forms_132 : decode cX10_forms 132 = .ok (.aload_n 0, 1) := by decide +kernel
theorem dX10_forms_133 : decode cX10_forms 133 = .ok (.getfield 7, 3) := by decide +kernel
theorem dX10_forms_136 : decode cX10_forms 136 = .ok (.sipush 521, 3) := by decide +kernel
theorem dX10_forms_139 : decode cX10_forms 139 = .ok (.iload_n 2, 1) := by decide +kernel
theorem dX10_forms_140 : decode cX10_forms 140 = .ok (.iadd, 1) := by decide +kernel
theorem dX10_forms_141 : decode cX10_forms 141 = .ok (.iaload, 1) := by decide +kernel
theorem dX10_forms_142 : decode cX10_forms 142 = .ok (.iload_n 3, 1) := by decide +kernel
theorem dX10_forms_143 : decode cX10_forms 143 = .ok (.invokevirtual 159, 3) := by decide +kernel
theorem dX10_forms_146 : decode cX10_forms 146 = .ok (.iaload, 1) := by decide +kernel
theorem dX10_forms_147 : decode cX10_forms 147 = .ok (.invokevirtual 156, 3) := by decide +kernel
theorem dX10_forms_150 : decode cX10_forms 150 = .ok (.iaload, 1) := by decide +kernel
theorem dX10_forms_151 : decode cX10_forms 151 = .ok (.iastore, 1) := by decide +kernel
theorem dX10_forms_152 : decode cX10_forms 152 = .ok (.iinc 3 1, 3) := by decide +kernel
theorem dX10_forms_155 : decode cX10_forms 155 = .ok (.goto (-56), 3) := by decide +kernel
theorem dX10_forms_158 : decode cX10_forms 158 = .ok (.iinc 2 1, 3) := by decide +kernel
theorem dX10_forms_161 : decode cX10_forms 161 = .ok (.goto (-69), 3) := by decide +kernel
theorem dX10_forms_164 : decode cX10_forms 164 = .ok (.aload_n 0, 1) := by decide +kernel
theorem dX10_forms_165 : decode cX10_forms 165 = .ok (.getfield 7, 3) := by decide +kernel
theorem dX10_forms_168 : decode cX10_forms 168 = .ok (.bipush 40, 2) := by decide +kernel
theorem dX10_forms_170 : decode cX10_forms 170 = .ok (.iload_n 1, 1) := by decide +kernel
theorem dX10_forms_171 : decode cX10_forms 171 = .ok (.iastore, 1) := by decide +kernel
theorem dX10_forms_172 : decode cX10_forms 172 = .ok (.aload_n 0, 1) := by decide +kernel
theorem dX10_forms_173 : decode cX10_forms 173 = .ok (.getfield 7, 3) := by decide +kernel
theorem dX10_forms_176 : decode cX10_forms 176 = .ok (.bipush 41, 2) := by decide +kernel
theorem dX10_forms_178 : decode cX10_forms 178 = .ok (.iconst 1, 1) := by decide +kernel
theorem dX10_forms_179 : decode cX10_forms 179 = .ok (.iastore, 1) := by decide +kernel
theorem dX10_forms_180 : decode cX10_forms 180 = .ok (.return_, 1) := by decide +kernel
set_option maxRecDepth 100000 in
theorem w_Mo_forms_J84 {p : Program} {l : Launch} {e : Env} {s : State} {m : MethodId} {args : Array Value} {below : List Frame} {meth : Method} {c : Code} {Q : State → Prop} {A : Nat → Prop} {D : va_G} {cI cJ cZ cO : ClassId} {q_this q_m q_saved q_w q_savedWords q_isSaved q_text q_far q_queue q_parent q_by q_seen q_path q_row q_more q_stateOf : Nat} {v_textLength : Int32} {v_steps : Int32} {v_missing : Int64} {v_mores : Int32} {v_hash : Int64} {v_m : (Nat → Int32)} {v_row : (Nat → Int32)} {v_stateOf : (Nat → Int32)} {x : (Nat → Int32) × (Nat → Int32)} {x1 : Int32} {x2 : Int32} (C0 : Cx p s m args c A D cI cJ cZ cO cX10_forms 4 RX10) (hQ : RtV p l e rm_Mo_forms s m args below meth c Q A D cX10_forms (ws_Mo_forms cI cJ cZ q_this q_m q_saved q_w q_savedWords q_isSaved q_text q_far q_queue q_parent q_by q_seen q_path q_row q_more q_stateOf v_textLength v_steps v_missing v_mores v_hash x.1 v_row x.2)) {K : Int32 → Int32 → (Nat → Int32) → (Nat → Int32) → Option ((Nat → Int32) × (Nat → Int32))} (hK : ∀ (y1 : Int32) (y2 : Int32) (u_m : (Nat → Int32)) (u_stateOf : (Nat → Int32)) (H : Heap) (locs : List Loc) (ls : Array Slot), K y1 y2 u_m u_stateOf = some x → Wd s A D (ws_Mo_forms cI cJ cZ q_this q_m q_saved q_w q_savedWords q_isSaved q_text q_far q_queue q_parent q_by q_seen q_path q_row q_more q_stateOf v_textLength v_steps v_missing v_mores v_hash u_m v_row u_stateOf) H locs → lv_has ls 4 [(0, .ref q_this), (1, .int y1)] → W p l e rm_Mo_forms s m args below meth c H locs 0 0 Q (F0 m 90 ls [])) {rec : Int32 → Int32 → (Nat → Int32) → (Nat → Int32) → Option ((Nat → Int32) × (Nat → Int32))} (hrec : ∀ (y1 : Int32) (y2 : Int32) (u_m : (Nat → Int32)) (u_stateOf : (Nat → Int32)) (H : Heap) (locs : List Loc) (ls : Array Slot), rec y1 y2 u_m u_stateOf = some x → Wd s A D (ws_Mo_forms cI cJ cZ q_this q_m q_saved q_w q_savedWords q_isSaved q_text q_far q_queue q_parent q_by q_seen q_path q_row q_more q_stateOf v_textLength v_steps v_missing v_mores v_hash u_m v_row u_stateOf) H locs → lv_has ls 4 [(0, .ref q_this), (1, .int y1), (2, .int y2)] → W p l e rm_Mo_forms s m args below meth c H locs 0 0 Q (F0 m 4 ls [])) {H : Heap} {locs : List Loc} {ls : Array Slot} (h : f_Mo_forms_J84 rec x1 x2 v_m v_stateOf = some x) (w : Wd s A D (ws_Mo_forms cI cJ cZ q_this q_m q_saved q_w q_savedWords q_isSaved q_text q_far q_queue q_parent q_by q_seen q_path q_row q_more q_stateOf v_textLength v_steps v_missing v_mores v_hash v_m v_row v_stateOf) H locs) (hl : lv_has ls 4 [(0, .ref q_this), (1, .int x1), (2, .int x2)]) : W p l e rm_Mo_forms s m args below meth c H locs 0 0 Q (F0 m 84 ls []) := by
  obtain ⟨hx, hb, hml, hown, hts, -, -⟩ := id C0
  unfold f_Mo_forms_J84 at h
  obtain ⟨x2_1, ex2_1⟩ : ∃ y : Int32, y = (x2 + 1) := ⟨_, rfl⟩
  have h := bnd_at ex2_1 h
  refine lv_iinc (v := x2_1) (lv' := [(2, .int x2_1), (0, .ref q_this), (1, .int x1)]) hx hb dX10_forms_84 hl (k := 2) rfl (by rw [ex2_1]; rfl) (by decide) rfl (fun ls hl => ?_)
  refine lv_goto (tgt := 4) hx hb dX10_forms_87 (by decide) ?_
  exact hrec _ _ _ _ _ _ _ h w (lv_sub hl [1, 2, 0] rfl)
set_option maxRecDepth 100000 in
theorem w_Mo_forms_J46 {p : Program} {l : Launch} {e : Env} {s : State} {m : MethodId} {args : Array Value} {below : List Frame} {meth : Method} {c : Code} {Q : State → Prop} {A : Nat → Prop} {D : va_G} {cI cJ cZ cO : ClassId} {q_this q_m q_saved q_w q_savedWords q_isSaved q_text q_far q_queue q_parent q_by q_seen q_path q_row q_more q_stateOf : Nat} {v_textLength : Int32} {v_steps : Int32} {v_missing : Int64} {v_mores : Int32} {v_hash : Int64} {v_m : (Nat → Int32)} {v_row : (Nat → Int32)} {v_stateOf : (Nat → Int32)} {x : (Nat → Int32) × (Nat → Int32)} {x1 : Int32} {x2 : Int32} {x3 : Int32} {s1 : Int32} {s2 : Int32} (C0 : Cx p s m args c A D cI cJ cZ cO cX10_forms 4 RX10) (hQ : RtV p l e rm_Mo_forms s m args below meth c Q A D cX10_forms (ws_Mo_forms cI cJ cZ q_this q_m q_saved q_w q_savedWords q_isSaved q_text q_far q_queue q_parent q_by q_seen q_path q_row q_more q_stateOf v_textLength v_steps v_missing v_mores v_hash x.1 v_row x.2)) {K : Int32 → Int32 → (Nat → Int32) → (Nat → Int32) → Option ((Nat → Int32) × (Nat → Int32))} (hK : ∀ (y1 : Int32) (y2 : Int32) (u_m : (Nat → Int32)) (u_stateOf : (Nat → Int32)) (H : Heap) (locs : List Loc) (ls : Array Slot), K y1 y2 u_m u_stateOf = some x → Wd s A D (ws_Mo_forms cI cJ cZ q_this q_m q_saved q_w q_savedWords q_isSaved q_text q_far q_queue q_parent q_by q_seen q_path q_row q_more q_stateOf v_textLength v_steps v_missing v_mores v_hash u_m v_row u_stateOf) H locs → lv_has ls 4 [(0, .ref q_this), (1, .int y1)] → W p l e rm_Mo_forms s m args below meth c H locs 0 0 Q (F0 m 90 ls [])) {rec : Int32 → Int32 → (Nat → Int32) → (Nat → Int32) → Option ((Nat → Int32) × (Nat → Int32))} (hrec : ∀ (y1 : Int32) (y2 : Int32) (u_m : (Nat → Int32)) (u_stateOf : (Nat → Int32)) (H : Heap) (locs : List Loc) (ls : Array Slot), rec y1 y2 u_m u_stateOf = some x → Wd s A D (ws_Mo_forms cI cJ cZ q_this q_m q_saved q_w q_savedWords q_isSaved q_text q_far q_queue q_parent q_by q_seen q_path q_row q_more q_stateOf v_textLength v_steps v_missing v_mores v_hash u_m v_row u_stateOf) H locs → lv_has ls 4 [(0, .ref q_this), (1, .int y1), (2, .int y2)] → W p l e rm_Mo_forms s m args below meth c H locs 0 0 Q (F0 m 4 ls [])) {H : Heap} {locs : List Loc} {ls : Array Slot} (h : f_Mo_forms_J46 rec x1 x2 x3 s1 s2 v_m v_row v_stateOf = some x) (w : Wd s A D (ws_Mo_forms cI cJ cZ q_this q_m q_saved q_w q_savedWords q_isSaved q_text q_far q_queue q_parent q_by q_seen q_path q_row q_more q_stateOf v_textLength v_steps v_missing v_mores v_hash v_m v_row v_stateOf) H locs) (hl : lv_has ls 4 [(0, .ref q_this), (1, .int x1), (2, .int x2), (3, .int x3)]) : W p l e rm_Mo_forms s m args below meth c H locs 0 0 Q (F0 m 46 ls [.int s2, .int s1, .ref q_stateOf]) := by
  obtain ⟨hx, hb, hml, hown, hts, -, -⟩ := id C0
  unfold f_Mo_forms_J46 at h
  obtain ⟨hi, h⟩ := gIn_h h
  obtain ⟨v_stateOf_1, ev_stateOf_1⟩ : ∃ y, y = (upd v_stateOf s1.toNatClampNeg s2) := ⟨_, rfl⟩
  have h := bnd_at ev_stateOf_1 h
  refine r_iast C0 w 3 rfl (f' := v_stateOf_1) rfl hi ev_stateOf_1 dX10_forms_46 (ws' := (ws_Mo_forms cI cJ cZ q_this q_m q_saved q_w q_savedWords q_isSaved q_text q_far q_queue q_parent q_by q_seen q_path q_row q_more q_stateOf v_textLength v_steps v_missing v_mores v_hash v_m v_row v_stateOf_1)) rfl (fun H locs w => ?_)
  refine lv_iload_n hx hb dX10_forms_47 rfl (lv_at hl 3 rfl) ?_
  refine lv_iload_n hx hb dX10_forms_48 rfl (lv_at hl 2 rfl) ?_
  refine lv_icmp_ne (tgt := 84) hx hb dX10_forms_49 (by decide) (fun hc => ?_) (fun hc => ?_)
  · have h := nf_h hc h
    exact w_Mo_forms_J84 C0 hQ hK hrec h w (lv_sub hl [0, 1, 2] rfl)
  · have h := if_h hc h
    refine lv_aload_n hx hb dX10_forms_52 rfl (lv_at hl 0 rfl) ?_
    refine r_get C0 w 0 rfl kf_Mo 0 (by decide) lf_RX10_7 rfl dX10_forms_53 ?_
    refine lv_sipush (v := (521 : Int32)) hx hb dX10_forms_56 (by decide) ?_
    refine lv_iload_n hx hb dX10_forms_59 rfl (lv_at hl 1 rfl) ?_
    refine lv_iadd hx hb dX10_forms_60 ?_
    refine lv_iload_n hx hb dX10_forms_61 rfl (lv_at hl 2 rfl) ?_
    obtain ⟨hi, h⟩ := gIn_h h
    obtain ⟨v_m_1, ev_m_1⟩ : ∃ y, y = (upd v_m ((521 : Int32) + x1).toNatClampNeg x2) := ⟨_, rfl⟩
    have h := bnd_at ev_m_1 h
    refine r_iast C0 w 1 rfl (f' := v_m_1) rfl hi ev_m_1 dX10_forms_62 (ws' := (ws_Mo_forms cI cJ cZ q_this q_m q_saved q_w q_savedWords q_isSaved q_text q_far q_queue q_parent q_by q_seen q_path q_row q_more q_stateOf v_textLength v_steps v_missing v_mores v_hash v_m_1 v_row v_stateOf_1)) rfl (fun H locs w => ?_)
    refine lv_aload_n hx hb dX10_forms_63 rfl (lv_at hl 0 rfl) ?_
    refine r_get C0 w 0 rfl kf_Mo 0 (by decide) lf_RX10_7 rfl dX10_forms_64 ?_
    refine lv_sipush (v := (481 : Int32)) hx hb dX10_forms_67 (by decide) ?_
    refine lv_iload_n hx hb dX10_forms_70 rfl (lv_at hl 1 rfl) ?_
    refine lv_iadd hx hb dX10_forms_71 ?_
    refine lv_aload_n hx hb dX10_forms_72 rfl (lv_at hl 0 rfl) ?_
    refine r_get C0 w 0 rfl kf_Mo 14 (by decide) lf_RX10_48 rfl dX10_forms_73 ?_
    refine lv_iload_n hx hb dX10_forms_76 rfl (lv_at hl 2 rfl) ?_
    obtain ⟨hi, h⟩ := gIn_h h
    refine r_iald C0 w 2 rfl rfl hi dX10_forms_77 ?_
    refine lv_iconst (v := (1 : Int32)) hx hb dX10_forms_78 (by decide) ?_
    refine lv_iand hx hb dX10_forms_79 ?_
    obtain ⟨hi, h⟩ := gIn_h h
    obtain ⟨v_m_2, ev_m_2⟩ : ∃ y, y = (upd v_m_1 ((481 : Int32) + x1).toNatClampNeg ((v_row x2.toNatClampNeg) &&& (1 : Int32))) := ⟨_, rfl⟩
    have h := bnd_at ev_m_2 h
    refine r_iast C0 w 1 rfl (f' := v_m_2) rfl hi ev_m_2 dX10_forms_80 (ws' := (ws_Mo_forms cI cJ cZ q_this q_m q_saved q_w q_savedWords q_isSaved q_text q_far q_queue q_parent q_by q_seen q_path q_row q_more q_stateOf v_textLength v_steps v_missing v_mores v_hash v_m_2 v_row v_stateOf_1)) rfl (fun H locs w => ?_)
    obtain ⟨x1_1, ex1_1⟩ : ∃ y : Int32, y = (x1 + 1) := ⟨_, rfl⟩
    have h := bnd_at ex1_1 h
    refine lv_iinc (v := x1_1) (lv' := [(1, .int x1_1), (0, .ref q_this), (2, .int x2), (3, .int x3)]) hx hb dX10_forms_81 hl (k := 1) rfl (by rw [ex1_1]; rfl) (by decide) rfl (fun ls hl => ?_)
    exact w_Mo_forms_J84 C0 hQ hK hrec h w (lv_sub hl [1, 0, 2] rfl)
set_option maxRecDepth 100000 in
theorem w_Mo_forms_L4 {p : Program} {l : Launch} {e : Env} {s : State} {m : MethodId} {args : Array Value} {below : List Frame} {meth : Method} {c : Code} {Q : State → Prop} {A : Nat → Prop} {D : va_G} {cI cJ cZ cO : ClassId} {q_this q_m q_saved q_w q_savedWords q_isSaved q_text q_far q_queue q_parent q_by q_seen q_path q_row q_more q_stateOf : Nat} {v_textLength : Int32} {v_steps : Int32} {v_missing : Int64} {v_mores : Int32} {v_hash : Int64} {v_row : (Nat → Int32)} {x : (Nat → Int32) × (Nat → Int32)} (C0 : Cx p s m args c A D cI cJ cZ cO cX10_forms 4 RX10) (hQ : RtV p l e rm_Mo_forms s m args below meth c Q A D cX10_forms (ws_Mo_forms cI cJ cZ q_this q_m q_saved q_w q_savedWords q_isSaved q_text q_far q_queue q_parent q_by q_seen q_path q_row q_more q_stateOf v_textLength v_steps v_missing v_mores v_hash x.1 v_row x.2)) {K : Int32 → Int32 → (Nat → Int32) → (Nat → Int32) → Option ((Nat → Int32) × (Nat → Int32))} (hK : ∀ (x1 : Int32) (x2 : Int32) (v_m : (Nat → Int32)) (v_stateOf : (Nat → Int32)) (H : Heap) (locs : List Loc) (ls : Array Slot), K x1 x2 v_m v_stateOf = some x → Wd s A D (ws_Mo_forms cI cJ cZ q_this q_m q_saved q_w q_savedWords q_isSaved q_text q_far q_queue q_parent q_by q_seen q_path q_row q_more q_stateOf v_textLength v_steps v_missing v_mores v_hash v_m v_row v_stateOf) H locs → lv_has ls 4 [(0, .ref q_this), (1, .int x1)] → W p l e rm_Mo_forms s m args below meth c H locs 0 0 Q (F0 m 90 ls [])) {rec : Int32 → Int32 → (Nat → Int32) → (Nat → Int32) → Option ((Nat → Int32) × (Nat → Int32))} (hrec : ∀ (x1 : Int32) (x2 : Int32) (v_m : (Nat → Int32)) (v_stateOf : (Nat → Int32)) (H : Heap) (locs : List Loc) (ls : Array Slot), rec x1 x2 v_m v_stateOf = some x → Wd s A D (ws_Mo_forms cI cJ cZ q_this q_m q_saved q_w q_savedWords q_isSaved q_text q_far q_queue q_parent q_by q_seen q_path q_row q_more q_stateOf v_textLength v_steps v_missing v_mores v_hash v_m v_row v_stateOf) H locs → lv_has ls 4 [(0, .ref q_this), (1, .int x1), (2, .int x2)] → W p l e rm_Mo_forms s m args below meth c H locs 0 0 Q (F0 m 4 ls [])) (x1 : Int32) (x2 : Int32) (v_m : (Nat → Int32)) (v_stateOf : (Nat → Int32)) {H : Heap} {locs : List Loc} {ls : Array Slot} (h : f_Mo_forms_L4 v_row K rec x1 x2 v_m v_stateOf = some x) (w : Wd s A D (ws_Mo_forms cI cJ cZ q_this q_m q_saved q_w q_savedWords q_isSaved q_text q_far q_queue q_parent q_by q_seen q_path q_row q_more q_stateOf v_textLength v_steps v_missing v_mores v_hash v_m v_row v_stateOf) H locs) (hl : lv_has ls 4 [(0, .ref q_this), (1, .int x1), (2, .int x2)]) : W p l e rm_Mo_forms s m args below meth c H locs 0 0 Q (F0 m 4 ls []) := by
  obtain ⟨hx, hb, hml, hown, hts, -, -⟩ := id C0
  unfold f_Mo_forms_L4 at h
  refine lv_iload_n hx hb dX10_forms_4 rfl (lv_at hl 2 rfl) ?_
  refine lv_aload_n hx hb dX10_forms_5 rfl (lv_at hl 0 rfl) ?_
  refine r_get C0 w 0 rfl kf_Mo 0 (by decide) lf_RX10_7 rfl dX10_forms_6 ?_
  refine lv_bipush (v := (38 : Int32)) hx hb dX10_forms_9 (by decide) ?_
  refine r_iald C0 w 1 rfl (k := 38) (by decide) (inl (by decide)) dX10_forms_11 ?_
  refine lv_icmp_ge (tgt := 90) hx hb dX10_forms_12 (by decide) (fun hc => ?_) (fun hc => ?_)
  · have h := if_h hc h
    exact hK _ _ _ _ _ _ _ h w (lv_sub hl [0, 1] rfl)
  · have h := nf_h hc h
    refine lv_aload_n hx hb dX10_forms_15 rfl (lv_at hl 0 rfl) ?_
    refine lv_aload_n hx hb dX10_forms_16 rfl (lv_at hl 0 rfl) ?_
    refine r_get C0 w 0 rfl kf_Mo 14 (by decide) lf_RX10_48 rfl dX10_forms_17 ?_
    refine lv_iload_n hx hb dX10_forms_20 rfl (lv_at hl 2 rfl) ?_
    obtain ⟨hi, h⟩ := gIn_h h
    refine r_iald C0 w 2 rfl rfl hi dX10_forms_21 ?_
    obtain ⟨r, hcall, h⟩ := bd1_h h
    obtain ⟨wr, hp, hp'⟩ := rd_of (ws := (ws_Mo_forms cI cJ cZ q_this q_m q_saved q_w q_savedWords q_isSaved q_text q_far q_queue q_parent q_by q_seen q_path q_row q_more q_stateOf v_textLength v_steps v_missing v_mores v_hash v_m v_row v_stateOf)) (wc := (ws_Mo_rowOfPrefix cI cJ cZ q_this q_m q_saved q_w q_savedWords q_isSaved q_text q_far q_queue q_parent q_by q_seen q_path q_row q_more q_stateOf v_textLength v_steps v_missing v_mores v_hash v_m v_row)) [0, 1, 2] rfl rfl
    refine r_VI (r := r) (As := [.int (v_row x2.toNatClampNeg)]) (rest := []) (wc' := (ws_Mo_rowOfPrefix cI cJ cZ q_this q_m q_saved q_w q_savedWords q_isSaved q_text q_far q_queue q_parent q_by q_seen q_path q_row q_more q_stateOf v_textLength v_steps v_missing v_mores v_hash v_m v_row)) (ws' := (ws_Mo_forms cI cJ cZ q_this q_m q_saved q_w q_savedWords q_isSaved q_text q_far q_queue q_parent q_by q_seen q_path q_row q_more q_stateOf v_textLength v_steps v_missing v_mores v_hash v_m v_row v_stateOf)) C0 w (c_Mo_rowOfPrefix hcall) hp hp' lm_RX10_156 mv_Mo_rowOfPrefix ⟨rfl, rfl⟩ ⟨by decide, by decide⟩ ⟨Nat.zero_le _, Nat.zero_le _⟩ (q0 := 0) rfl rfl rfl rfl hl rfl (Nat.le_of_ble_eq_true rfl) dX10_forms_22 (fun H locs w => ?_)
    refine lv_istore_n (lv' := [(3, .int r), (0, .ref q_this), (1, .int x1), (2, .int x2)]) hx hb dX10_forms_25 rfl hl (by decide) rfl (fun ls hl => ?_)
    refine lv_aload_n hx hb dX10_forms_26 rfl (lv_at hl 1 rfl) ?_
    refine r_get C0 w 0 rfl kf_Mo 18 (by decide) lf_RX10_54 rfl dX10_forms_27 ?_
    refine lv_iload_n hx hb dX10_forms_30 rfl (lv_at hl 3 rfl) ?_
    refine lv_iload_n hx hb dX10_forms_31 rfl (lv_at hl 0 rfl) ?_
    refine lv_iload_n hx hb dX10_forms_32 rfl (lv_at hl 3 rfl) ?_
    refine lv_icmp_ne (tgt := 40) hx hb dX10_forms_33 (by decide) (fun hc => ?_) (fun hc => ?_)
    · have h := nf_h hc h
      refine lv_aload_n hx hb dX10_forms_40 rfl (lv_at hl 1 rfl) ?_
      refine r_get C0 w 0 rfl kf_Mo 18 (by decide) lf_RX10_54 rfl dX10_forms_41 ?_
      refine lv_iload_n hx hb dX10_forms_44 rfl (lv_at hl 0 rfl) ?_
      obtain ⟨hi, h⟩ := gIn_h h
      refine r_iald C0 w 3 rfl rfl hi dX10_forms_45 ?_
      exact w_Mo_forms_J46 C0 hQ hK hrec h w (lv_sub hl [1, 2, 3, 0] rfl)
    · have h := if_h hc h
      refine lv_iload_n hx hb dX10_forms_36 rfl (lv_at hl 2 rfl) ?_
      refine lv_goto (tgt := 46) hx hb dX10_forms_37 (by decide) ?_
      exact w_Mo_forms_J46 C0 hQ hK hrec h w (lv_sub hl [1, 2, 3, 0] rfl)
set_option maxRecDepth 100000 in
theorem wl_Mo_forms_L4 {p : Program} {l : Launch} {e : Env} {s : State} {m : MethodId} {args : Array Value} {below : List Frame} {meth : Method} {c : Code} {Q : State → Prop} {A : Nat → Prop} {D : va_G} {cI cJ cZ cO : ClassId} {q_this q_m q_saved q_w q_savedWords q_isSaved q_text q_far q_queue q_parent q_by q_seen q_path q_row q_more q_stateOf : Nat} {v_textLength : Int32} {v_steps : Int32} {v_missing : Int64} {v_mores : Int32} {v_hash : Int64} {v_row : (Nat → Int32)} {x : (Nat → Int32) × (Nat → Int32)} (C0 : Cx p s m args c A D cI cJ cZ cO cX10_forms 4 RX10) (hQ : RtV p l e rm_Mo_forms s m args below meth c Q A D cX10_forms (ws_Mo_forms cI cJ cZ q_this q_m q_saved q_w q_savedWords q_isSaved q_text q_far q_queue q_parent q_by q_seen q_path q_row q_more q_stateOf v_textLength v_steps v_missing v_mores v_hash x.1 v_row x.2)) {K : Int32 → Int32 → (Nat → Int32) → (Nat → Int32) → Option ((Nat → Int32) × (Nat → Int32))} (hK : ∀ (x1 : Int32) (x2 : Int32) (v_m : (Nat → Int32)) (v_stateOf : (Nat → Int32)) (H : Heap) (locs : List Loc) (ls : Array Slot), K x1 x2 v_m v_stateOf = some x → Wd s A D (ws_Mo_forms cI cJ cZ q_this q_m q_saved q_w q_savedWords q_isSaved q_text q_far q_queue q_parent q_by q_seen q_path q_row q_more q_stateOf v_textLength v_steps v_missing v_mores v_hash v_m v_row v_stateOf) H locs → lv_has ls 4 [(0, .ref q_this), (1, .int x1)] → W p l e rm_Mo_forms s m args below meth c H locs 0 0 Q (F0 m 90 ls [])) : ∀ (n : Nat) (x1 : Int32) (x2 : Int32) (v_m : (Nat → Int32)) (v_stateOf : (Nat → Int32)) (H : Heap) (locs : List Loc) (ls : Array Slot), itr (fun _ _ _ _ => none) (f_Mo_forms_L4 v_row K) n x1 x2 v_m v_stateOf = some x → Wd s A D (ws_Mo_forms cI cJ cZ q_this q_m q_saved q_w q_savedWords q_isSaved q_text q_far q_queue q_parent q_by q_seen q_path q_row q_more q_stateOf v_textLength v_steps v_missing v_mores v_hash v_m v_row v_stateOf) H locs → lv_has ls 4 [(0, .ref q_this), (1, .int x1), (2, .int x2)] → W p l e rm_Mo_forms s m args below meth c H locs 0 0 Q (F0 m 4 ls []) := by
  intro n
  induction n with
  | zero => intro _ _ _ _ _ _ _ h; cases (show none = some _ from h)
  | succ n ih => intro _ _ _ _ _ _ _ h w hl; exact w_Mo_forms_L4 C0 hQ hK ih _ _ _ _ h w hl
set_option maxRecDepth 100000 in
theorem w_Mo_forms_L99 {p : Program} {l : Launch} {e : Env} {s : State} {m : MethodId} {args : Array Value} {below : List Frame} {meth : Method} {c : Code} {Q : State → Prop} {A : Nat → Prop} {D : va_G} {cI cJ cZ cO : ClassId} {q_this q_m q_saved q_w q_savedWords q_isSaved q_text q_far q_queue q_parent q_by q_seen q_path q_row q_more q_stateOf : Nat} {v_textLength : Int32} {v_steps : Int32} {v_missing : Int64} {v_mores : Int32} {v_hash : Int64} {v_row : (Nat → Int32)} {v_stateOf : (Nat → Int32)} {x1 : Int32} {x2 : Int32} {x : (Nat → Int32) × (Nat → Int32)} (C0 : Cx p s m args c A D cI cJ cZ cO cX10_forms 4 RX10) (hQ : RtV p l e rm_Mo_forms s m args below meth c Q A D cX10_forms (ws_Mo_forms cI cJ cZ q_this q_m q_saved q_w q_savedWords q_isSaved q_text q_far q_queue q_parent q_by q_seen q_path q_row q_more q_stateOf v_textLength v_steps v_missing v_mores v_hash x.1 v_row x.2)) {K : Int32 → (Nat → Int32) → Option ((Nat → Int32) × (Nat → Int32))} (hK : ∀ (x3 : Int32) (v_m : (Nat → Int32)) (H : Heap) (locs : List Loc) (ls : Array Slot), K x3 v_m = some x → Wd s A D (ws_Mo_forms cI cJ cZ q_this q_m q_saved q_w q_savedWords q_isSaved q_text q_far q_queue q_parent q_by q_seen q_path q_row q_more q_stateOf v_textLength v_steps v_missing v_mores v_hash v_m v_row v_stateOf) H locs → lv_has ls 4 [(0, .ref q_this), (1, .int x1), (2, .int x2)] → W p l e rm_Mo_forms s m args below meth c H locs 0 0 Q (F0 m 158 ls [])) {rec : Int32 → (Nat → Int32) → Option ((Nat → Int32) × (Nat → Int32))} (hrec : ∀ (x3 : Int32) (v_m : (Nat → Int32)) (H : Heap) (locs : List Loc) (ls : Array Slot), rec x3 v_m = some x → Wd s A D (ws_Mo_forms cI cJ cZ q_this q_m q_saved q_w q_savedWords q_isSaved q_text q_far q_queue q_parent q_by q_seen q_path q_row q_more q_stateOf v_textLength v_steps v_missing v_mores v_hash v_m v_row v_stateOf) H locs → lv_has ls 4 [(0, .ref q_this), (1, .int x1), (2, .int x2), (3, .int x3)] → W p l e rm_Mo_forms s m args below meth c H locs 0 0 Q (F0 m 99 ls [])) (x3 : Int32) (v_m : (Nat → Int32)) {H : Heap} {locs : List Loc} {ls : Array Slot} (h : f_Mo_forms_L99 v_row v_stateOf x2 K rec x3 v_m = some x) (w : Wd s A D (ws_Mo_forms cI cJ cZ q_this q_m q_saved q_w q_savedWords q_isSaved q_text q_far q_queue q_parent q_by q_seen q_path q_row q_more q_stateOf v_textLength v_steps v_missing v_mores v_hash v_m v_row v_stateOf) H locs) (hl : lv_has ls 4 [(0, .ref q_this), (1, .int x1), (2, .int x2), (3, .int x3)]) : W p l e rm_Mo_forms s m args below meth c H locs 0 0 Q (F0 m 99 ls []) := by
  obtain ⟨hx, hb, hml, hown, hts, -, -⟩ := id C0
  unfold f_Mo_forms_L99 at h
  refine lv_iload_n hx hb dX10_forms_99 rfl (lv_at hl 3 rfl) ?_
  refine lv_aload_n hx hb dX10_forms_100 rfl (lv_at hl 0 rfl) ?_
  refine r_get C0 w 0 rfl kf_Mo 0 (by decide) lf_RX10_7 rfl dX10_forms_101 ?_
  refine lv_iconst (v := (1 : Int32)) hx hb dX10_forms_104 (by decide) ?_
  refine r_iald C0 w 1 rfl (k := 1) (by decide) (inl (by decide)) dX10_forms_105 ?_
  refine lv_icmp_ge (tgt := 158) hx hb dX10_forms_106 (by decide) (fun hc => ?_) (fun hc => ?_)
  · have h := if_h hc h
    exact hK _ _ _ _ _ h w (lv_sub hl [0, 1, 2] rfl)
  · have h := nf_h hc h
    refine lv_aload_n hx hb dX10_forms_109 rfl (lv_at hl 0 rfl) ?_
    refine r_get C0 w 0 rfl kf_Mo 0 (by decide) lf_RX10_7 rfl dX10_forms_110 ?_
    refine lv_sipush (v := (361 : Int32)) hx hb dX10_forms_113 (by decide) ?_
    refine lv_iconst (v := (3 : Int32)) hx hb dX10_forms_116 (by decide) ?_
    refine lv_iload_n hx hb dX10_forms_117 rfl (lv_at hl 2 rfl) ?_
    refine lv_imul hx hb dX10_forms_118 ?_
    refine lv_iadd hx hb dX10_forms_119 ?_
    refine lv_iload_n hx hb dX10_forms_120 rfl (lv_at hl 3 rfl) ?_
    refine lv_iadd hx hb dX10_forms_121 ?_
    refine lv_aload_n hx hb dX10_forms_122 rfl (lv_at hl 0 rfl) ?_
    refine r_get C0 w 0 rfl kf_Mo 18 (by decide) lf_RX10_54 rfl dX10_forms_123 ?_
    refine lv_aload_n hx hb dX10_forms_126 rfl (lv_at hl 0 rfl) ?_
    refine lv_aload_n hx hb dX10_forms_127 rfl (lv_at hl 0 rfl) ?_
    refine r_get C0 w 0 rfl kf_Mo 14 (by decide) lf_RX10_48 rfl dX10_forms_128 ?_
    refine lv_aload_n hx hb dX10_forms_131 rfl (lv_at hl 0 rfl) ?_
    refine lv_aload_n hx hb dX10_forms_132 rfl (lv_at hl 0 rfl) ?_
    refine r_get C0 w 0 rfl kf_Mo 0 (by decide) lf_RX10_7 rfl dX10_forms_133 ?_
    refine lv_sipush (v := (521 : Int32)) hx hb dX10_forms_136 (by decide) ?_
    refine lv_iload_n hx hb dX10_forms_139 rfl (lv_at hl 2 rfl) ?_
    refine lv_iadd hx hb dX10_forms_140 ?_
    obtain ⟨hi, h⟩ := gIn_h h
    refine r_iald C0 w 1 rfl rfl hi dX10_forms_141 ?_
    refine lv_iload_n hx hb dX10_forms_142 rfl (lv_at hl 3 rfl) ?_
    obtain ⟨r, hcall, h⟩ := bd1_h h
    obtain ⟨wr, hp, hp'⟩ := rd_of (ws := (ws_Mo_forms cI cJ cZ q_this q_m q_saved q_w q_savedWords q_isSaved q_text q_far q_queue q_parent q_by q_seen q_path q_row q_more q_stateOf v_textLength v_steps v_missing v_mores v_hash v_m v_row v_stateOf)) (wc := (ws_Mo_extension cI cJ cZ q_this q_m q_saved q_w q_savedWords q_isSaved q_text q_far q_queue q_parent q_by q_seen q_path q_row q_more q_stateOf v_textLength v_steps v_missing v_mores v_hash v_m)) [0, 1] rfl rfl
    refine r_VI (r := r) (As := [.int (v_m ((521 : Int32) + x2).toNatClampNeg), .int x3]) (rest := [.ref q_row, .ref q_this, .ref q_stateOf, .int (((361 : Int32) + ((3 : Int32) * x2)) + x3), .ref q_m]) (wc' := (ws_Mo_extension cI cJ cZ q_this q_m q_saved q_w q_savedWords q_isSaved q_text q_far q_queue q_parent q_by q_seen q_path q_row q_more q_stateOf v_textLength v_steps v_missing v_mores v_hash v_m)) (ws' := (ws_Mo_forms cI cJ cZ q_this q_m q_saved q_w q_savedWords q_isSaved q_text q_far q_queue q_parent q_by q_seen q_path q_row q_more q_stateOf v_textLength v_steps v_missing v_mores v_hash v_m v_row v_stateOf)) C0 w (c_Mo_extension hcall) hp hp' lm_RX10_159 mv_Mo_extension ⟨rfl, rfl⟩ ⟨by decide, by decide⟩ ⟨Nat.zero_le _, Nat.zero_le _⟩ (q0 := 0) rfl rfl rfl rfl hl rfl (Nat.le_of_ble_eq_true rfl) dX10_forms_143 (fun H locs w => ?_)
    obtain ⟨hi, h⟩ := gIn_h h
    refine r_iald C0 w 2 rfl rfl hi dX10_forms_146 ?_
    obtain ⟨r_1, hcall, h⟩ := bd1_h h
    obtain ⟨wr, hp, hp'⟩ := rd_of (ws := (ws_Mo_forms cI cJ cZ q_this q_m q_saved q_w q_savedWords q_isSaved q_text q_far q_queue q_parent q_by q_seen q_path q_row q_more q_stateOf v_textLength v_steps v_missing v_mores v_hash v_m v_row v_stateOf)) (wc := (ws_Mo_rowOfPrefix cI cJ cZ q_this q_m q_saved q_w q_savedWords q_isSaved q_text q_far q_queue q_parent q_by q_seen q_path q_row q_more q_stateOf v_textLength v_steps v_missing v_mores v_hash v_m v_row)) [0, 1, 2] rfl rfl
    refine r_VI (r := r_1) (As := [.int (v_row r.toNatClampNeg)]) (rest := [.ref q_stateOf, .int (((361 : Int32) + ((3 : Int32) * x2)) + x3), .ref q_m]) (wc' := (ws_Mo_rowOfPrefix cI cJ cZ q_this q_m q_saved q_w q_savedWords q_isSaved q_text q_far q_queue q_parent q_by q_seen q_path q_row q_more q_stateOf v_textLength v_steps v_missing v_mores v_hash v_m v_row)) (ws' := (ws_Mo_forms cI cJ cZ q_this q_m q_saved q_w q_savedWords q_isSaved q_text q_far q_queue q_parent q_by q_seen q_path q_row q_more q_stateOf v_textLength v_steps v_missing v_mores v_hash v_m v_row v_stateOf)) C0 w (c_Mo_rowOfPrefix hcall) hp hp' lm_RX10_156 mv_Mo_rowOfPrefix ⟨rfl, rfl⟩ ⟨by decide, by decide⟩ ⟨Nat.zero_le _, Nat.zero_le _⟩ (q0 := 0) rfl rfl rfl rfl hl rfl (Nat.le_of_ble_eq_true rfl) dX10_forms_147 (fun H locs w => ?_)
    obtain ⟨hi, h⟩ := gIn_h h
    refine r_iald C0 w 3 rfl rfl hi dX10_forms_150 ?_
    obtain ⟨hi, h⟩ := gIn_h h
    obtain ⟨v_m_1, ev_m_1⟩ : ∃ y, y = (upd v_m (((361 : Int32) + ((3 : Int32) * x2)) + x3).toNatClampNeg (v_stateOf r_1.toNatClampNeg)) := ⟨_, rfl⟩
    have h := bnd_at ev_m_1 h
    refine r_iast C0 w 1 rfl (f' := v_m_1) rfl hi ev_m_1 dX10_forms_151 (ws' := (ws_Mo_forms cI cJ cZ q_this q_m q_saved q_w q_savedWords q_isSaved q_text q_far q_queue q_parent q_by q_seen q_path q_row q_more q_stateOf v_textLength v_steps v_missing v_mores v_hash v_m_1 v_row v_stateOf)) rfl (fun H locs w => ?_)
    obtain ⟨x3_1, ex3_1⟩ : ∃ y : Int32, y = (x3 + 1) := ⟨_, rfl⟩
    have h := bnd_at ex3_1 h
    refine lv_iinc (v := x3_1) (lv' := [(3, .int x3_1), (0, .ref q_this), (1, .int x1), (2, .int x2)]) hx hb dX10_forms_152 hl (k := 3) rfl (by rw [ex3_1]; rfl) (by decide) rfl (fun ls hl => ?_)
    refine lv_goto (tgt := 99) hx hb dX10_forms_155 (by decide) ?_
    exact hrec _ _ _ _ _ h w (lv_sub hl [1, 2, 3, 0] rfl)
set_option maxRecDepth 100000 in
theorem wl_Mo_forms_L99 {p : Program} {l : Launch} {e : Env} {s : State} {m : MethodId} {args : Array Value} {below : List Frame} {meth : Method} {c : Code} {Q : State → Prop} {A : Nat → Prop} {D : va_G} {cI cJ cZ cO : ClassId} {q_this q_m q_saved q_w q_savedWords q_isSaved q_text q_far q_queue q_parent q_by q_seen q_path q_row q_more q_stateOf : Nat} {v_textLength : Int32} {v_steps : Int32} {v_missing : Int64} {v_mores : Int32} {v_hash : Int64} {v_row : (Nat → Int32)} {v_stateOf : (Nat → Int32)} {x1 : Int32} {x2 : Int32} {x : (Nat → Int32) × (Nat → Int32)} (C0 : Cx p s m args c A D cI cJ cZ cO cX10_forms 4 RX10) (hQ : RtV p l e rm_Mo_forms s m args below meth c Q A D cX10_forms (ws_Mo_forms cI cJ cZ q_this q_m q_saved q_w q_savedWords q_isSaved q_text q_far q_queue q_parent q_by q_seen q_path q_row q_more q_stateOf v_textLength v_steps v_missing v_mores v_hash x.1 v_row x.2)) {K : Int32 → (Nat → Int32) → Option ((Nat → Int32) × (Nat → Int32))} (hK : ∀ (x3 : Int32) (v_m : (Nat → Int32)) (H : Heap) (locs : List Loc) (ls : Array Slot), K x3 v_m = some x → Wd s A D (ws_Mo_forms cI cJ cZ q_this q_m q_saved q_w q_savedWords q_isSaved q_text q_far q_queue q_parent q_by q_seen q_path q_row q_more q_stateOf v_textLength v_steps v_missing v_mores v_hash v_m v_row v_stateOf) H locs → lv_has ls 4 [(0, .ref q_this), (1, .int x1), (2, .int x2)] → W p l e rm_Mo_forms s m args below meth c H locs 0 0 Q (F0 m 158 ls [])) : ∀ (n : Nat) (x3 : Int32) (v_m : (Nat → Int32)) (H : Heap) (locs : List Loc) (ls : Array Slot), itr (fun _ _ => none) (f_Mo_forms_L99 v_row v_stateOf x2 K) n x3 v_m = some x → Wd s A D (ws_Mo_forms cI cJ cZ q_this q_m q_saved q_w q_savedWords q_isSaved q_text q_far q_queue q_parent q_by q_seen q_path q_row q_more q_stateOf v_textLength v_steps v_missing v_mores v_hash v_m v_row v_stateOf) H locs → lv_has ls 4 [(0, .ref q_this), (1, .int x1), (2, .int x2), (3, .int x3)] → W p l e rm_Mo_forms s m args below meth c H locs 0 0 Q (F0 m 99 ls []) := by
  intro n
  induction n with
  | zero => intro _ _ _ _ _ h; cases (show none = some _ from h)
  | succ n ih => intro _ _ _ _ _ h w hl; exact w_Mo_forms_L99 C0 hQ hK ih _ _ h w hl
set_option maxRecDepth 100000 in
theorem w_Mo_forms_L92 {p : Program} {l : Launch} {e : Env} {s : State} {m : MethodId} {args : Array Value} {below : List Frame} {meth : Method} {c : Code} {Q : State → Prop} {A : Nat → Prop} {D : va_G} {cI cJ cZ cO : ClassId} {q_this q_m q_saved q_w q_savedWords q_isSaved q_text q_far q_queue q_parent q_by q_seen q_path q_row q_more q_stateOf : Nat} {v_textLength : Int32} {v_steps : Int32} {v_missing : Int64} {v_mores : Int32} {v_hash : Int64} {v_row : (Nat → Int32)} {v_stateOf : (Nat → Int32)} {x1 : Int32} {x : (Nat → Int32) × (Nat → Int32)} (C0 : Cx p s m args c A D cI cJ cZ cO cX10_forms 4 RX10) (hQ : RtV p l e rm_Mo_forms s m args below meth c Q A D cX10_forms (ws_Mo_forms cI cJ cZ q_this q_m q_saved q_w q_savedWords q_isSaved q_text q_far q_queue q_parent q_by q_seen q_path q_row q_more q_stateOf v_textLength v_steps v_missing v_mores v_hash x.1 v_row x.2)) {K : Int32 → (Nat → Int32) → Option ((Nat → Int32) × (Nat → Int32))} (hK : ∀ (x2 : Int32) (v_m : (Nat → Int32)) (H : Heap) (locs : List Loc) (ls : Array Slot), K x2 v_m = some x → Wd s A D (ws_Mo_forms cI cJ cZ q_this q_m q_saved q_w q_savedWords q_isSaved q_text q_far q_queue q_parent q_by q_seen q_path q_row q_more q_stateOf v_textLength v_steps v_missing v_mores v_hash v_m v_row v_stateOf) H locs → lv_has ls 4 [(0, .ref q_this), (1, .int x1)] → W p l e rm_Mo_forms s m args below meth c H locs 0 0 Q (F0 m 164 ls [])) {rec : Int32 → (Nat → Int32) → Option ((Nat → Int32) × (Nat → Int32))} (hrec : ∀ (x2 : Int32) (v_m : (Nat → Int32)) (H : Heap) (locs : List Loc) (ls : Array Slot), rec x2 v_m = some x → Wd s A D (ws_Mo_forms cI cJ cZ q_this q_m q_saved q_w q_savedWords q_isSaved q_text q_far q_queue q_parent q_by q_seen q_path q_row q_more q_stateOf v_textLength v_steps v_missing v_mores v_hash v_m v_row v_stateOf) H locs → lv_has ls 4 [(0, .ref q_this), (1, .int x1), (2, .int x2)] → W p l e rm_Mo_forms s m args below meth c H locs 0 0 Q (F0 m 92 ls [])) (x2 : Int32) (v_m : (Nat → Int32)) {H : Heap} {locs : List Loc} {ls : Array Slot} (h : f_Mo_forms_L92 v_row v_stateOf x1 K rec x2 v_m = some x) (w : Wd s A D (ws_Mo_forms cI cJ cZ q_this q_m q_saved q_w q_savedWords q_isSaved q_text q_far q_queue q_parent q_by q_seen q_path q_row q_more q_stateOf v_textLength v_steps v_missing v_mores v_hash v_m v_row v_stateOf) H locs) (hl : lv_has ls 4 [(0, .ref q_this), (1, .int x1), (2, .int x2)]) : W p l e rm_Mo_forms s m args below meth c H locs 0 0 Q (F0 m 92 ls []) := by
  obtain ⟨hx, hb, hml, hown, hts, -, -⟩ := id C0
  unfold f_Mo_forms_L92 at h
  refine lv_iload_n hx hb dX10_forms_92 rfl (lv_at hl 2 rfl) ?_
  refine lv_iload_n hx hb dX10_forms_93 rfl (lv_at hl 1 rfl) ?_
  refine lv_icmp_ge (tgt := 164) hx hb dX10_forms_94 (by decide) (fun hc => ?_) (fun hc => ?_)
  · have h := if_h hc h
    exact hK _ _ _ _ _ h w (lv_sub hl [0, 1] rfl)
  · have h := nf_h hc h
    refine lv_iconst (v := (0 : Int32)) hx hb dX10_forms_97 (by decide) ?_
    refine lv_istore_n (lv' := [(3, .int (0 : Int32)), (0, .ref q_this), (1, .int x1), (2, .int x2)]) hx hb dX10_forms_98 rfl hl (by decide) rfl (fun ls hl => ?_)
    refine wl_Mo_forms_L99 C0 hQ (fun x3 v_m_1 H locs ls h w hl => ?_) _ _ _ _ _ _ h w (lv_sub hl [1, 2, 3, 0] rfl)
    obtain ⟨x2_1, ex2_1⟩ : ∃ y : Int32, y = (x2 + 1) := ⟨_, rfl⟩
    have h := bnd_at ex2_1 h
    refine lv_iinc (v := x2_1) (lv' := [(2, .int x2_1), (0, .ref q_this), (1, .int x1)]) hx hb dX10_forms_158 hl (k := 2) rfl (by rw [ex2_1]; rfl) (by decide) rfl (fun ls hl => ?_)
    refine lv_goto (tgt := 92) hx hb dX10_forms_161 (by decide) ?_
    exact hrec _ _ _ _ _ h w (lv_sub hl [1, 2, 0] rfl)
set_option maxRecDepth 100000 in
theorem wl_Mo_forms_L92 {p : Program} {l : Launch} {e : Env} {s : State} {m : MethodId} {args : Array Value} {below : List Frame} {meth : Method} {c : Code} {Q : State → Prop} {A : Nat → Prop} {D : va_G} {cI cJ cZ cO : ClassId} {q_this q_m q_saved q_w q_savedWords q_isSaved q_text q_far q_queue q_parent q_by q_seen q_path q_row q_more q_stateOf : Nat} {v_textLength : Int32} {v_steps : Int32} {v_missing : Int64} {v_mores : Int32} {v_hash : Int64} {v_row : (Nat → Int32)} {v_stateOf : (Nat → Int32)} {x1 : Int32} {x : (Nat → Int32) × (Nat → Int32)} (C0 : Cx p s m args c A D cI cJ cZ cO cX10_forms 4 RX10) (hQ : RtV p l e rm_Mo_forms s m args below meth c Q A D cX10_forms (ws_Mo_forms cI cJ cZ q_this q_m q_saved q_w q_savedWords q_isSaved q_text q_far q_queue q_parent q_by q_seen q_path q_row q_more q_stateOf v_textLength v_steps v_missing v_mores v_hash x.1 v_row x.2)) {K : Int32 → (Nat → Int32) → Option ((Nat → Int32) × (Nat → Int32))} (hK : ∀ (x2 : Int32) (v_m : (Nat → Int32)) (H : Heap) (locs : List Loc) (ls : Array Slot), K x2 v_m = some x → Wd s A D (ws_Mo_forms cI cJ cZ q_this q_m q_saved q_w q_savedWords q_isSaved q_text q_far q_queue q_parent q_by q_seen q_path q_row q_more q_stateOf v_textLength v_steps v_missing v_mores v_hash v_m v_row v_stateOf) H locs → lv_has ls 4 [(0, .ref q_this), (1, .int x1)] → W p l e rm_Mo_forms s m args below meth c H locs 0 0 Q (F0 m 164 ls [])) : ∀ (n : Nat) (x2 : Int32) (v_m : (Nat → Int32)) (H : Heap) (locs : List Loc) (ls : Array Slot), itr (fun _ _ => none) (f_Mo_forms_L92 v_row v_stateOf x1 K) n x2 v_m = some x → Wd s A D (ws_Mo_forms cI cJ cZ q_this q_m q_saved q_w q_savedWords q_isSaved q_text q_far q_queue q_parent q_by q_seen q_path q_row q_more q_stateOf v_textLength v_steps v_missing v_mores v_hash v_m v_row v_stateOf) H locs → lv_has ls 4 [(0, .ref q_this), (1, .int x1), (2, .int x2)] → W p l e rm_Mo_forms s m args below meth c H locs 0 0 Q (F0 m 92 ls []) := by
  intro n
  induction n with
  | zero => intro _ _ _ _ _ h; cases (show none = some _ from h)
  | succ n ih => intro _ _ _ _ _ h w hl; exact w_Mo_forms_L92 C0 hQ hK ih _ _ h w hl
set_option maxRecDepth 100000 in
theorem c_Mo_forms {l : Launch} {D : va_G} {cI cJ cZ cO : ClassId} {q_this q_m q_saved q_w q_savedWords q_isSaved q_text q_far q_queue q_parent q_by q_seen q_path q_row q_more q_stateOf : Nat} {v_textLength : Int32} {v_steps : Int32} {v_missing : Int64} {v_mores : Int32} {v_hash : Int64} {v_m : (Nat → Int32)} {v_row : (Nat → Int32)} {v_stateOf : (Nat → Int32)} {x : (Nat → Int32) × (Nat → Int32)} (h : f_Mo_forms v_m v_row v_stateOf = some x) : ctV l D cI cJ cZ cO yX10_forms cX10_forms 4 rm_Mo_forms [.ref q_this] (ws_Mo_forms cI cJ cZ q_this q_m q_saved q_w q_savedWords q_isSaved q_text q_far q_queue q_parent q_by q_seen q_path q_row q_more q_stateOf v_textLength v_steps v_missing v_mores v_hash v_m v_row v_stateOf) (ws_Mo_forms cI cJ cZ q_this q_m q_saved q_w q_savedWords q_isSaved q_text q_far q_queue q_parent q_by q_seen q_path q_row q_more q_stateOf v_textLength v_steps v_missing v_mores v_hash x.1 v_row x.2) := by
  refine ctV_of (by decide) (Nat.le_of_ble_eq_true rfl) ?_
  intro p e s m below meth c Q A ls C0 hQ w hl
  have hl : lv_has ls 4 [(0, .ref q_this)] := hl
  generalize List.toArray (α := Value) [.ref q_this] = args at C0 hQ ⊢
  obtain ⟨hx, hb, hml, hown, hts, -, -⟩ := id C0
  unfold f_Mo_forms at h
  refine lv_iconst (v := (0 : Int32)) hx hb dX10_forms_0 (by decide) ?_
  refine lv_istore_n (lv' := [(1, .int (0 : Int32)), (0, .ref q_this)]) hx hb dX10_forms_1 rfl hl (by decide) rfl (fun ls hl => ?_)
  refine lv_iconst (v := (0 : Int32)) hx hb dX10_forms_2 (by decide) ?_
  refine lv_istore_n (lv' := [(2, .int (0 : Int32)), (1, .int (0 : Int32)), (0, .ref q_this)]) hx hb dX10_forms_3 rfl hl (by decide) rfl (fun ls hl => ?_)
  refine wl_Mo_forms_L4 C0 hQ (fun x1 x2 v_m_1 v_stateOf_1 H locs ls h w hl => ?_) _ _ _ _ _ _ _ _ h w (lv_sub hl [2, 1, 0] rfl)
  refine lv_iconst (v := (0 : Int32)) hx hb dX10_forms_90 (by decide) ?_
  refine lv_istore_n (lv' := [(2, .int (0 : Int32)), (0, .ref q_this), (1, .int x1)]) hx hb dX10_forms_91 rfl hl (by decide) rfl (fun ls hl => ?_)
  refine wl_Mo_forms_L92 C0 hQ (fun x2_1 v_m_2 H locs ls h w hl => ?_) _ _ _ _ _ _ h w (lv_sub hl [1, 2, 0] rfl)
  refine lv_aload_n hx hb dX10_forms_164 rfl (lv_at hl 0 rfl) ?_
  refine r_get C0 w 0 rfl kf_Mo 0 (by decide) lf_RX10_7 rfl dX10_forms_165 ?_
  refine lv_bipush (v := (40 : Int32)) hx hb dX10_forms_168 (by decide) ?_
  refine lv_iload_n hx hb dX10_forms_170 rfl (lv_at hl 1 rfl) ?_
  obtain ⟨v_m_3, ev_m_3⟩ : ∃ y, y = (upd v_m_2 40 x1) := ⟨_, rfl⟩
  have h := bnd_at ev_m_3 h
  refine r_iast C0 w 1 rfl (f' := v_m_3) (k := 40) (by decide) (inl (by decide)) ev_m_3 dX10_forms_171 (ws' := (ws_Mo_forms cI cJ cZ q_this q_m q_saved q_w q_savedWords q_isSaved q_text q_far q_queue q_parent q_by q_seen q_path q_row q_more q_stateOf v_textLength v_steps v_missing v_mores v_hash v_m_3 v_row v_stateOf_1)) rfl (fun H locs w => ?_)
  refine lv_aload_n hx hb dX10_forms_172 rfl (lv_at hl 0 rfl) ?_
  refine r_get C0 w 0 rfl kf_Mo 0 (by decide) lf_RX10_7 rfl dX10_forms_173 ?_
  refine lv_bipush (v := (41 : Int32)) hx hb dX10_forms_176 (by decide) ?_
  refine lv_iconst (v := (1 : Int32)) hx hb dX10_forms_178 (by decide) ?_
  obtain ⟨v_m_4, ev_m_4⟩ : ∃ y, y = (upd v_m_3 41 (1 : Int32)) := ⟨_, rfl⟩
  have h := bnd_at ev_m_4 h
  refine r_iast C0 w 1 rfl (f' := v_m_4) (k := 41) (by decide) (inl (by decide)) ev_m_4 dX10_forms_179 (ws' := (ws_Mo_forms cI cJ cZ q_this q_m q_saved q_w q_savedWords q_isSaved q_text q_far q_queue q_parent q_by q_seen q_path q_row q_more q_stateOf v_textLength v_steps v_missing v_mores v_hash v_m_4 v_row v_stateOf_1)) rfl (fun H locs w => ?_)
  cases h
  exact hQ _ _ _ _ dX10_forms_180 w
theorem dX10_firstLetters_0 : decode cX10_firstLetters 0 = .ok (.lconst 0, 1) := by decide +kernel
theorem dX10_firstLetters_1 : decode cX10_firstLetters 1 = .ok (.lstore_n 2, 1) := by decide +kernel
theorem dX10_firstLetters_2 : decode cX10_firstLetters 2 = .ok (.iconst 0, 1) := by decide +kernel
theorem dX10_firstLetters_3 : decode cX10_firstLetters 3 = .ok (.istore 4, 2) := by decide +kernel
theorem dX10_firstLetters_5 : decode cX10_firstLetters 5 = .ok (.iload 4, 2) := by decide +kernel
theorem dX10_firstLetters_7 : decode cX10_firstLetters 7 = .ok (.iload_n 1, 1) := by decide +kernel
theorem dX10_firstLetters_8 : decode cX10_firstLetters 8 = .ok (.if_icmp .ge 21, 3) := by decide +kernel
theorem dX10_firstLetters_11 : decode cX10_firstLetters 11 = .ok (.lload_n 2, 1) := by decide +kernel
theorem dX10_firstLetters_12 : decode cX10_firstLetters 12 = .ok (.aload_n 0, 1) := by decide +kernel
theorem dX10_firstLetters_13 : decode cX10_firstLetters 13 = .ok (.getfield 45, 3) := by decide +kernel
theorem dX10_firstLetters_16 : decode cX10_firstLetters 16 = .ok (.iload 4, 2) := by decide +kernel
theorem dX10_firstLetters_18 : decode cX10_firstLetters 18 = .ok (.iaload, 1) := by decide +kernel
theorem dX10_firstLetters_19 : decode cX10_firstLetters 19 = .ok (.invokestatic 82, 3) := by decide +kernel
theorem dX10_firstLetters_22 : decode cX10_firstLetters 22 = .ok (.lstore_n 2, 1) := by decide +kernel
theorem dX10_firstLetters_23 : decode cX10_firstLetters 23 = .ok (.iinc 4 1, 3) := by decide +kernel
theorem dX10_firstLetters_26 : decode cX10_firstLetters 26 = .ok (.goto (-21), 3) := by decide +kernel
theorem dX10_firstLetters_29 : decode cX10_firstLetters 29 = .ok (.lload_n 2, 1) := by decide +kernel
theorem dX10_firstLetters_30 : decode cX10_firstLetters 30 = .ok (.lreturn, 1) := by decide +kernel
set_option maxRecDepth 100000 in
theorem w_Mo_firstLetters_L5 {p : Program} {l : Launch} {e : Env} {s : State} {m : MethodId} {args : Array Value} {below : List Frame} {meth : Method} {c : Code} {Q : State → Prop} {A : Nat → Prop} {D : va_G} {cI cJ cZ cO : ClassId} {q_this q_m q_saved q_w q_savedWords q_isSaved q_text q_far q_queue q_parent q_by q_seen q_path q_row q_more q_stateOf : Nat} {v_textLength : Int32} {v_steps : Int32} {v_missing : Int64} {v_mores : Int32} {v_hash : Int64} {v_path : (Nat → Int32)} {x1 : Int32} {x : Int64} (C0 : Cx p s m args c A D cI cJ cZ cO cX10_firstLetters 5 RX10) (hQ : RtJ p l e rm_Mo_firstLetters s m args below meth c Q A D cX10_firstLetters (ws_Mo_firstLetters cI cJ cZ q_this q_m q_saved q_w q_savedWords q_isSaved q_text q_far q_queue q_parent q_by q_seen q_path q_row q_more q_stateOf v_textLength v_steps v_missing v_mores v_hash v_path) x) {K : Int64 → Int32 → Option (Int64)} (hK : ∀ (x2 : Int64) (x4 : Int32) (H : Heap) (locs : List Loc) (ls : Array Slot), K x2 x4 = some x → Wd s A D (ws_Mo_firstLetters cI cJ cZ q_this q_m q_saved q_w q_savedWords q_isSaved q_text q_far q_queue q_parent q_by q_seen q_path q_row q_more q_stateOf v_textLength v_steps v_missing v_mores v_hash v_path) H locs → lv_has ls 5 [(2, .long x2)] → W p l e rm_Mo_firstLetters s m args below meth c H locs 0 0 Q (F0 m 29 ls [])) {rec : Int64 → Int32 → Option (Int64)} (hrec : ∀ (x2 : Int64) (x4 : Int32) (H : Heap) (locs : List Loc) (ls : Array Slot), rec x2 x4 = some x → Wd s A D (ws_Mo_firstLetters cI cJ cZ q_this q_m q_saved q_w q_savedWords q_isSaved q_text q_far q_queue q_parent q_by q_seen q_path q_row q_more q_stateOf v_textLength v_steps v_missing v_mores v_hash v_path) H locs → lv_has ls 5 [(0, .ref q_this), (1, .int x1), (2, .long x2), (4, .int x4)] → W p l e rm_Mo_firstLetters s m args below meth c H locs 0 0 Q (F0 m 5 ls [])) (x2 : Int64) (x4 : Int32) {H : Heap} {locs : List Loc} {ls : Array Slot} (h : f_Mo_firstLetters_L5 v_path x1 K rec x2 x4 = some x) (w : Wd s A D (ws_Mo_firstLetters cI cJ cZ q_this q_m q_saved q_w q_savedWords q_isSaved q_text q_far q_queue q_parent q_by q_seen q_path q_row q_more q_stateOf v_textLength v_steps v_missing v_mores v_hash v_path) H locs) (hl : lv_has ls 5 [(0, .ref q_this), (1, .int x1), (2, .long x2), (4, .int x4)]) : W p l e rm_Mo_firstLetters s m args below meth c H locs 0 0 Q (F0 m 5 ls []) := by
  obtain ⟨hx, hb, hml, hown, hts, -, -⟩ := id C0
  unfold f_Mo_firstLetters_L5 at h
  refine lv_iload hx hb dX10_firstLetters_5 (lv_at hl 3 rfl) ?_
  refine lv_iload_n hx hb dX10_firstLetters_7 rfl (lv_at hl 1 rfl) ?_
  refine lv_icmp_ge (tgt := 29) hx hb dX10_firstLetters_8 (by decide) (fun hc => ?_) (fun hc => ?_)
  · have h := if_h hc h
    exact hK _ _ _ _ _ h w (lv_sub hl [2] rfl)
  · have h := nf_h hc h
    refine lv_lload_n hx hb dX10_firstLetters_11 rfl (lv_at hl 2 rfl) ?_
    refine lv_aload_n hx hb dX10_firstLetters_12 rfl (lv_at hl 0 rfl) ?_
    refine r_get C0 w 0 rfl kf_Mo 12 (by decide) lf_RX10_45 rfl dX10_firstLetters_13 ?_
    refine lv_iload hx hb dX10_firstLetters_16 (lv_at hl 3 rfl) ?_
    obtain ⟨hi, h⟩ := gIn_h h
    refine r_iald C0 w 1 rfl rfl hi dX10_firstLetters_18 ?_
    obtain ⟨r, hcall, h⟩ := bd1_h h
    obtain ⟨wr, hp, hp'⟩ := rd_of (ws := (ws_Mo_firstLetters cI cJ cZ q_this q_m q_saved q_w q_savedWords q_isSaved q_text q_far q_queue q_parent q_by q_seen q_path q_row q_more q_stateOf v_textLength v_steps v_missing v_mores v_hash v_path)) (wc := (ws_Mo_longer cI cJ cZ)) [] rfl rfl
    refine r_SJ (r := r) (As := [.long x2, .int (v_path x4.toNatClampNeg)]) (rest := []) (wc' := (ws_Mo_longer cI cJ cZ)) (ws' := (ws_Mo_firstLetters cI cJ cZ q_this q_m q_saved q_w q_savedWords q_isSaved q_text q_far q_queue q_parent q_by q_seen q_path q_row q_more q_stateOf v_textLength v_steps v_missing v_mores v_hash v_path)) C0 w (c_Mo_longer hcall) hp hp' lm_RX10_82 ms_Mo_longer ⟨rfl, rfl⟩ ⟨by decide, by decide⟩ ⟨Nat.zero_le _, Nat.zero_le _⟩ rfl hl rfl (Nat.le_of_ble_eq_true rfl) dX10_firstLetters_19 (fun H locs w => ?_)
    refine lv_lstore_n (lv' := [(2, .long r), (0, .ref q_this), (1, .int x1), (4, .int x4)]) hx hb dX10_firstLetters_22 rfl hl (by decide) rfl (fun ls hl => ?_)
    obtain ⟨x4_1, ex4_1⟩ : ∃ y : Int32, y = (x4 + 1) := ⟨_, rfl⟩
    have h := bnd_at ex4_1 h
    refine lv_iinc (v := x4_1) (lv' := [(4, .int x4_1), (2, .long r), (0, .ref q_this), (1, .int x1)]) hx hb dX10_firstLetters_23 hl (k := 3) rfl (by rw [ex4_1]; rfl) (by decide) rfl (fun ls hl => ?_)
    refine lv_goto (tgt := 5) hx hb dX10_firstLetters_26 (by decide) ?_
    exact hrec _ _ _ _ _ h w (lv_sub hl [2, 3, 1, 0] rfl)
set_option maxRecDepth 100000 in
theorem wl_Mo_firstLetters_L5 {p : Program} {l : Launch} {e : Env} {s : State} {m : MethodId} {args : Array Value} {below : List Frame} {meth : Method} {c : Code} {Q : State → Prop} {A : Nat → Prop} {D : va_G} {cI cJ cZ cO : ClassId} {q_this q_m q_saved q_w q_savedWords q_isSaved q_text q_far q_queue q_parent q_by q_seen q_path q_row q_more q_stateOf : Nat} {v_textLength : Int32} {v_steps : Int32} {v_missing : Int64} {v_mores : Int32} {v_hash : Int64} {v_path : (Nat → Int32)} {x1 : Int32} {x : Int64} (C0 : Cx p s m args c A D cI cJ cZ cO cX10_firstLetters 5 RX10) (hQ : RtJ p l e rm_Mo_firstLetters s m args below meth c Q A D cX10_firstLetters (ws_Mo_firstLetters cI cJ cZ q_this q_m q_saved q_w q_savedWords q_isSaved q_text q_far q_queue q_parent q_by q_seen q_path q_row q_more q_stateOf v_textLength v_steps v_missing v_mores v_hash v_path) x) {K : Int64 → Int32 → Option (Int64)} (hK : ∀ (x2 : Int64) (x4 : Int32) (H : Heap) (locs : List Loc) (ls : Array Slot), K x2 x4 = some x → Wd s A D (ws_Mo_firstLetters cI cJ cZ q_this q_m q_saved q_w q_savedWords q_isSaved q_text q_far q_queue q_parent q_by q_seen q_path q_row q_more q_stateOf v_textLength v_steps v_missing v_mores v_hash v_path) H locs → lv_has ls 5 [(2, .long x2)] → W p l e rm_Mo_firstLetters s m args below meth c H locs 0 0 Q (F0 m 29 ls [])) : ∀ (n : Nat) (x2 : Int64) (x4 : Int32) (H : Heap) (locs : List Loc) (ls : Array Slot), itr (fun _ _ => none) (f_Mo_firstLetters_L5 v_path x1 K) n x2 x4 = some x → Wd s A D (ws_Mo_firstLetters cI cJ cZ q_this q_m q_saved q_w q_savedWords q_isSaved q_text q_far q_queue q_parent q_by q_seen q_path q_row q_more q_stateOf v_textLength v_steps v_missing v_mores v_hash v_path) H locs → lv_has ls 5 [(0, .ref q_this), (1, .int x1), (2, .long x2), (4, .int x4)] → W p l e rm_Mo_firstLetters s m args below meth c H locs 0 0 Q (F0 m 5 ls []) := by
  intro n
  induction n with
  | zero => intro _ _ _ _ _ h; cases (show none = some _ from h)
  | succ n ih => intro _ _ _ _ _ h w hl; exact w_Mo_firstLetters_L5 C0 hQ hK ih _ _ h w hl
set_option maxRecDepth 100000 in
theorem c_Mo_firstLetters {l : Launch} {D : va_G} {cI cJ cZ cO : ClassId} {q_this q_m q_saved q_w q_savedWords q_isSaved q_text q_far q_queue q_parent q_by q_seen q_path q_row q_more q_stateOf : Nat} {x1 : Int32} {v_textLength : Int32} {v_steps : Int32} {v_missing : Int64} {v_mores : Int32} {v_hash : Int64} {v_path : (Nat → Int32)} {x : Int64} (h : f_Mo_firstLetters x1 v_path = some x) : ctJ l D cI cJ cZ cO yX10_firstLetters cX10_firstLetters 5 rm_Mo_firstLetters [.ref q_this, .int x1] (ws_Mo_firstLetters cI cJ cZ q_this q_m q_saved q_w q_savedWords q_isSaved q_text q_far q_queue q_parent q_by q_seen q_path q_row q_more q_stateOf v_textLength v_steps v_missing v_mores v_hash v_path) (ws_Mo_firstLetters cI cJ cZ q_this q_m q_saved q_w q_savedWords q_isSaved q_text q_far q_queue q_parent q_by q_seen q_path q_row q_more q_stateOf v_textLength v_steps v_missing v_mores v_hash v_path) x := by
  refine ctJ_of (by decide) (Nat.le_of_ble_eq_true rfl) ?_
  intro p e s m below meth c Q A ls C0 hQ w hl
  have hl : lv_has ls 5 [(0, .ref q_this), (1, .int x1)] := hl
  generalize List.toArray (α := Value) [.ref q_this, .int x1] = args at C0 hQ ⊢
  obtain ⟨hx, hb, hml, hown, hts, -, -⟩ := id C0
  unfold f_Mo_firstLetters at h
  refine lv_lconst (v := (0 : Int64)) hx hb dX10_firstLetters_0 (by decide) ?_
  refine lv_lstore_n (lv' := [(2, .long (0 : Int64)), (0, .ref q_this), (1, .int x1)]) hx hb dX10_firstLetters_1 rfl hl (by decide) rfl (fun ls hl => ?_)
  refine lv_iconst (v := (0 : Int32)) hx hb dX10_firstLetters_2 (by decide) ?_
  refine lv_istore (lv' := [(4, .int (0 : Int32)), (2, .long (0 : Int64)), (0, .ref q_this), (1, .int x1)]) hx hb dX10_firstLetters_3 hl (by decide) rfl (fun ls hl => ?_)
  refine wl_Mo_firstLetters_L5 C0 hQ (fun x2 x4 H locs ls h w hl => ?_) _ _ _ _ _ _ h w (lv_sub hl [2, 3, 1, 0] rfl)
  refine lv_lload_n hx hb dX10_firstLetters_29 rfl (lv_at hl 0 rfl) ?_
  cases h
  exact hQ _ _ _ _ dX10_firstLetters_30 w
theorem dX10_lastLetters_0 : decode cX10_lastLetters 0 = .ok (.lconst 0, 1) := by decide +kernel
theorem dX10_lastLetters_1 : decode cX10_lastLetters 1 = .ok (.lstore_n 2, 1) := by decide +kernel
theorem dX10_lastLetters_2 : decode cX10_lastLetters 2 = .ok (.aload_n 0, 1) := by decide +kernel
theorem dX10_lastLetters_3 : decode cX10_lastLetters 3 = .ok (.getfield 110, 3) := by decide +kernel
theorem dX10_lastLetters_6 : decode cX10_lastLetters 6 = .ok (.iload_n 1, 1) := by decide +kernel
theorem dX10_lastLetters_7 : decode cX10_lastLetters 7 = .ok (.isub, 1) := by decide +kernel
theorem dX10_lastLetters_8 : decode cX10_lastLetters 8 = .ok (.istore 4, 2) := by decide +kernel
theorem dX10_lastLetters_10 : decode cX10_lastLetters 10 = .ok (.iload 4, 2) := by decide +kernel
theorem dX10_lastLetters_12 : decode cX10_lastLetters 12 = .ok (.aload_n 0, 1) := by decide +kernel
theorem dX10_lastLetters_13 : decode cX10_lastLetters 13 = .ok (.getfield 110, 3) := by decide +kernel
theorem dX10_lastLetters_16 : decode cX10_lastLetters 16 = .ok (.if_icmp .ge 21, 3) := by decide +kernel
theorem dX10_lastLetters_19 : decode cX10_lastLetters 19 = .ok (.lload_n 2, 1) := by decide +kernel
theorem dX10_lastLetters_20 : decode cX10_lastLetters 20 = .ok (.aload_n 0, 1) := by decide +kernel
theorem dX10_lastLetters_21 : decode cX10_lastLetters 21 = .ok (.getfield 45, 3) := by decide +kernel
theorem dX10_lastLetters_24 : decode cX10_lastLetters 24 = .ok (.iload 4, 2) := by decide +kernel
theorem dX10_lastLetters_26 : decode cX10_lastLetters 26 = .ok (.iaload, 1) := by decide +kernel
theorem dX10_lastLetters_27 : decode cX10_lastLetters 27 = .ok (.invokestatic 82, 3) := by decide +kernel
theorem dX10_lastLetters_30 : decode cX10_lastLetters 30 = .ok (.lstore_n 2, 1) := by decide +kernel
theorem dX10_lastLetters_31 : decode cX10_lastLetters 31 = .ok (.iinc 4 1, 3) := by decide +kernel
theorem dX10_lastLetters_34 : decode cX10_lastLetters 34 = .ok (.goto (-24), 3) := by decide +kernel
theorem dX10_lastLetters_37 : decode cX10_lastLetters 37 = .ok (.lload_n 2, 1) := by decide +kernel
theorem dX10_lastLetters_38 : decode cX10_lastLetters 38 = .ok (.lreturn, 1) := by decide +kernel
set_option maxRecDepth 100000 in
theorem w_Mo_lastLetters_L10 {p : Program} {l : Launch} {e : Env} {s : State} {m : MethodId} {args : Array Value} {below : List Frame} {meth : Method} {c : Code} {Q : State → Prop} {A : Nat → Prop} {D : va_G} {cI cJ cZ cO : ClassId} {q_this q_m q_saved q_w q_savedWords q_isSaved q_text q_far q_queue q_parent q_by q_seen q_path q_row q_more q_stateOf : Nat} {v_textLength : Int32} {v_steps : Int32} {v_missing : Int64} {v_mores : Int32} {v_hash : Int64} {v_path : (Nat → Int32)} {x : Int64} (C0 : Cx p s m args c A D cI cJ cZ cO cX10_lastLetters 5 RX10) (hQ : RtJ p l e rm_Mo_lastLetters s m args below meth c Q A D cX10_lastLetters (ws_Mo_lastLetters cI cJ cZ q_this q_m q_saved q_w q_savedWords q_isSaved q_text q_far q_queue q_parent q_by q_seen q_path q_row q_more q_stateOf v_textLength v_steps v_missing v_mores v_hash v_path) x) {K : Int64 → Int32 → Option (Int64)} (hK : ∀ (x2 : Int64) (x4 : Int32) (H : Heap) (locs : List Loc) (ls : Array Slot), K x2 x4 = some x → Wd s A D (ws_Mo_lastLetters cI cJ cZ q_this q_m q_saved q_w q_savedWords q_isSaved q_text q_far q_queue q_parent q_by q_seen q_path q_row q_more q_stateOf v_textLength v_steps v_missing v_mores v_hash v_path) H locs → lv_has ls 5 [(2, .long x2)] → W p l e rm_Mo_lastLetters s m args below meth c H locs 0 0 Q (F0 m 37 ls [])) {rec : Int64 → Int32 → Option (Int64)} (hrec : ∀ (x2 : Int64) (x4 : Int32) (H : Heap) (locs : List Loc) (ls : Array Slot), rec x2 x4 = some x → Wd s A D (ws_Mo_lastLetters cI cJ cZ q_this q_m q_saved q_w q_savedWords q_isSaved q_text q_far q_queue q_parent q_by q_seen q_path q_row q_more q_stateOf v_textLength v_steps v_missing v_mores v_hash v_path) H locs → lv_has ls 5 [(0, .ref q_this), (2, .long x2), (4, .int x4)] → W p l e rm_Mo_lastLetters s m args below meth c H locs 0 0 Q (F0 m 10 ls [])) (x2 : Int64) (x4 : Int32) {H : Heap} {locs : List Loc} {ls : Array Slot} (h : f_Mo_lastLetters_L10 v_steps v_path K rec x2 x4 = some x) (w : Wd s A D (ws_Mo_lastLetters cI cJ cZ q_this q_m q_saved q_w q_savedWords q_isSaved q_text q_far q_queue q_parent q_by q_seen q_path q_row q_more q_stateOf v_textLength v_steps v_missing v_mores v_hash v_path) H locs) (hl : lv_has ls 5 [(0, .ref q_this), (2, .long x2), (4, .int x4)]) : W p l e rm_Mo_lastLetters s m args below meth c H locs 0 0 Q (F0 m 10 ls []) := by
  obtain ⟨hx, hb, hml, hown, hts, -, -⟩ := id C0
  unfold f_Mo_lastLetters_L10 at h
  refine lv_iload hx hb dX10_lastLetters_10 (lv_at hl 2 rfl) ?_
  refine lv_aload_n hx hb dX10_lastLetters_12 rfl (lv_at hl 0 rfl) ?_
  refine r_get C0 w 0 rfl kf_Mo 13 (by decide) lf_RX10_110 rfl dX10_lastLetters_13 ?_
  refine lv_icmp_ge (tgt := 37) hx hb dX10_lastLetters_16 (by decide) (fun hc => ?_) (fun hc => ?_)
  · have h := if_h hc h
    exact hK _ _ _ _ _ h w (lv_sub hl [1] rfl)
  · have h := nf_h hc h
    refine lv_lload_n hx hb dX10_lastLetters_19 rfl (lv_at hl 1 rfl) ?_
    refine lv_aload_n hx hb dX10_lastLetters_20 rfl (lv_at hl 0 rfl) ?_
    refine r_get C0 w 0 rfl kf_Mo 12 (by decide) lf_RX10_45 rfl dX10_lastLetters_21 ?_
    refine lv_iload hx hb dX10_lastLetters_24 (lv_at hl 2 rfl) ?_
    obtain ⟨hi, h⟩ := gIn_h h
    refine r_iald C0 w 1 rfl rfl hi dX10_lastLetters_26 ?_
    obtain ⟨r, hcall, h⟩ := bd1_h h
    obtain ⟨wr, hp, hp'⟩ := rd_of (ws := (ws_Mo_lastLetters cI cJ cZ q_this q_m q_saved q_w q_savedWords q_isSaved q_text q_far q_queue q_parent q_by q_seen q_path q_row q_more q_stateOf v_textLength v_steps v_missing v_mores v_hash v_path)) (wc := (ws_Mo_longer cI cJ cZ)) [] rfl rfl
    refine r_SJ (r := r) (As := [.long x2, .int (v_path x4.toNatClampNeg)]) (rest := []) (wc' := (ws_Mo_longer cI cJ cZ)) (ws' := (ws_Mo_lastLetters cI cJ cZ q_this q_m q_saved q_w q_savedWords q_isSaved q_text q_far q_queue q_parent q_by q_seen q_path q_row q_more q_stateOf v_textLength v_steps v_missing v_mores v_hash v_path)) C0 w (c_Mo_longer hcall) hp hp' lm_RX10_82 ms_Mo_longer ⟨rfl, rfl⟩ ⟨by decide, by decide⟩ ⟨Nat.zero_le _, Nat.zero_le _⟩ rfl hl rfl (Nat.le_of_ble_eq_true rfl) dX10_lastLetters_27 (fun H locs w => ?_)
    refine lv_lstore_n (lv' := [(2, .long r), (0, .ref q_this), (4, .int x4)]) hx hb dX10_lastLetters_30 rfl hl (by decide) rfl (fun ls hl => ?_)
    obtain ⟨x4_1, ex4_1⟩ : ∃ y : Int32, y = (x4 + 1) := ⟨_, rfl⟩
    have h := bnd_at ex4_1 h
    refine lv_iinc (v := x4_1) (lv' := [(4, .int x4_1), (2, .long r), (0, .ref q_this)]) hx hb dX10_lastLetters_31 hl (k := 2) rfl (by rw [ex4_1]; rfl) (by decide) rfl (fun ls hl => ?_)
    refine lv_goto (tgt := 10) hx hb dX10_lastLetters_34 (by decide) ?_
    exact hrec _ _ _ _ _ h w (lv_sub hl [2, 1, 0] rfl)
set_option maxRecDepth 100000 in
theorem wl_Mo_lastLetters_L10 {p : Program} {l : Launch} {e : Env} {s : State} {m : MethodId} {args : Array Value} {below : List Frame} {meth : Method} {c : Code} {Q : State → Prop} {A : Nat → Prop} {D : va_G} {cI cJ cZ cO : ClassId} {q_this q_m q_saved q_w q_savedWords q_isSaved q_text q_far q_queue q_parent q_by q_seen q_path q_row q_more q_stateOf : Nat} {v_textLength : Int32} {v_steps : Int32} {v_missing : Int64} {v_mores : Int32} {v_hash : Int64} {v_path : (Nat → Int32)} {x : Int64} (C0 : Cx p s m args c A D cI cJ cZ cO cX10_lastLetters 5 RX10) (hQ : RtJ p l e rm_Mo_lastLetters s m args below meth c Q A D cX10_lastLetters (ws_Mo_lastLetters cI cJ cZ q_this q_m q_saved q_w q_savedWords q_isSaved q_text q_far q_queue q_parent q_by q_seen q_path q_row q_more q_stateOf v_textLength v_steps v_missing v_mores v_hash v_path) x) {K : Int64 → Int32 → Option (Int64)} (hK : ∀ (x2 : Int64) (x4 : Int32) (H : Heap) (locs : List Loc) (ls : Array Slot), K x2 x4 = some x → Wd s A D (ws_Mo_lastLetters cI cJ cZ q_this q_m q_saved q_w q_savedWords q_isSaved q_text q_far q_queue q_parent q_by q_seen q_path q_row q_more q_stateOf v_textLength v_steps v_missing v_mores v_hash v_path) H locs → lv_has ls 5 [(2, .long x2)] → W p l e rm_Mo_lastLetters s m args below meth c H locs 0 0 Q (F0 m 37 ls [])) : ∀ (n : Nat) (x2 : Int64) (x4 : Int32) (H : Heap) (locs : List Loc) (ls : Array Slot), itr (fun _ _ => none) (f_Mo_lastLetters_L10 v_steps v_path K) n x2 x4 = some x → Wd s A D (ws_Mo_lastLetters cI cJ cZ q_this q_m q_saved q_w q_savedWords q_isSaved q_text q_far q_queue q_parent q_by q_seen q_path q_row q_more q_stateOf v_textLength v_steps v_missing v_mores v_hash v_path) H locs → lv_has ls 5 [(0, .ref q_this), (2, .long x2), (4, .int x4)] → W p l e rm_Mo_lastLetters s m args below meth c H locs 0 0 Q (F0 m 10 ls []) := by
  intro n
  induction n with
  | zero => intro _ _ _ _ _ h; cases (show none = some _ from h)
  | succ n ih => intro _ _ _ _ _ h w hl; exact w_Mo_lastLetters_L10 C0 hQ hK ih _ _ h w hl
set_option maxRecDepth 100000 in
theorem c_Mo_lastLetters {l : Launch} {D : va_G} {cI cJ cZ cO : ClassId} {q_this q_m q_saved q_w q_savedWords q_isSaved q_text q_far q_queue q_parent q_by q_seen q_path q_row q_more q_stateOf : Nat} {x1 : Int32} {v_textLength : Int32} {v_steps : Int32} {v_missing : Int64} {v_mores : Int32} {v_hash : Int64} {v_path : (Nat → Int32)} {x : Int64} (h : f_Mo_lastLetters x1 v_steps v_path = some x) : ctJ l D cI cJ cZ cO yX10_lastLetters cX10_lastLetters 5 rm_Mo_lastLetters [.ref q_this, .int x1] (ws_Mo_lastLetters cI cJ cZ q_this q_m q_saved q_w q_savedWords q_isSaved q_text q_far q_queue q_parent q_by q_seen q_path q_row q_more q_stateOf v_textLength v_steps v_missing v_mores v_hash v_path) (ws_Mo_lastLetters cI cJ cZ q_this q_m q_saved q_w q_savedWords q_isSaved q_text q_far q_queue q_parent q_by q_seen q_path q_row q_more q_stateOf v_textLength v_steps v_missing v_mores v_hash v_path) x := by
  refine ctJ_of (by decide) (Nat.le_of_ble_eq_true rfl) ?_
  intro p e s m below meth c Q A ls C0 hQ w hl
  have hl : lv_has ls 5 [(0, .ref q_this), (1, .int x1)] := hl
  generalize List.toArray (α := Value) [.ref q_this, .int x1] = args at C0 hQ ⊢
  obtain ⟨hx, hb, hml, hown, hts, -, -⟩ := id C0
  unfold f_Mo_lastLetters at h
  refine lv_lconst (v := (0 : Int64)) hx hb dX10_lastLetters_0 (by decide) ?_
  refine lv_lstore_n (lv' := [(2, .long (0 : Int64)), (0, .ref q_this), (1, .int x1)]) hx hb dX10_lastLetters_1 rfl hl (by decide) rfl (fun ls hl => ?_)
  refine lv_aload_n hx hb dX10_lastLetters_2 rfl (lv_at hl 1 rfl) ?_
  refine r_get C0 w 0 rfl kf_Mo 13 (by decide) lf_RX10_110 rfl dX10_lastLetters_3 ?_
  refine lv_iload_n hx hb dX10_lastLetters_6 rfl (lv_at hl 2 rfl) ?_
  refine lv_isub hx hb dX10_lastLetters_7 ?_
  refine lv_topi (fun x4 ex4 => ?_)
  have h := bnd_at ex4 h
  refine lv_istore (lv' := [(4, .int x4), (2, .long (0 : Int64)), (0, .ref q_this), (1, .int x1)]) hx hb dX10_lastLetters_8 hl (by decide) rfl (fun ls hl => ?_)
  refine wl_Mo_lastLetters_L10 C0 hQ (fun x2 x4_1 H locs ls h w hl => ?_) _ _ _ _ _ _ h w (lv_sub hl [2, 1, 0] rfl)
  refine lv_lload_n hx hb dX10_lastLetters_37 rfl (lv_at hl 0 rfl) ?_
  cases h
  exact hQ _ _ _ _ dX10_lastLetters_38 w
theorem dX10_question_0 : decode cX10_question 0 = .ok (.iconst 0, 1) := by decide +kernel
theorem dX10_question_1 : decode cX10_question 1 = .ok (.istore_n 2, 1) := by decide +kernel
theorem dX10_question_2 : decode cX10_question 2 = .ok (.iconst 0, 1) := by decide +kernel
theorem dX10_question_3 : decode cX10_question 3 = .ok (.istore_n 3, 1) := by decide +kernel
theorem dX10_question_4 : decode cX10_question 4 = .ok (.iload_n 3, 1) := by decide +kernel
theorem dX10_question_5 : decode cX10_question 5 = .ok (.iload_n 1, 1) := by decide +kernel
theorem dX10_question_6 : decode cX10_question 6 = .ok (.if_icmp .ge 29, 3) := by decide +kernel
theorem dX10_question_9 : decode cX10_question 9 = .ok (.aload_n 0, 1) := by decide +kernel
theorem dX10_question_10 : decode cX10_question 10 = .ok (.getfield 7, 3) := by decide +kernel
theorem dX10_question_13 : decode cX10_question 13 = .ok (.sipush 361, 3) := by decide +kernel
theorem dX10_question_16 : decode cX10_question 16 = .ok (.iconst 3, 1) := by decide +kernel
theorem dX10_question_17 : decode cX10_question 17 = .ok (.iload_n 2, 1) := by decide +kernel
theorem dX10_question_18 : decode cX10_question 18 = .ok (.imul, 1) := by decide +kernel
theorem dX10_question_19 : decode cX10_question 19 = .ok (.iadd, 1) := by decide +kernel
theorem dX10_question_20 : decode cX10_question 20 = .ok (.aload_n 0, 1) := by decide +kernel
theorem dX10_question_21 : decode cX10_question 21 = .ok (.getfield 45, 3) := by decide +kernel
theorem dX10_question_24 : decode cX10_question 24 = .ok (.iload_n 3, 1) := by decide +kernel
theorem dX10_question_25 : decode cX10_question 25 = .ok (.iaload, 1) := by decide +kernel
theorem dX10_question_26 : decode cX10_question 26 = .ok (.iadd, 1) := by decide +kernel
theorem dX10_question_27 : decode cX10_question 27 = .ok (.iaload, 1) := by decide +kernel
theorem dX10_question_28 : decode cX10_question 28 = .ok (.istore_n 2, 1) := by decide +kernel
theorem dX10_question_29 : decode cX10_question 29 = .ok (.iinc 3 1, 3) := by decide +kernel
theorem dX10_question_32 : decode cX10_question 32 = .ok (.goto (-28), 3) := by decide +kernel
theorem dX10_question_35 : decode cX10_question 35 = .ok (.aload_n 0, 1) := by decide +kernel
theorem dX10_question_36 : decode cX10_question 36 = .ok (.getfield 16, 3) := by decide +kernel
theorem dX10_question_39 : decode cX10_question 39 = .ok (.sipush 304, 3) := by decide +kernel
theorem dX10_question_42 : decode cX10_question 42 = .ok (.aload_n 0, 1) := by decide +kernel
theorem dX10_question_43 : decode cX10_question 43 = .ok (.getfield 7, 3) := by decide +kernel
theorem dX10_question_46 : decode cX10_question 46 = .ok (.sipush 521, 3) := by decide +kernel
theorem dX10_question_49 : decode cX10_question 49 = .ok (.iload_n 2, 1) := by decide +kernel
theorem dX10_question_50 : decode cX10_question 50 = .ok (.iadd, 1) := by decide +kernel
theorem dX10_question_51 : decode cX10_question 51 = .ok (.iaload, 1) := by decide +kernel
theorem dX10_question_52 : decode cX10_question 52 = .ok (.iadd, 1) := by decide +kernel
theorem dX10_question_53 : decode cX10_question 53 = .ok (.laload, 1) := by decide +kernel
theorem dX10_question_54 : decode cX10_question 54 = .ok (.lstore_n 3, 1) := by decide +kernel
theorem dX10_question_55 : decode cX10_question 55 = .ok (.lload_n 3, 1) := by decide +kernel
theorem dX10_question_56 : decode cX10_question 56 = .ok (.invokestatic 62, 3) := by decide +kernel
theorem dX10_question_59 : decode cX10_question 59 = .ok (.aload_n 0, 1) := by decide +kernel
theorem dX10_question_60 : decode cX10_question 60 = .ok (.getfield 110, 3) := by decide +kernel
theorem dX10_question_63 : decode cX10_question 63 = .ok (.iadd, 1) := by decide +kernel
theorem dX10_question_64 : decode cX10_question 64 = .ok (.iload_n 1, 1) := by decide +kernel
theorem dX10_question_65 : decode cX10_question 65 = .ok (.isub, 1) := by decide +kernel
theorem dX10_question_66 : decode cX10_question 66 = .ok (.bipush 16, 2) := by decide +kernel
theorem dX10_question_68 : decode cX10_question 68 = .ok (.if_icmp .le 8, 3) := by decide +kernel
theorem dX10_question_71 : decode cX10_question 71 = .ok (.bipush (-5), 2) := by decide +kernel
theorem dX10_question_73 : decode cX10_question 73 = .ok (.goto 21, 3) := by decide +kernel
theorem dX10_question_76 : decode cX10_question 76 = .ok (.aload_n 0, 1) := by decide +kernel
theorem dX10_question_77 : decode cX10_question 77 = .ok (.lload_n 3, 1) := by decide +kernel
theorem dX10_question_78 : decode cX10_question 78 = .ok (.aload_n 0, 1) := by decide +kernel
theorem dX10_question_79 : decode cX10_question 79 = .ok (.aload_n 0, 1) := by decide +kernel
theorem dX10_question_80 : decode cX10_question 80 = .ok (.getfield 110, 3) := by decide +kernel
theorem dX10_question_83 : decode cX10_question 83 = .ok (.iload_n 1, 1) := by decide +kernel
theorem dX10_question_84 : decode cX10_question 84 = .ok (.isub, 1) := by decide +kernel
theorem dX10_question_85 : decode cX10_question 85 = .ok (.invokevirtual 166, 3) := by decide +kernel
theorem dX10_question_88 : decode cX10_question 88 = .ok (.invokestatic 137, 3) := by decide +kernel
theorem dX10_question_91 : decode cX10_question 91 = .ok (.invokevirtual 130, 3) := by decide +kernel
theorem dX10_question_94 : decode cX10_question 94 = .ok (.ireturn, 1) := by decide +kernel
set_option maxRecDepth 100000 in
theorem w_Mo_question_L4 {p : Program} {l : Launch} {e : Env} {s : State} {m : MethodId} {args : Array Value} {below : List Frame} {meth : Method} {c : Code} {Q : State → Prop} {A : Nat → Prop} {D : va_G} {cI cJ cZ cO : ClassId} {q_this q_m q_saved q_w q_savedWords q_isSaved q_text q_far q_queue q_parent q_by q_seen q_path q_row q_more q_stateOf : Nat} {v_textLength : Int32} {v_steps : Int32} {v_missing : Int64} {v_mores : Int32} {v_hash : Int64} {v_m : (Nat → Int32)} {v_w : (Nat → Int64)} {v_path : (Nat → Int32)} {x1 : Int32} {x : Int32 × (Nat → Int32) × (Nat → Int64)} (C0 : Cx p s m args c A D cI cJ cZ cO cX10_question 5 RX10) (hQ : RtI p l e rm_Mo_question s m args below meth c Q A D cX10_question .int (ws_Mo_question cI cJ cZ q_this q_m q_saved q_w q_savedWords q_isSaved q_text q_far q_queue q_parent q_by q_seen q_path q_row q_more q_stateOf v_textLength v_steps v_missing v_mores v_hash x.2.1 x.2.2 v_path) x.1) {K : Int32 → Int32 → Option (Int32 × (Nat → Int32) × (Nat → Int64))} (hK : ∀ (x2 : Int32) (x3 : Int32) (H : Heap) (locs : List Loc) (ls : Array Slot), K x2 x3 = some x → Wd s A D (ws_Mo_question cI cJ cZ q_this q_m q_saved q_w q_savedWords q_isSaved q_text q_far q_queue q_parent q_by q_seen q_path q_row q_more q_stateOf v_textLength v_steps v_missing v_mores v_hash v_m v_w v_path) H locs → lv_has ls 5 [(0, .ref q_this), (1, .int x1), (2, .int x2)] → W p l e rm_Mo_question s m args below meth c H locs 0 0 Q (F0 m 35 ls [])) {rec : Int32 → Int32 → Option (Int32 × (Nat → Int32) × (Nat → Int64))} (hrec : ∀ (x2 : Int32) (x3 : Int32) (H : Heap) (locs : List Loc) (ls : Array Slot), rec x2 x3 = some x → Wd s A D (ws_Mo_question cI cJ cZ q_this q_m q_saved q_w q_savedWords q_isSaved q_text q_far q_queue q_parent q_by q_seen q_path q_row q_more q_stateOf v_textLength v_steps v_missing v_mores v_hash v_m v_w v_path) H locs → lv_has ls 5 [(0, .ref q_this), (1, .int x1), (2, .int x2), (3, .int x3)] → W p l e rm_Mo_question s m args below meth c H locs 0 0 Q (F0 m 4 ls [])) (x2 : Int32) (x3 : Int32) {H : Heap} {locs : List Loc} {ls : Array Slot} (h : f_Mo_question_L4 v_m v_path x1 K rec x2 x3 = some x) (w : Wd s A D (ws_Mo_question cI cJ cZ q_this q_m q_saved q_w q_savedWords q_isSaved q_text q_far q_queue q_parent q_by q_seen q_path q_row q_more q_stateOf v_textLength v_steps v_missing v_mores v_hash v_m v_w v_path) H locs) (hl : lv_has ls 5 [(0, .ref q_this), (1, .int x1), (2, .int x2), (3, .int x3)]) : W p l e rm_Mo_question s m args below meth c H locs 0 0 Q (F0 m 4 ls []) := by
  obtain ⟨hx, hb, hml, hown, hts, -, -⟩ := id C0
  unfold f_Mo_question_L4 at h
  refine lv_iload_n hx hb dX10_question_4 rfl (lv_at hl 3 rfl) ?_
  refine lv_iload_n hx hb dX10_question_5 rfl (lv_at hl 1 rfl) ?_
  refine lv_icmp_ge (tgt := 35) hx hb dX10_question_6 (by decide) (fun hc => ?_) (fun hc => ?_)
  · have h := if_h hc h
    exact hK _ _ _ _ _ h w (lv_sub hl [0, 1, 2] rfl)
  · have h := nf_h hc h
    refine lv_aload_n hx hb dX10_question_9 rfl (lv_at hl 0 rfl) ?_
    refine r_get C0 w 0 rfl kf_Mo 0 (by decide) lf_RX10_7 rfl dX10_question_10 ?_
    refine lv_sipush (v := (361 : Int32)) hx hb dX10_question_13 (by decide) ?_
    refine lv_iconst (v := (3 : Int32)) hx hb dX10_question_16 (by decide) ?_
    refine lv_iload_n hx hb dX10_question_17 rfl (lv_at hl 2 rfl) ?_
    refine lv_imul hx hb dX10_question_18 ?_
    refine lv_iadd hx hb dX10_question_19 ?_
    refine lv_aload_n hx hb dX10_question_20 rfl (lv_at hl 0 rfl) ?_
    refine r_get C0 w 0 rfl kf_Mo 12 (by decide) lf_RX10_45 rfl dX10_question_21 ?_
    refine lv_iload_n hx hb dX10_question_24 rfl (lv_at hl 3 rfl) ?_
    obtain ⟨hi, h⟩ := gIn_h h
    refine r_iald C0 w 3 rfl rfl hi dX10_question_25 ?_
    refine lv_iadd hx hb dX10_question_26 ?_
    obtain ⟨hi, h⟩ := gIn_h h
    refine r_iald C0 w 1 rfl rfl hi dX10_question_27 ?_
    refine lv_topi (fun x2_1 ex2_1 => ?_)
    have h := bnd_at ex2_1 h
    refine lv_istore_n (lv' := [(2, .int x2_1), (0, .ref q_this), (1, .int x1), (3, .int x3)]) hx hb dX10_question_28 rfl hl (by decide) rfl (fun ls hl => ?_)
    obtain ⟨x3_1, ex3_1⟩ : ∃ y : Int32, y = (x3 + 1) := ⟨_, rfl⟩
    have h := bnd_at ex3_1 h
    refine lv_iinc (v := x3_1) (lv' := [(3, .int x3_1), (2, .int x2_1), (0, .ref q_this), (1, .int x1)]) hx hb dX10_question_29 hl (k := 3) rfl (by rw [ex3_1]; rfl) (by decide) rfl (fun ls hl => ?_)
    refine lv_goto (tgt := 4) hx hb dX10_question_32 (by decide) ?_
    exact hrec _ _ _ _ _ h w (lv_sub hl [2, 3, 1, 0] rfl)
set_option maxRecDepth 100000 in
theorem wl_Mo_question_L4 {p : Program} {l : Launch} {e : Env} {s : State} {m : MethodId} {args : Array Value} {below : List Frame} {meth : Method} {c : Code} {Q : State → Prop} {A : Nat → Prop} {D : va_G} {cI cJ cZ cO : ClassId} {q_this q_m q_saved q_w q_savedWords q_isSaved q_text q_far q_queue q_parent q_by q_seen q_path q_row q_more q_stateOf : Nat} {v_textLength : Int32} {v_steps : Int32} {v_missing : Int64} {v_mores : Int32} {v_hash : Int64} {v_m : (Nat → Int32)} {v_w : (Nat → Int64)} {v_path : (Nat → Int32)} {x1 : Int32} {x : Int32 × (Nat → Int32) × (Nat → Int64)} (C0 : Cx p s m args c A D cI cJ cZ cO cX10_question 5 RX10) (hQ : RtI p l e rm_Mo_question s m args below meth c Q A D cX10_question .int (ws_Mo_question cI cJ cZ q_this q_m q_saved q_w q_savedWords q_isSaved q_text q_far q_queue q_parent q_by q_seen q_path q_row q_more q_stateOf v_textLength v_steps v_missing v_mores v_hash x.2.1 x.2.2 v_path) x.1) {K : Int32 → Int32 → Option (Int32 × (Nat → Int32) × (Nat → Int64))} (hK : ∀ (x2 : Int32) (x3 : Int32) (H : Heap) (locs : List Loc) (ls : Array Slot), K x2 x3 = some x → Wd s A D (ws_Mo_question cI cJ cZ q_this q_m q_saved q_w q_savedWords q_isSaved q_text q_far q_queue q_parent q_by q_seen q_path q_row q_more q_stateOf v_textLength v_steps v_missing v_mores v_hash v_m v_w v_path) H locs → lv_has ls 5 [(0, .ref q_this), (1, .int x1), (2, .int x2)] → W p l e rm_Mo_question s m args below meth c H locs 0 0 Q (F0 m 35 ls [])) : ∀ (n : Nat) (x2 : Int32) (x3 : Int32) (H : Heap) (locs : List Loc) (ls : Array Slot), itr (fun _ _ => none) (f_Mo_question_L4 v_m v_path x1 K) n x2 x3 = some x → Wd s A D (ws_Mo_question cI cJ cZ q_this q_m q_saved q_w q_savedWords q_isSaved q_text q_far q_queue q_parent q_by q_seen q_path q_row q_more q_stateOf v_textLength v_steps v_missing v_mores v_hash v_m v_w v_path) H locs → lv_has ls 5 [(0, .ref q_this), (1, .int x1), (2, .int x2), (3, .int x3)] → W p l e rm_Mo_question s m args below meth c H locs 0 0 Q (F0 m 4 ls []) := by
  intro n
  induction n with
  | zero => intro _ _ _ _ _ h; cases (show none = some _ from h)
  | succ n ih => intro _ _ _ _ _ h w hl; exact w_Mo_question_L4 C0 hQ hK ih _ _ h w hl
set_option maxRecDepth 100000 in
theorem c_Mo_question {l : Launch} {D : va_G} {cI cJ cZ cO : ClassId} {q_this q_m q_saved q_w q_savedWords q_isSaved q_text q_far q_queue q_parent q_by q_seen q_path q_row q_more q_stateOf : Nat} {x1 : Int32} {v_textLength : Int32} {v_steps : Int32} {v_missing : Int64} {v_mores : Int32} {v_hash : Int64} {v_m : (Nat → Int32)} {v_w : (Nat → Int64)} {v_path : (Nat → Int32)} {x : Int32 × (Nat → Int32) × (Nat → Int64)} (h : f_Mo_question x1 v_steps v_m v_w v_path = some x) : ctI l D cI cJ cZ cO yX10_question cX10_question 5 .int rm_Mo_question [.ref q_this, .int x1] (ws_Mo_question cI cJ cZ q_this q_m q_saved q_w q_savedWords q_isSaved q_text q_far q_queue q_parent q_by q_seen q_path q_row q_more q_stateOf v_textLength v_steps v_missing v_mores v_hash v_m v_w v_path) (ws_Mo_question cI cJ cZ q_this q_m q_saved q_w q_savedWords q_isSaved q_text q_far q_queue q_parent q_by q_seen q_path q_row q_more q_stateOf v_textLength v_steps v_missing v_mores v_hash x.2.1 x.2.2 v_path) x.1 := by
  refine ctI_of (by decide) (Nat.le_of_ble_eq_true rfl) ?_
  intro p e s m below meth c Q A ls C0 hQ w hl
  have hl : lv_has ls 5 [(0, .ref q_this), (1, .int x1)] := hl
  generalize List.toArray (α := Value) [.ref q_this, .int x1] = args at C0 hQ ⊢
  obtain ⟨hx, hb, hml, hown, hts, -, -⟩ := id C0
  unfold f_Mo_question at h
  refine lv_iconst (v := (0 : Int32)) hx hb dX10_question_0 (by decide) ?_
  refine lv_istore_n (lv' := [(2, .int (0 : Int32)), (0, .ref q_this), (1, .int x1)]) hx hb dX10_question_1 rfl hl (by decide) rfl (fun ls hl => ?_)
  refine lv_iconst (v := (0 : Int32)) hx hb dX10_question_2 (by decide) ?_
  refine lv_istore_n (lv' := [(3, .int (0 : Int32)), (2, .int (0 : Int32)), (0, .ref q_this), (1, .int x1)]) hx hb dX10_question_3 rfl hl (by decide) rfl (fun ls hl => ?_)
  refine wl_Mo_question_L4 C0 hQ (fun x2 x3 H locs ls h w hl => ?_) _ _ _ _ _ _ h w (lv_sub hl [2, 3, 1, 0] rfl)
  refine lv_aload_n hx hb dX10_question_35 rfl (lv_at hl 0 rfl) ?_
  refine r_get C0 w 0 rfl kf_Mo 2 (by decide) lf_RX10_16 rfl dX10_question_36 ?_
  refine lv_sipush (v := (304 : Int32)) hx hb dX10_question_39 (by decide) ?_
  refine lv_aload_n hx hb dX10_question_42 rfl (lv_at hl 0 rfl) ?_
  refine r_get C0 w 0 rfl kf_Mo 0 (by decide) lf_RX10_7 rfl dX10_question_43 ?_
  refine lv_sipush (v := (521 : Int32)) hx hb dX10_question_46 (by decide) ?_
  refine lv_iload_n hx hb dX10_question_49 rfl (lv_at hl 2 rfl) ?_
  refine lv_iadd hx hb dX10_question_50 ?_
  obtain ⟨hi, h⟩ := gIn_h h
  refine r_iald C0 w 1 rfl rfl hi dX10_question_51 ?_
  refine lv_iadd hx hb dX10_question_52 ?_
  obtain ⟨hi, h⟩ := gIn_h h
  refine r_lald C0 w 2 rfl rfl hi dX10_question_53 ?_
  refine lv_topl (fun x3_1 ex3_1 => ?_)
  have h := bnd_at ex3_1 h
  refine lv_lstore_n (lv' := [(3, .long x3_1), (0, .ref q_this), (1, .int x1), (2, .int x2)]) hx hb dX10_question_54 rfl hl (by decide) rfl (fun ls hl => ?_)
  refine lv_lload_n hx hb dX10_question_55 rfl (lv_at hl 0 rfl) ?_
  obtain ⟨r, hcall, h⟩ := bd1_h h
  obtain ⟨wr, hp, hp'⟩ := rd_of (ws := (ws_Mo_question cI cJ cZ q_this q_m q_saved q_w q_savedWords q_isSaved q_text q_far q_queue q_parent q_by q_seen q_path q_row q_more q_stateOf v_textLength v_steps v_missing v_mores v_hash v_m v_w v_path)) (wc := (ws_Mo_lengthOf cI cJ cZ)) [] rfl rfl
  refine r_SI (r := r) (As := [.long x3_1]) (rest := []) (wc' := (ws_Mo_lengthOf cI cJ cZ)) (ws' := (ws_Mo_question cI cJ cZ q_this q_m q_saved q_w q_savedWords q_isSaved q_text q_far q_queue q_parent q_by q_seen q_path q_row q_more q_stateOf v_textLength v_steps v_missing v_mores v_hash v_m v_w v_path)) C0 w (c_Mo_lengthOf hcall) hp hp' lm_RX10_62 ms_Mo_lengthOf ⟨rfl, rfl⟩ ⟨by decide, by decide⟩ ⟨Nat.zero_le _, Nat.zero_le _⟩ rfl hl rfl (Nat.le_of_ble_eq_true rfl) dX10_question_56 (fun H locs w => ?_)
  refine lv_aload_n hx hb dX10_question_59 rfl (lv_at hl 1 rfl) ?_
  refine r_get C0 w 0 rfl kf_Mo 13 (by decide) lf_RX10_110 rfl dX10_question_60 ?_
  refine lv_iadd hx hb dX10_question_63 ?_
  refine lv_iload_n hx hb dX10_question_64 rfl (lv_at hl 2 rfl) ?_
  refine lv_isub hx hb dX10_question_65 ?_
  refine lv_bipush (v := (16 : Int32)) hx hb dX10_question_66 (by decide) ?_
  refine lv_icmp_le (tgt := 76) hx hb dX10_question_68 (by decide) (fun hc => ?_) (fun hc => ?_)
  · have h := if_h hc h
    refine lv_aload_n hx hb dX10_question_76 rfl (lv_at hl 1 rfl) ?_
    refine lv_lload_n hx hb dX10_question_77 rfl (lv_at hl 0 rfl) ?_
    refine lv_aload_n hx hb dX10_question_78 rfl (lv_at hl 1 rfl) ?_
    refine lv_aload_n hx hb dX10_question_79 rfl (lv_at hl 1 rfl) ?_
    refine r_get C0 w 0 rfl kf_Mo 13 (by decide) lf_RX10_110 rfl dX10_question_80 ?_
    refine lv_iload_n hx hb dX10_question_83 rfl (lv_at hl 2 rfl) ?_
    refine lv_isub hx hb dX10_question_84 ?_
    obtain ⟨r_1, hcall, h⟩ := bd1_h h
    obtain ⟨wr, hp, hp'⟩ := rd_of (ws := (ws_Mo_question cI cJ cZ q_this q_m q_saved q_w q_savedWords q_isSaved q_text q_far q_queue q_parent q_by q_seen q_path q_row q_more q_stateOf v_textLength v_steps v_missing v_mores v_hash v_m v_w v_path)) (wc := (ws_Mo_lastLetters cI cJ cZ q_this q_m q_saved q_w q_savedWords q_isSaved q_text q_far q_queue q_parent q_by q_seen q_path q_row q_more q_stateOf v_textLength v_steps v_missing v_mores v_hash v_path)) [0, 3] rfl rfl
    refine r_VJ (r := r_1) (As := [.int (v_steps - x1)]) (rest := [.long x3_1, .ref q_this]) (wc' := (ws_Mo_lastLetters cI cJ cZ q_this q_m q_saved q_w q_savedWords q_isSaved q_text q_far q_queue q_parent q_by q_seen q_path q_row q_more q_stateOf v_textLength v_steps v_missing v_mores v_hash v_path)) (ws' := (ws_Mo_question cI cJ cZ q_this q_m q_saved q_w q_savedWords q_isSaved q_text q_far q_queue q_parent q_by q_seen q_path q_row q_more q_stateOf v_textLength v_steps v_missing v_mores v_hash v_m v_w v_path)) C0 w (c_Mo_lastLetters hcall) hp hp' lm_RX10_166 mv_Mo_lastLetters ⟨rfl, rfl⟩ ⟨by decide, by decide⟩ ⟨Nat.zero_le _, Nat.zero_le _⟩ (q0 := 0) rfl rfl rfl rfl hl rfl (Nat.le_of_ble_eq_true rfl) dX10_question_85 (fun H locs w => ?_)
    obtain ⟨r_2, hcall, h⟩ := bd1_h h
    obtain ⟨wr, hp, hp'⟩ := rd_of (ws := (ws_Mo_question cI cJ cZ q_this q_m q_saved q_w q_savedWords q_isSaved q_text q_far q_queue q_parent q_by q_seen q_path q_row q_more q_stateOf v_textLength v_steps v_missing v_mores v_hash v_m v_w v_path)) (wc := (ws_Mo_joined cI cJ cZ)) [] rfl rfl
    refine r_SJ (r := r_2) (As := [.long x3_1, .long r_1]) (rest := [.ref q_this]) (wc' := (ws_Mo_joined cI cJ cZ)) (ws' := (ws_Mo_question cI cJ cZ q_this q_m q_saved q_w q_savedWords q_isSaved q_text q_far q_queue q_parent q_by q_seen q_path q_row q_more q_stateOf v_textLength v_steps v_missing v_mores v_hash v_m v_w v_path)) C0 w (c_Mo_joined hcall) hp hp' lm_RX10_137 ms_Mo_joined ⟨rfl, rfl⟩ ⟨by decide, by decide⟩ ⟨Nat.zero_le _, Nat.zero_le _⟩ rfl hl rfl (Nat.le_of_ble_eq_true rfl) dX10_question_88 (fun H locs w => ?_)
    obtain ⟨r_3, v_m_1, v_w_1, hcall, h⟩ := bd3_h h
    have hp := sp_of (ws := (ws_Mo_question cI cJ cZ q_this q_m q_saved q_w q_savedWords q_isSaved q_text q_far q_queue q_parent q_by q_seen q_path q_row q_more q_stateOf v_textLength v_steps v_missing v_mores v_hash v_m v_w v_path)) (wc := (ws_Mo_asks cI cJ cZ q_this q_m q_saved q_w q_savedWords q_isSaved q_text q_far q_queue q_parent q_by q_seen q_path q_row q_more q_stateOf v_textLength v_steps v_missing v_mores v_hash v_m v_w)) [0, 1, 2] [3] rfl rfl
    have hp' : Rp (pk (ws_Mo_question cI cJ cZ q_this q_m q_saved q_w q_savedWords q_isSaved q_text q_far q_queue q_parent q_by q_seen q_path q_row q_more q_stateOf v_textLength v_steps v_missing v_mores v_hash v_m v_w v_path) [3] ++ (ws_Mo_asks cI cJ cZ q_this q_m q_saved q_w q_savedWords q_isSaved q_text q_far q_queue q_parent q_by q_seen q_path q_row q_more q_stateOf v_textLength v_steps v_missing v_mores v_hash v_m_1 v_w_1)) (ws_Mo_question cI cJ cZ q_this q_m q_saved q_w q_savedWords q_isSaved q_text q_far q_queue q_parent q_by q_seen q_path q_row q_more q_stateOf v_textLength v_steps v_missing v_mores v_hash v_m_1 v_w_1 v_path) := ⟨[1, 2, 3, 0], rfl, rfl⟩
    refine r_VI (r := r_3) (As := [.long r_2]) (rest := []) (wc' := (ws_Mo_asks cI cJ cZ q_this q_m q_saved q_w q_savedWords q_isSaved q_text q_far q_queue q_parent q_by q_seen q_path q_row q_more q_stateOf v_textLength v_steps v_missing v_mores v_hash v_m_1 v_w_1)) (ws' := (ws_Mo_question cI cJ cZ q_this q_m q_saved q_w q_savedWords q_isSaved q_text q_far q_queue q_parent q_by q_seen q_path q_row q_more q_stateOf v_textLength v_steps v_missing v_mores v_hash v_m_1 v_w_1 v_path)) C0 w (c_Mo_asks hcall) hp hp' lm_RX10_130 mv_Mo_asks ⟨rfl, rfl⟩ ⟨by decide, by decide⟩ ⟨Nat.zero_le _, Nat.zero_le _⟩ (q0 := 0) rfl rfl rfl rfl hl rfl (Nat.le_of_ble_eq_true rfl) dX10_question_91 (fun H locs w => ?_)
    cases h
    exact hQ _ _ _ _ dX10_question_94 rfl w
  · have h := nf_h hc h
    refine lv_bipush (v := (-5 : Int32)) hx hb dX10_question_71 (by decide) ?_
    refine lv_goto (tgt := 94) hx hb dX10_question_73 (by decide) ?_
    cases h
    exact hQ _ _ _ _ dX10_question_94 rfl w
theorem dX10_halves_0 : decode cX10_halves 0 = .ok (.aload_n 0, 1) := by decide +kernel
theorem dX10_halves_1 : decode cX10_halves 1 = .ok (.iconst 0, 1) := by decide +kernel
theorem dX10_halves_2 : decode cX10_halves 2 = .ok (.invokevirtual 169, 3) := by decide +kernel
theorem dX10_halves_5 : decode cX10_halves 5 = .ok (.istore_n 1, 1) := by decide +kernel
theorem dX10_halves_6 : decode cX10_halves 6 = .ok (.iconst 0, 1) := by decide +kernel
theorem dX10_halves_7 : decode cX10_halves 7 = .ok (.istore_n 2, 1) := by decide +kernel
theorem dX10_halves_8 : decode cX10_halves 8 = .ok (.aload_n 0, 1) := by decide +kernel
theorem dX10_halves_9 : decode cX10_halves 9 = .ok (.getfield 110, 3) := by decide +kernel
theorem dX10_halves_12 : decode cX10_halves 12 = .ok (.istore_n 3, 1) := by decide +kernel
theorem dX10_halves_13 : decode cX10_halves 13 = .ok (.iload_n 1, 1) := by decide +kernel
theorem dX10_halves_14 : decode cX10_halves 14 = .ok (.ifCond .lt 62, 3) := by decide +kernel
theorem dX10_halves_17 : decode cX10_halves 17 = .ok (.iload_n 3, 1) := by decide +kernel
theorem dX10_halves_18 : decode cX10_halves 18 = .ok (.iload_n 2, 1) := by decide +kernel
theorem dX10_halves_19 : decode cX10_halves 19 = .ok (.isub, 1) := by decide +kernel
theorem dX10_halves_20 : decode cX10_halves 20 = .ok (.iconst 1, 1) := by decide +kernel
theorem dX10_halves_21 : decode cX10_halves 21 = .ok (.if_icmp .le 55, 3) := by decide +kernel
theorem dX10_halves_24 : decode cX10_halves 24 = .ok (.iload_n 2, 1) := by decide +kernel
theorem dX10_halves_25 : decode cX10_halves 25 = .ok (.iload_n 3, 1) := by decide +kernel
theorem dX10_halves_26 : decode cX10_halves 26 = .ok (.iadd, 1) := by decide +kernel
theorem dX10_halves_27 : decode cX10_halves 27 = .ok (.iconst 2, 1) := by decide +kernel
theorem dX10_halves_28 : decode cX10_halves 28 = .ok (.idiv, 1) := by decide +kernel
theorem dX10_halves_29 : decode cX10_halves 29 = .ok (.istore 4, 2) := by decide +kernel
theorem dX10_halves_31 : decode cX10_halves 31 = .ok (.aload_n 0, 1) := by decide +kernel
theorem dX10_halves_32 : decode cX10_halves 32 = .ok (.iload 4, 2) := by decide +kernel
theorem dX10_halves_34 : decode cX10_halves 34 = .ok (.invokevirtual 169, 3) := by decide +kernel
theorem dX10_halves_37 : decode cX10_halves 37 = .ok (.istore 5, 2) := by decide +kernel
theorem dX10_halves_39 : decode cX10_halves 39 = .ok (.iload 5, 2) := by decide +kernel
theorem dX10_halves_41 : decode cX10_halves 41 = .ok (.ifCond .ge 6, 3) := by decide +kernel
theorem dX10_halves_44 : decode cX10_halves 44 = .ok (.iload 5, 2) := by decide +kernel
theorem dX10_halves_46 : decode cX10_halves 46 = .ok (.ireturn, 1) := by decide +kernel
theorem dX10_halves_47 : decode cX10_halves 47 = .ok (.iload 5, 2) := by decide +kernel
theorem dX10_halves_49 : decode cX10_halves 49 = .ok (.iload_n 1, 1) := by decide +kernel
theorem dX10_halves_50 : decode cX10_halves 50 = .ok (.if_icmp .ne 8, 3) := by decide +kernel
theorem dX10_halves_53 : decode cX10_halves 53 = .ok (.iload 4, 2) := by decide +kernel
theorem dX10_halves_55 : decode cX10_halves 55 = .ok (.goto 4, 3) := by decide +kernel
theorem dX10_halves_58 : decode cX10_halves 58 = .ok (.iload_n 2, 1) := by decide +kernel
theorem dX10_halves_59 : decode cX10_halves 59 = .ok (.istore_n 2, 1) := by decide +kernel
theorem dX10_halves_60 : decode cX10_halves 60 = .ok (.iload 5, 2) := by decide +kernel
theorem dX10_halves_62 : decode cX10_halves 62 = .ok (.iload_n 1, 1) := by decide +kernel
theorem dX10_halves_63 : decode cX10_halves 63 = .ok (.if_icmp .ne 7, 3) := by decide +kernel
theorem dX10_halves_66 : decode cX10_halves 66 = .ok (.iload_n 3, 1) := by decide +kernel
theorem dX10_halves_67 : decode cX10_halves 67 = .ok (.goto 5, 3) := by decide +kernel
theorem dX10_halves_70 : decode cX10_halves 70 = .ok (.iload 4, 2) := by decide +kernel
theorem dX10_halves_72 : decode cX10_halves 72 = .ok (.istore_n 3, 1) := by decide +kernel
theorem dX10_halves_73 : decode cX10_halves 73 = .ok (.goto (-60), 3) := by decide +kernel
theorem dX10_halves_76 : decode cX10_halves 76 = .ok (.iload_n 1, 1) := by decide +kernel
theorem dX10_halves_77 : decode cX10_halves 77 = .ok (.ifCond .ge 7, 3) := by decide +kernel
theorem dX10_halves_80 : decode cX10_halves 80 = .ok (.iload_n 1, 1) := by decide +kernel
theorem dX10_halves_81 : decode cX10_halves 81 = .ok (.goto 4, 3) := by decide +kernel
theorem dX10_halves_84 : decode cX10_halves 84 = .ok (.iload_n 3, 1) := by decide +kernel
theorem dX10_halves_85 : decode cX10_halves 85 = .ok (.ireturn, 1) := by decide +kernel
set_option maxRecDepth 100000 in
theorem w_Mo_halves_L13 {p : Program} {l : Launch} {e : Env} {s : State} {m : MethodId} {args : Array Value} {below : List Frame} {meth : Method} {c : Code} {Q : State → Prop} {A : Nat → Prop} {D : va_G} {cI cJ cZ cO : ClassId} {q_this q_m q_saved q_w q_savedWords q_isSaved q_text q_far q_queue q_parent q_by q_seen q_path q_row q_more q_stateOf : Nat} {v_textLength : Int32} {v_steps : Int32} {v_missing : Int64} {v_mores : Int32} {v_hash : Int64} {v_path : (Nat → Int32)} {x1 : Int32} {x : Int32 × (Nat → Int32) × (Nat → Int64)} (C0 : Cx p s m args c A D cI cJ cZ cO cX10_halves 6 RX10) (hQ : RtI p l e rm_Mo_halves s m args below meth c Q A D cX10_halves .int (ws_Mo_halves cI cJ cZ q_this q_m q_saved q_w q_savedWords q_isSaved q_text q_far q_queue q_parent q_by q_seen q_path q_row q_more q_stateOf v_textLength v_steps v_missing v_mores v_hash x.2.1 x.2.2 v_path) x.1) {K : Int32 → Int32 → (Nat → Int32) → (Nat → Int64) → Option (Int32 × (Nat → Int32) × (Nat → Int64))} (hK : ∀ (x2 : Int32) (x3 : Int32) (v_m : (Nat → Int32)) (v_w : (Nat → Int64)) (H : Heap) (locs : List Loc) (ls : Array Slot), K x2 x3 v_m v_w = some x → Wd s A D (ws_Mo_halves cI cJ cZ q_this q_m q_saved q_w q_savedWords q_isSaved q_text q_far q_queue q_parent q_by q_seen q_path q_row q_more q_stateOf v_textLength v_steps v_missing v_mores v_hash v_m v_w v_path) H locs → lv_has ls 6 [(1, .int x1), (3, .int x3)] → W p l e rm_Mo_halves s m args below meth c H locs 0 0 Q (F0 m 76 ls [])) {rec : Int32 → Int32 → (Nat → Int32) → (Nat → Int64) → Option (Int32 × (Nat → Int32) × (Nat → Int64))} (hrec : ∀ (x2 : Int32) (x3 : Int32) (v_m : (Nat → Int32)) (v_w : (Nat → Int64)) (H : Heap) (locs : List Loc) (ls : Array Slot), rec x2 x3 v_m v_w = some x → Wd s A D (ws_Mo_halves cI cJ cZ q_this q_m q_saved q_w q_savedWords q_isSaved q_text q_far q_queue q_parent q_by q_seen q_path q_row q_more q_stateOf v_textLength v_steps v_missing v_mores v_hash v_m v_w v_path) H locs → lv_has ls 6 [(0, .ref q_this), (1, .int x1), (2, .int x2), (3, .int x3)] → W p l e rm_Mo_halves s m args below meth c H locs 0 0 Q (F0 m 13 ls [])) (x2 : Int32) (x3 : Int32) (v_m : (Nat → Int32)) (v_w : (Nat → Int64)) {H : Heap} {locs : List Loc} {ls : Array Slot} (h : f_Mo_halves_L13 v_steps v_path x1 K rec x2 x3 v_m v_w = some x) (w : Wd s A D (ws_Mo_halves cI cJ cZ q_this q_m q_saved q_w q_savedWords q_isSaved q_text q_far q_queue q_parent q_by q_seen q_path q_row q_more q_stateOf v_textLength v_steps v_missing v_mores v_hash v_m v_w v_path) H locs) (hl : lv_has ls 6 [(0, .ref q_this), (1, .int x1), (2, .int x2), (3, .int x3)]) : W p l e rm_Mo_halves s m args below meth c H locs 0 0 Q (F0 m 13 ls []) := by
  obtain ⟨hx, hb, hml, hown, hts, -, -⟩ := id C0
  unfold f_Mo_halves_L13 at h
  refine lv_iload_n hx hb dX10_halves_13 rfl (lv_at hl 1 rfl) ?_
  refine lv_if_lt (tgt := 76) hx hb dX10_halves_14 (by decide) (fun hc => ?_) (fun hc => ?_)
  · have h := if_h hc h
    exact hK _ _ _ _ _ _ _ h w (lv_sub hl [1, 3] rfl)
  · have h := nf_h hc h
    refine lv_iload_n hx hb dX10_halves_17 rfl (lv_at hl 3 rfl) ?_
    refine lv_iload_n hx hb dX10_halves_18 rfl (lv_at hl 2 rfl) ?_
    refine lv_isub hx hb dX10_halves_19 ?_
    refine lv_iconst (v := (1 : Int32)) hx hb dX10_halves_20 (by decide) ?_
    refine lv_icmp_le (tgt := 76) hx hb dX10_halves_21 (by decide) (fun hc => ?_) (fun hc => ?_)
    · have h := if_h hc h
      exact hK _ _ _ _ _ _ _ h w (lv_sub hl [1, 3] rfl)
    · have h := nf_h hc h
      refine lv_iload_n hx hb dX10_halves_24 rfl (lv_at hl 2 rfl) ?_
      refine lv_iload_n hx hb dX10_halves_25 rfl (lv_at hl 3 rfl) ?_
      refine lv_iadd hx hb dX10_halves_26 ?_
      refine lv_iconst (v := (2 : Int32)) hx hb dX10_halves_27 (by decide) ?_
      refine lv_idiv hx hb dX10_halves_28 (by decide) ?_
      refine lv_topi (fun x4 ex4 => ?_)
      have h := bnd_at ex4 h
      refine lv_istore (lv' := [(4, .int x4), (0, .ref q_this), (1, .int x1), (2, .int x2), (3, .int x3)]) hx hb dX10_halves_29 hl (by decide) rfl (fun ls hl => ?_)
      refine lv_aload_n hx hb dX10_halves_31 rfl (lv_at hl 1 rfl) ?_
      refine lv_iload hx hb dX10_halves_32 (lv_at hl 0 rfl) ?_
      obtain ⟨r, v_m_1, v_w_1, hcall, h⟩ := bd3_h h
      have hp := sp_of (ws := (ws_Mo_halves cI cJ cZ q_this q_m q_saved q_w q_savedWords q_isSaved q_text q_far q_queue q_parent q_by q_seen q_path q_row q_more q_stateOf v_textLength v_steps v_missing v_mores v_hash v_m v_w v_path)) (wc := (ws_Mo_question cI cJ cZ q_this q_m q_saved q_w q_savedWords q_isSaved q_text q_far q_queue q_parent q_by q_seen q_path q_row q_more q_stateOf v_textLength v_steps v_missing v_mores v_hash v_m v_w v_path)) [0, 1, 2, 3] [] rfl rfl
      have hp' : Rp (pk (ws_Mo_halves cI cJ cZ q_this q_m q_saved q_w q_savedWords q_isSaved q_text q_far q_queue q_parent q_by q_seen q_path q_row q_more q_stateOf v_textLength v_steps v_missing v_mores v_hash v_m v_w v_path) [] ++ (ws_Mo_question cI cJ cZ q_this q_m q_saved q_w q_savedWords q_isSaved q_text q_far q_queue q_parent q_by q_seen q_path q_row q_more q_stateOf v_textLength v_steps v_missing v_mores v_hash v_m_1 v_w_1 v_path)) (ws_Mo_halves cI cJ cZ q_this q_m q_saved q_w q_savedWords q_isSaved q_text q_far q_queue q_parent q_by q_seen q_path q_row q_more q_stateOf v_textLength v_steps v_missing v_mores v_hash v_m_1 v_w_1 v_path) := ⟨[0, 1, 2, 3], rfl, rfl⟩
      refine r_VI (r := r) (As := [.int x4]) (rest := []) (wc' := (ws_Mo_question cI cJ cZ q_this q_m q_saved q_w q_savedWords q_isSaved q_text q_far q_queue q_parent q_by q_seen q_path q_row q_more q_stateOf v_textLength v_steps v_missing v_mores v_hash v_m_1 v_w_1 v_path)) (ws' := (ws_Mo_halves cI cJ cZ q_this q_m q_saved q_w q_savedWords q_isSaved q_text q_far q_queue q_parent q_by q_seen q_path q_row q_more q_stateOf v_textLength v_steps v_missing v_mores v_hash v_m_1 v_w_1 v_path)) C0 w (c_Mo_question hcall) hp hp' lm_RX10_169 mv_Mo_question ⟨rfl, rfl⟩ ⟨by decide, by decide⟩ ⟨Nat.zero_le _, Nat.zero_le _⟩ (q0 := 0) rfl rfl rfl rfl hl rfl (Nat.le_of_ble_eq_true rfl) dX10_halves_34 (fun H locs w => ?_)
      refine lv_istore (lv' := [(5, .int r), (4, .int x4), (0, .ref q_this), (1, .int x1), (2, .int x2), (3, .int x3)]) hx hb dX10_halves_37 hl (by decide) rfl (fun ls hl => ?_)
      refine lv_iload hx hb dX10_halves_39 (lv_at hl 0 rfl) ?_
      refine lv_if_ge (tgt := 47) hx hb dX10_halves_41 (by decide) (fun hc => ?_) (fun hc => ?_)
      · have h := if_h hc h
        refine lv_iload hx hb dX10_halves_47 (lv_at hl 0 rfl) ?_
        refine lv_iload_n hx hb dX10_halves_49 rfl (lv_at hl 3 rfl) ?_
        obtain ⟨t, et⟩ : ∃ y : Int32, y = (if r = x1 then x4 else x2) := ⟨_, rfl⟩
        have h := bnd_at et h
        have J : W p l e rm_Mo_halves s m args below meth c H locs 0 0 Q (F0 m 59 ls [.int t]) := by
          refine lv_istore_n (lv' := [(2, .int t), (5, .int r), (4, .int x4), (0, .ref q_this), (1, .int x1), (3, .int x3)]) hx hb dX10_halves_59 rfl hl (by decide) rfl (fun ls hl => ?_)
          refine lv_iload hx hb dX10_halves_60 (lv_at hl 1 rfl) ?_
          refine lv_iload_n hx hb dX10_halves_62 rfl (lv_at hl 4 rfl) ?_
          obtain ⟨t_1, et_1⟩ : ∃ y : Int32, y = (if r = x1 then x3 else x4) := ⟨_, rfl⟩
          have h := bnd_at et_1 h
          have J : W p l e rm_Mo_halves s m args below meth c H locs 0 0 Q (F0 m 72 ls [.int t_1]) := by
            refine lv_istore_n (lv' := [(3, .int t_1), (2, .int t), (5, .int r), (4, .int x4), (0, .ref q_this), (1, .int x1)]) hx hb dX10_halves_72 rfl hl (by decide) rfl (fun ls hl => ?_)
            refine lv_goto (tgt := 13) hx hb dX10_halves_73 (by decide) ?_
            exact hrec _ _ _ _ _ _ _ h w (lv_sub hl [4, 5, 1, 0] rfl)
          refine lv_icmp_ne (tgt := 70) hx hb dX10_halves_63 (by decide) (fun hc => ?_) (fun hc => ?_)
          · refine lv_iload hx hb dX10_halves_70 (lv_at hl 2 rfl) ?_
            exact r_eqi (et_1.trans (if_neg hc)) J
          · refine lv_iload_n hx hb dX10_halves_66 rfl (lv_at hl 5 rfl) ?_
            refine lv_goto (tgt := 72) hx hb dX10_halves_67 (by decide) ?_
            exact r_eqi (et_1.trans (if_pos hc)) J
        refine lv_icmp_ne (tgt := 58) hx hb dX10_halves_50 (by decide) (fun hc => ?_) (fun hc => ?_)
        · refine lv_iload_n hx hb dX10_halves_58 rfl (lv_at hl 4 rfl) ?_
          exact r_eqi (et.trans (if_neg hc)) J
        · refine lv_iload hx hb dX10_halves_53 (lv_at hl 1 rfl) ?_
          refine lv_goto (tgt := 59) hx hb dX10_halves_55 (by decide) ?_
          exact r_eqi (et.trans (if_pos hc)) J
      · have h := nf_h hc h
        refine lv_iload hx hb dX10_halves_44 (lv_at hl 0 rfl) ?_
        cases h
        exact hQ _ _ _ _ dX10_halves_46 rfl w
set_option maxRecDepth 100000 in
theorem wl_Mo_halves_L13 {p : Program} {l : Launch} {e : Env} {s : State} {m : MethodId} {args : Array Value} {below : List Frame} {meth : Method} {c : Code} {Q : State → Prop} {A : Nat → Prop} {D : va_G} {cI cJ cZ cO : ClassId} {q_this q_m q_saved q_w q_savedWords q_isSaved q_text q_far q_queue q_parent q_by q_seen q_path q_row q_more q_stateOf : Nat} {v_textLength : Int32} {v_steps : Int32} {v_missing : Int64} {v_mores : Int32} {v_hash : Int64} {v_path : (Nat → Int32)} {x1 : Int32} {x : Int32 × (Nat → Int32) × (Nat → Int64)} (C0 : Cx p s m args c A D cI cJ cZ cO cX10_halves 6 RX10) (hQ : RtI p l e rm_Mo_halves s m args below meth c Q A D cX10_halves .int (ws_Mo_halves cI cJ cZ q_this q_m q_saved q_w q_savedWords q_isSaved q_text q_far q_queue q_parent q_by q_seen q_path q_row q_more q_stateOf v_textLength v_steps v_missing v_mores v_hash x.2.1 x.2.2 v_path) x.1) {K : Int32 → Int32 → (Nat → Int32) → (Nat → Int64) → Option (Int32 × (Nat → Int32) × (Nat → Int64))} (hK : ∀ (x2 : Int32) (x3 : Int32) (v_m : (Nat → Int32)) (v_w : (Nat → Int64)) (H : Heap) (locs : List Loc) (ls : Array Slot), K x2 x3 v_m v_w = some x → Wd s A D (ws_Mo_halves cI cJ cZ q_this q_m q_saved q_w q_savedWords q_isSaved q_text q_far q_queue q_parent q_by q_seen q_path q_row q_more q_stateOf v_textLength v_steps v_missing v_mores v_hash v_m v_w v_path) H locs → lv_has ls 6 [(1, .int x1), (3, .int x3)] → W p l e rm_Mo_halves s m args below meth c H locs 0 0 Q (F0 m 76 ls [])) : ∀ (n : Nat) (x2 : Int32) (x3 : Int32) (v_m : (Nat → Int32)) (v_w : (Nat → Int64)) (H : Heap) (locs : List Loc) (ls : Array Slot), itr (fun _ _ _ _ => none) (f_Mo_halves_L13 v_steps v_path x1 K) n x2 x3 v_m v_w = some x → Wd s A D (ws_Mo_halves cI cJ cZ q_this q_m q_saved q_w q_savedWords q_isSaved q_text q_far q_queue q_parent q_by q_seen q_path q_row q_more q_stateOf v_textLength v_steps v_missing v_mores v_hash v_m v_w v_path) H locs → lv_has ls 6 [(0, .ref q_this), (1, .int x1), (2, .int x2), (3, .int x3)] → W p l e rm_Mo_halves s m args below meth c H locs 0 0 Q (F0 m 13 ls []) := by
  intro n
  induction n with
  | zero => intro _ _ _ _ _ _ _ h; cases (show none = some _ from h)
  | succ n ih => intro _ _ _ _ _ _ _ h w hl; exact w_Mo_halves_L13 C0 hQ hK ih _ _ _ _ h w hl
set_option maxRecDepth 100000 in
theorem c_Mo_halves {l : Launch} {D : va_G} {cI cJ cZ cO : ClassId} {q_this q_m q_saved q_w q_savedWords q_isSaved q_text q_far q_queue q_parent q_by q_seen q_path q_row q_more q_stateOf : Nat} {v_textLength : Int32} {v_steps : Int32} {v_missing : Int64} {v_mores : Int32} {v_hash : Int64} {v_m : (Nat → Int32)} {v_w : (Nat → Int64)} {v_path : (Nat → Int32)} {x : Int32 × (Nat → Int32) × (Nat → Int64)} (h : f_Mo_halves v_steps v_m v_w v_path = some x) : ctI l D cI cJ cZ cO yX10_halves cX10_halves 6 .int rm_Mo_halves [.ref q_this] (ws_Mo_halves cI cJ cZ q_this q_m q_saved q_w q_savedWords q_isSaved q_text q_far q_queue q_parent q_by q_seen q_path q_row q_more q_stateOf v_textLength v_steps v_missing v_mores v_hash v_m v_w v_path) (ws_Mo_halves cI cJ cZ q_this q_m q_saved q_w q_savedWords q_isSaved q_text q_far q_queue q_parent q_by q_seen q_path q_row q_more q_stateOf v_textLength v_steps v_missing v_mores v_hash x.2.1 x.2.2 v_path) x.1 := by
  refine ctI_of (by decide) (Nat.le_of_ble_eq_true rfl) ?_
  intro p e s m below meth c Q A ls C0 hQ w hl
  have hl : lv_has ls 6 [(0, .ref q_this)] := hl
  generalize List.toArray (α := Value) [.ref q_this] = args at C0 hQ ⊢
  obtain ⟨hx, hb, hml, hown, hts, -, -⟩ := id C0
  unfold f_Mo_halves at h
  refine lv_aload_n hx hb dX10_halves_0 rfl (lv_at hl 0 rfl) ?_
  refine lv_iconst (v := (0 : Int32)) hx hb dX10_halves_1 (by decide) ?_
  obtain ⟨r, v_m_1, v_w_1, hcall, h⟩ := bd3_h h
  have hp := sp_of (ws := (ws_Mo_halves cI cJ cZ q_this q_m q_saved q_w q_savedWords q_isSaved q_text q_far q_queue q_parent q_by q_seen q_path q_row q_more q_stateOf v_textLength v_steps v_missing v_mores v_hash v_m v_w v_path)) (wc := (ws_Mo_question cI cJ cZ q_this q_m q_saved q_w q_savedWords q_isSaved q_text q_far q_queue q_parent q_by q_seen q_path q_row q_more q_stateOf v_textLength v_steps v_missing v_mores v_hash v_m v_w v_path)) [0, 1, 2, 3] [] rfl rfl
  have hp' : Rp (pk (ws_Mo_halves cI cJ cZ q_this q_m q_saved q_w q_savedWords q_isSaved q_text q_far q_queue q_parent q_by q_seen q_path q_row q_more q_stateOf v_textLength v_steps v_missing v_mores v_hash v_m v_w v_path) [] ++ (ws_Mo_question cI cJ cZ q_this q_m q_saved q_w q_savedWords q_isSaved q_text q_far q_queue q_parent q_by q_seen q_path q_row q_more q_stateOf v_textLength v_steps v_missing v_mores v_hash v_m_1 v_w_1 v_path)) (ws_Mo_halves cI cJ cZ q_this q_m q_saved q_w q_savedWords q_isSaved q_text q_far q_queue q_parent q_by q_seen q_path q_row q_more q_stateOf v_textLength v_steps v_missing v_mores v_hash v_m_1 v_w_1 v_path) := ⟨[0, 1, 2, 3], rfl, rfl⟩
  refine r_VI (r := r) (As := [.int (0 : Int32)]) (rest := []) (wc' := (ws_Mo_question cI cJ cZ q_this q_m q_saved q_w q_savedWords q_isSaved q_text q_far q_queue q_parent q_by q_seen q_path q_row q_more q_stateOf v_textLength v_steps v_missing v_mores v_hash v_m_1 v_w_1 v_path)) (ws' := (ws_Mo_halves cI cJ cZ q_this q_m q_saved q_w q_savedWords q_isSaved q_text q_far q_queue q_parent q_by q_seen q_path q_row q_more q_stateOf v_textLength v_steps v_missing v_mores v_hash v_m_1 v_w_1 v_path)) C0 w (c_Mo_question hcall) hp hp' lm_RX10_169 mv_Mo_question ⟨rfl, rfl⟩ ⟨by decide, by decide⟩ ⟨Nat.zero_le _, Nat.zero_le _⟩ (q0 := 0) rfl rfl rfl rfl hl rfl (Nat.le_of_ble_eq_true rfl) dX10_halves_2 (fun H locs w => ?_)
  refine lv_istore_n (lv' := [(1, .int r), (0, .ref q_this)]) hx hb dX10_halves_5 rfl hl (by decide) rfl (fun ls hl => ?_)
  refine lv_iconst (v := (0 : Int32)) hx hb dX10_halves_6 (by decide) ?_
  refine lv_istore_n (lv' := [(2, .int (0 : Int32)), (1, .int r), (0, .ref q_this)]) hx hb dX10_halves_7 rfl hl (by decide) rfl (fun ls hl => ?_)
  refine lv_aload_n hx hb dX10_halves_8 rfl (lv_at hl 2 rfl) ?_
  refine r_get C0 w 0 rfl kf_Mo 13 (by decide) lf_RX10_110 rfl dX10_halves_9 ?_
  refine lv_istore_n (lv' := [(3, .int v_steps), (2, .int (0 : Int32)), (1, .int r), (0, .ref q_this)]) hx hb dX10_halves_12 rfl hl (by decide) rfl (fun ls hl => ?_)
  refine wl_Mo_halves_L13 C0 hQ (fun x2 x3 v_m_2 v_w_2 H locs ls h w hl => ?_) _ _ _ _ _ _ _ _ h w (lv_sub hl [3, 2, 1, 0] rfl)
  refine lv_iload_n hx hb dX10_halves_76 rfl (lv_at hl 0 rfl) ?_
  obtain ⟨t, et⟩ : ∃ y : Int32, y = (if 0 ≤ r then x3 else r) := ⟨_, rfl⟩
  have h := bnd_at et h
  have J : W p l e rm_Mo_halves s m args below meth c H locs 0 0 Q (F0 m 85 ls [.int t]) := by
    cases h
    exact hQ _ _ _ _ dX10_halves_85 rfl w
  refine lv_if_ge (tgt := 84) hx hb dX10_halves_77 (by decide) (fun hc => ?_) (fun hc => ?_)
  · refine lv_iload_n hx hb dX10_halves_84 rfl (lv_at hl 1 rfl) ?_
    exact r_eqi (et.trans (if_pos hc)) J
  · refine lv_iload_n hx hb dX10_halves_80 rfl (lv_at hl 0 rfl) ?_
    refine lv_goto (tgt := 85) hx hb dX10_halves_81 (by decide) ?_
    exact r_eqi (et.trans (if_neg hc)) J
theorem dX10_uses_0 : decode cX10_uses 0 = .ok (.aload_n 0, 1) := by decide +kernel
theorem dX10_uses_1 : decode cX10_uses 1 = .ok (.getfield 110, 3) := by decide +kernel
theorem dX10_uses_4 : decode cX10_uses 4 = .ok (.bipush 16, 2) := by decide +kernel
theorem dX10_uses_6 : decode cX10_uses 6 = .ok (.if_icmp .le 6, 3) := by decide +kernel
theorem dX10_uses_9 : decode cX10_uses 9 = .ok (.bipush (-5), 2) := by decide +kernel
theorem dX10_uses_11 : decode cX10_uses 11 = .ok (.ireturn, 1) := by decide +kernel
theorem dX10_uses_12 : decode cX10_uses 12 = .ok (.aload_n 0, 1) := by decide +kernel
theorem dX10_uses_13 : decode cX10_uses 13 = .ok (.iconst 0, 1) := by decide +kernel
theorem dX10_uses_14 : decode cX10_uses 14 = .ok (.putfield 149, 3) := by decide +kernel
theorem dX10_uses_17 : decode cX10_uses 17 = .ok (.aload_n 0, 1) := by decide +kernel
theorem dX10_uses_18 : decode cX10_uses 18 = .ok (.getfield 7, 3) := by decide +kernel
theorem dX10_uses_21 : decode cX10_uses 21 = .ok (.bipush 35, 2) := by decide +kernel
theorem dX10_uses_23 : decode cX10_uses 23 = .ok (.iaload, 1) := by decide +kernel
theorem dX10_uses_24 : decode cX10_uses 24 = .ok (.ifCond .le 7, 3) := by decide +kernel
theorem dX10_uses_27 : decode cX10_uses 27 = .ok (.iconst 1, 1) := by decide +kernel
theorem dX10_uses_28 : decode cX10_uses 28 = .ok (.goto 4, 3) := by decide +kernel
theorem dX10_uses_31 : decode cX10_uses 31 = .ok (.iconst 0, 1) := by decide +kernel
theorem dX10_uses_32 : decode cX10_uses 32 = .ok (.istore_n 1, 1) := by decide +kernel
theorem dX10_uses_33 : decode cX10_uses 33 = .ok (.aload_n 0, 1) := by decide +kernel
theorem dX10_uses_34 : decode cX10_uses 34 = .ok (.getfield 7, 3) := by decide +kernel
theorem dX10_uses_37 : decode cX10_uses 37 = .ok (.bipush 35, 2) := by decide +kernel
theorem dX10_uses_39 : decode cX10_uses 39 = .ok (.iaload, 1) := by decide +kernel
theorem dX10_uses_40 : decode cX10_uses 40 = .ok (.iconst 1, 1) := by decide +kernel
theorem dX10_uses_41 : decode cX10_uses 41 = .ok (.if_icmp .ne 32, 3) := by decide +kernel
theorem dX10_uses_44 : decode cX10_uses 44 = .ok (.aload_n 0, 1) := by decide +kernel
theorem dX10_uses_45 : decode cX10_uses 45 = .ok (.invokevirtual 172, 3) := by decide +kernel
theorem dX10_uses_48 : decode cX10_uses 48 = .ok (.istore_n 2, 1) := by decide +kernel
theorem dX10_uses_49 : decode cX10_uses 49 = .ok (.iload_n 2, 1) := by decide +kernel
theorem dX10_uses_50 : decode cX10_uses 50 = .ok (.ifCond .ge 5, 3) := by decide +kernel
theorem dX10_uses_53 : decode cX10_uses 53 = .ok (.iload_n 2, 1) := by decide +kernel
theorem dX10_uses_54 : decode cX10_uses 54 = .ok (.ireturn, 1) := by decide +kernel
theorem dX10_uses_55 : decode cX10_uses 55 = .ok (.aload_n 0, 1) := by decide +kernel
theorem dX10_uses_56 : decode cX10_uses 56 = .ok (.aload_n 0, 1) := by decide +kernel
theorem dX10_uses_57 : decode cX10_uses 57 = .ok (.aload_n 0, 1) := by decide +kernel
theorem dX10_uses_58 : decode cX10_uses 58 = .ok (.getfield 110, 3) := by decide +kernel
theorem dX10_uses_61 : decode cX10_uses 61 = .ok (.iload_n 2, 1) := by decide +kernel
theorem dX10_uses_62 : decode cX10_uses 62 = .ok (.isub, 1) := by decide +kernel
theorem dX10_uses_63 : decode cX10_uses 63 = .ok (.invokevirtual 166, 3) := by decide +kernel
theorem dX10_uses_66 : decode cX10_uses 66 = .ok (.iconst 1, 1) := by decide +kernel
theorem dX10_uses_67 : decode cX10_uses 67 = .ok (.invokevirtual 162, 3) := by decide +kernel
theorem dX10_uses_70 : decode cX10_uses 70 = .ok (.goto 41, 3) := by decide +kernel
theorem dX10_uses_73 : decode cX10_uses 73 = .ok (.iconst 0, 1) := by decide +kernel
theorem dX10_uses_74 : decode cX10_uses 74 = .ok (.istore_n 2, 1) := by decide +kernel
theorem dX10_uses_75 : decode cX10_uses 75 = .ok (.iload_n 2, 1) := by decide +kernel
theorem dX10_uses_76 : decode cX10_uses 76 = .ok (.aload_n 0, 1) := by decide +kernel
theorem dX10_uses_77 : decode cX10_uses 77 = .ok (.getfield 110, 3) := by decide +kernel
theorem dX10_uses_80 : decode cX10_uses 80 = .ok (.if_icmp .gt 31, 3) := by decide +kernel
theorem dX10_uses_83 : decode cX10_uses 83 = .ok (.aload_n 0, 1) := by decide +kernel
theorem dX10_uses_84 : decode cX10_uses 84 = .ok (.iload_n 1, 1) := by decide +kernel
theorem dX10_uses_85 : decode cX10_uses 85 = .ok (.ifCond .eq 11, 3) := by decide +kernel
theorem dX10_uses_88 : decode cX10_uses 88 = .ok (.aload_n 0, 1) := by decide +kernel
theorem dX10_uses_89 : decode cX10_uses 89 = .ok (.iload_n 2, 1) := by decide +kernel
theorem dX10_uses_90 : decode cX10_uses 90 = .ok (.invokevirtual 166, 3) := by decide +kernel
theorem dX10_uses_93 : decode cX10_uses 93 = .ok (.goto 8, 3) := by decide +kernel
theorem dX10_uses_96 : decode cX10_uses 96 = .ok (.aload_n 0, 1) := by decide +kernel
theorem dX10_uses_97 : decode cX10_uses 97 = .ok (.iload_n 2, 1) := by decide +kernel
theorem dX10_uses_98 : decode cX10_uses 98 = .ok (.invokevirtual 175, 3) := by decide +kernel
theorem dX10_uses_101 : decode cX10_uses 101 = .ok (.iload_n 1, 1) := by decide +kernel
theorem dX10_uses_102 : decode cX10_uses 102 = .ok (.invokevirtual 162, 3) := by decide +kernel
theorem dX10_uses_105 : decode cX10_uses 105 = .ok (.iinc 2 1, 3) := by decide +kernel
theorem dX10_uses_108 : decode cX10_uses 108 = .ok (.goto (-33), 3) := by decide +kernel
theorem dX10_uses_111 : decode cX10_uses 111 = .ok (.aload_n 0, 1) := by decide +kernel
theorem dX10_uses_112 : decode cX10_uses 112 = .ok (.getfield 149, 3) := by decide +kernel
theorem dX10_uses_115 : decode cX10_uses 115 = .ok (.ifCond .le 14, 3) := by decide +kernel
theorem dX10_uses_118 : decode cX10_uses 118 = .ok (.aload_n 0, 1) := by decide +kernel
theorem dX10_uses_119 : decode cX10_uses 119 = .ok (.iload_n 1, 1) := by decide +kernel
theorem dX10_uses_120 : decode cX10_uses 120 = .ok (.invokevirtual 178, 3) := by decide +kernel
theorem dX10_uses_123 : decode cX10_uses 123 = .ok (.ifCond .ne 6, 3) := by decide +kernel
theorem dX10_uses_126 : decode cX10_uses 126 = .ok (.bipush (-5), 2) := by decide +kernel
theorem dX10_uses_128 : decode cX10_uses 128 = .ok (.ireturn, 1) := by decide +kernel
theorem dX10_uses_129 : decode cX10_uses 129 = .ok (.aload_n 0, 1) := by decide +kernel
theorem dX10_uses_130 : decode cX10_uses 130 = .ok (.iload_n 1, 1) := by decide +kernel
theorem dX10_uses_131 : decode cX10_uses 131 = .ok (.invokevirtual 182, 3) := by decide +kernel
theorem dX10_uses_134 : decode cX10_uses 134 = .ok (.aload_n 0, 1) := by decide +kernel
theorem dX10_uses_135 : decode cX10_uses 135 = .ok (.getfield 7, 3) := by decide +kernel
theorem dX10_uses_138 : decode cX10_uses 138 = .ok (.bipush 44, 2) := by decide +kernel
theorem dX10_uses_140 : decode cX10_uses 140 = .ok (.aload_n 0, 1) := by decide +kernel
theorem dX10_uses_141 : decode cX10_uses 141 = .ok (.getfield 110, 3) := by decide +kernel
theorem dX10_uses_144 : decode cX10_uses 144 = .ok (.iastore, 1) := by decide +kernel
theorem dX10_uses_145 : decode cX10_uses 145 = .ok (.iconst 0, 1) := by decide +kernel
theorem dX10_uses_146 : decode cX10_uses 146 = .ok (.istore_n 2, 1) := by decide +kernel
theorem dX10_uses_147 : decode cX10_uses 147 = .ok (.iload_n 2, 1) := by decide +kernel
theorem dX10_uses_148 : decode cX10_uses 148 = .ok (.aload_n 0, 1) := by decide +kernel
theorem dX10_uses_149 : decode cX10_uses 149 = .ok (.getfield 110, 3) := by decide +kernel
theorem dX10_uses_152 : decode cX10_uses 152 = .ok (.if_icmp .ge 25, 3) := by decide +kernel
theorem dX10_uses_155 : decode cX10_uses 155 = .ok (.aload_n 0, 1) := by decide +kernel
theorem dX10_uses_156 : decode cX10_uses 156 = .ok (.getfield 7, 3) := by decide +kernel
theorem dX10_uses_159 : decode cX10_uses 159 = .ok (.sipush 345, 3) := by decide +kernel
theorem dX10_uses_162 : decode cX10_uses 162 = .ok (.iload_n 2, 1) := by decide +kernel
theorem dX10_uses_163 : decode cX10_uses 163 = .ok (.iadd, 1) := by decide +kernel
theorem dX10_uses_164 : decode cX10_uses 164 = .ok (.aload_n 0, 1) := by decide +kernel
theorem dX10_uses_165 : decode cX10_uses 165 = .ok (.getfield 45, 3) := by decide +kernel
theorem dX10_uses_168 : decode cX10_uses 168 = .ok (.iload_n 2, 1) := by decide +kernel
theorem dX10_uses_169 : decode cX10_uses 169 = .ok (.iaload, 1) := by decide +kernel
theorem dX10_uses_170 : decode cX10_uses 170 = .ok (.iastore, 1) := by decide +kernel
theorem dX10_uses_171 : decode cX10_uses 171 = .ok (.iinc 2 1, 3) := by decide +kernel
theorem dX10_uses_174 : decode cX10_uses 174 = .ok (.goto (-27), 3) := by decide +kernel
theorem dX10_uses_177 : decode cX10_uses 177 = .ok (.aload_n 0, 1) := by decide +kernel
theorem dX10_uses_178 : decode cX10_uses 178 = .ok (.getfield 7, 3) := by decide +kernel
theorem dX10_uses_181 : decode cX10_uses 181 = .ok (.bipush 42, 2) := by decide +kernel
theorem dX10_uses_183 : decode cX10_uses 183 = .ok (.dup2, 1) := by decide +kernel
theorem dX10_uses_184 : decode cX10_uses 184 = .ok (.iaload, 1) := by decide +kernel
theorem dX10_uses_185 : decode cX10_uses 185 = .ok (.iconst 1, 1) := by decide +kernel
theorem dX10_uses_186 : decode cX10_uses 186 = .ok (.iadd, 1) := by decide +kernel
theorem dX10_uses_187 : decode cX10_uses 187 = .ok (.iastore, 1) := by decide +kernel
theorem dX10_uses_188 : decode cX10_uses 188 = .ok (.aload_n 0, 1) := by decide +kernel
theorem dX10_uses_189 : decode cX10_uses 189 = .ok (.getfield 7, 3) := by decide +kernel
theorem dX10_uses_192 : decode cX10_uses 192 = .ok (.bipush 43, 2) := by decide +kernel
theorem dX10_uses_194 : decode cX10_uses 194 = .ok (.aload_n 0, 1) := by decide +kernel
theorem dX10_uses_195 : decode cX10_uses 195 = .ok (.getfield 149, 3) := by decide +kernel
theorem dX10_uses_198 : decode cX10_uses 198 = .ok (.ifCond .ne 7, 3) := by decide +kernel
theorem dX10_uses_201 : decode cX10_uses 201 = .ok (.iconst 1, 1) := by decide +kernel
theorem dX10_uses_202 : decode cX10_uses 202 = .ok (.goto 4, 3) := by decide +kernel
theorem dX10_uses_205 : decode cX10_uses 205 = .ok (.iconst 0, 1) := by decide +kernel
theorem dX10_uses_206 : decode cX10_uses 206 = .ok (.iastore, 1) := by decide +kernel
theorem dX10_uses_207 : decode cX10_uses 207 = .ok (.aload_n 0, 1) := by decide +kernel
theorem dX10_uses_208 : decode cX10_uses 208 = .ok (.getfield 149, 3) := by decide +kernel
theorem dX10_uses_211 : decode cX10_uses 211 = .ok (.ifCond .ne 8, 3) := by decide +kernel
theorem dX10_uses_214 : decode cX10_uses 214 = .ok (.bipush 7, 2) := by decide +kernel
theorem dX10_uses_216 : decode cX10_uses 216 = .ok (.goto 4, 3) := by decide +kernel
theorem dX10_uses_219 : decode cX10_uses 219 = .ok (.iconst 5, 1) := by decide +kernel
theorem dX10_uses_220 : decode cX10_uses 220 = .ok (.ireturn, 1) := by decide +kernel
set_option maxRecDepth 100000 in
theorem w_Mo_uses_J101 {p : Program} {l : Launch} {e : Env} {s : State} {m : MethodId} {args : Array Value} {below : List Frame} {meth : Method} {c : Code} {Q : State → Prop} {A : Nat → Prop} {D : va_G} {cI cJ cZ cO : ClassId} {q_this q_m q_saved q_w q_savedWords q_isSaved q_text q_far q_queue q_parent q_by q_seen q_path q_row q_more q_stateOf : Nat} {v_textLength : Int32} {v_steps : Int32} {v_missing : Int64} {v_mores : Int32} {v_hash : Int64} {v_m : (Nat → Int32)} {v_w : (Nat → Int64)} {v_path : (Nat → Int32)} {v_more : (Nat → Int64)} {x : Int32 × (Nat → Int32) × (Nat → Int64) × (Nat → Int64) × Int32} {x1 : Int32} {x2 : Int32} {s1 : Int64} (C0 : Cx p s m args c A D cI cJ cZ cO cX10_uses 3 RX10) (hQ : RtI p l e rm_Mo_uses s m args below meth c Q A D cX10_uses .int (ws_Mo_uses cI cJ cZ q_this q_m q_saved q_w q_savedWords q_isSaved q_text q_far q_queue q_parent q_by q_seen q_path q_row q_more q_stateOf v_textLength v_steps v_missing x.2.2.2.2 v_hash x.2.1 x.2.2.1 v_path x.2.2.2.1) x.1) {K : Int32 → (Nat → Int64) → Int32 → Option (Int32 × (Nat → Int32) × (Nat → Int64) × (Nat → Int64) × Int32)} (hK : ∀ (y2 : Int32) (u_more : (Nat → Int64)) (u_mores : Int32) (H : Heap) (locs : List Loc) (ls : Array Slot), K y2 u_more u_mores = some x → Wd s A D (ws_Mo_uses cI cJ cZ q_this q_m q_saved q_w q_savedWords q_isSaved q_text q_far q_queue q_parent q_by q_seen q_path q_row q_more q_stateOf v_textLength v_steps v_missing u_mores v_hash v_m v_w v_path u_more) H locs → lv_has ls 3 [(0, .ref q_this), (1, .int x1)] → W p l e rm_Mo_uses s m args below meth c H locs 0 0 Q (F0 m 111 ls [])) {rec : Int32 → (Nat → Int64) → Int32 → Option (Int32 × (Nat → Int32) × (Nat → Int64) × (Nat → Int64) × Int32)} (hrec : ∀ (y2 : Int32) (u_more : (Nat → Int64)) (u_mores : Int32) (H : Heap) (locs : List Loc) (ls : Array Slot), rec y2 u_more u_mores = some x → Wd s A D (ws_Mo_uses cI cJ cZ q_this q_m q_saved q_w q_savedWords q_isSaved q_text q_far q_queue q_parent q_by q_seen q_path q_row q_more q_stateOf v_textLength v_steps v_missing u_mores v_hash v_m v_w v_path u_more) H locs → lv_has ls 3 [(0, .ref q_this), (1, .int x1), (2, .int y2)] → W p l e rm_Mo_uses s m args below meth c H locs 0 0 Q (F0 m 75 ls [])) {H : Heap} {locs : List Loc} {ls : Array Slot} (h : f_Mo_uses_J101 rec x1 x2 s1 v_mores v_m v_w v_more = some x) (w : Wd s A D (ws_Mo_uses cI cJ cZ q_this q_m q_saved q_w q_savedWords q_isSaved q_text q_far q_queue q_parent q_by q_seen q_path q_row q_more q_stateOf v_textLength v_steps v_missing v_mores v_hash v_m v_w v_path v_more) H locs) (hl : lv_has ls 3 [(0, .ref q_this), (1, .int x1), (2, .int x2)]) : W p l e rm_Mo_uses s m args below meth c H locs 0 0 Q (F0 m 101 ls [.long s1, .ref q_this]) := by
  obtain ⟨hx, hb, hml, hown, hts, -, -⟩ := id C0
  unfold f_Mo_uses_J101 at h
  refine lv_iload_n hx hb dX10_uses_101 rfl (lv_at hl 1 rfl) ?_
  obtain ⟨v_more_1, v_mores_1, hcall, h⟩ := bd2_h h
  have hp := sp_of (ws := (ws_Mo_uses cI cJ cZ q_this q_m q_saved q_w q_savedWords q_isSaved q_text q_far q_queue q_parent q_by q_seen q_path q_row q_more q_stateOf v_textLength v_steps v_missing v_mores v_hash v_m v_w v_path v_more)) (wc := (ws_Mo_wants cI cJ cZ q_this q_m q_saved q_w q_savedWords q_isSaved q_text q_far q_queue q_parent q_by q_seen q_path q_row q_more q_stateOf v_textLength v_steps v_missing v_mores v_hash v_m v_w v_more)) [0, 1, 2, 4] [3] rfl rfl
  have hp' : Rp (pk (ws_Mo_uses cI cJ cZ q_this q_m q_saved q_w q_savedWords q_isSaved q_text q_far q_queue q_parent q_by q_seen q_path q_row q_more q_stateOf v_textLength v_steps v_missing v_mores v_hash v_m v_w v_path v_more) [3] ++ (ws_Mo_wants cI cJ cZ q_this q_m q_saved q_w q_savedWords q_isSaved q_text q_far q_queue q_parent q_by q_seen q_path q_row q_more q_stateOf v_textLength v_steps v_missing v_mores_1 v_hash v_m v_w v_more_1)) (ws_Mo_uses cI cJ cZ q_this q_m q_saved q_w q_savedWords q_isSaved q_text q_far q_queue q_parent q_by q_seen q_path q_row q_more q_stateOf v_textLength v_steps v_missing v_mores_1 v_hash v_m v_w v_path v_more_1) := ⟨[1, 2, 3, 0, 4], rfl, rfl⟩
  refine r_VV (As := [.long s1, .int x1]) (rest := []) (wc' := (ws_Mo_wants cI cJ cZ q_this q_m q_saved q_w q_savedWords q_isSaved q_text q_far q_queue q_parent q_by q_seen q_path q_row q_more q_stateOf v_textLength v_steps v_missing v_mores_1 v_hash v_m v_w v_more_1)) (ws' := (ws_Mo_uses cI cJ cZ q_this q_m q_saved q_w q_savedWords q_isSaved q_text q_far q_queue q_parent q_by q_seen q_path q_row q_more q_stateOf v_textLength v_steps v_missing v_mores_1 v_hash v_m v_w v_path v_more_1)) C0 w (c_Mo_wants hcall) hp hp' lm_RX10_162 mv_Mo_wants ⟨rfl, rfl⟩ ⟨by decide, by decide⟩ ⟨Nat.zero_le _, Nat.zero_le _⟩ (q0 := 0) rfl rfl rfl rfl hl rfl (Nat.le_of_ble_eq_true rfl) dX10_uses_102 (fun H locs w => ?_)
  obtain ⟨x2_1, ex2_1⟩ : ∃ y : Int32, y = (x2 + 1) := ⟨_, rfl⟩
  have h := bnd_at ex2_1 h
  refine lv_iinc (v := x2_1) (lv' := [(2, .int x2_1), (0, .ref q_this), (1, .int x1)]) hx hb dX10_uses_105 hl (k := 2) rfl (by rw [ex2_1]; rfl) (by decide) rfl (fun ls hl => ?_)
  refine lv_goto (tgt := 75) hx hb dX10_uses_108 (by decide) ?_
  exact hrec _ _ _ _ _ _ h w (lv_sub hl [1, 2, 0] rfl)
set_option maxRecDepth 100000 in
theorem w_Mo_uses_L75 {p : Program} {l : Launch} {e : Env} {s : State} {m : MethodId} {args : Array Value} {below : List Frame} {meth : Method} {c : Code} {Q : State → Prop} {A : Nat → Prop} {D : va_G} {cI cJ cZ cO : ClassId} {q_this q_m q_saved q_w q_savedWords q_isSaved q_text q_far q_queue q_parent q_by q_seen q_path q_row q_more q_stateOf : Nat} {v_textLength : Int32} {v_steps : Int32} {v_missing : Int64} {v_hash : Int64} {v_m : (Nat → Int32)} {v_w : (Nat → Int64)} {v_path : (Nat → Int32)} {x1 : Int32} {x : Int32 × (Nat → Int32) × (Nat → Int64) × (Nat → Int64) × Int32} (C0 : Cx p s m args c A D cI cJ cZ cO cX10_uses 3 RX10) (hQ : RtI p l e rm_Mo_uses s m args below meth c Q A D cX10_uses .int (ws_Mo_uses cI cJ cZ q_this q_m q_saved q_w q_savedWords q_isSaved q_text q_far q_queue q_parent q_by q_seen q_path q_row q_more q_stateOf v_textLength v_steps v_missing x.2.2.2.2 v_hash x.2.1 x.2.2.1 v_path x.2.2.2.1) x.1) {K : Int32 → (Nat → Int64) → Int32 → Option (Int32 × (Nat → Int32) × (Nat → Int64) × (Nat → Int64) × Int32)} (hK : ∀ (x2 : Int32) (v_more : (Nat → Int64)) (v_mores : Int32) (H : Heap) (locs : List Loc) (ls : Array Slot), K x2 v_more v_mores = some x → Wd s A D (ws_Mo_uses cI cJ cZ q_this q_m q_saved q_w q_savedWords q_isSaved q_text q_far q_queue q_parent q_by q_seen q_path q_row q_more q_stateOf v_textLength v_steps v_missing v_mores v_hash v_m v_w v_path v_more) H locs → lv_has ls 3 [(0, .ref q_this), (1, .int x1)] → W p l e rm_Mo_uses s m args below meth c H locs 0 0 Q (F0 m 111 ls [])) {rec : Int32 → (Nat → Int64) → Int32 → Option (Int32 × (Nat → Int32) × (Nat → Int64) × (Nat → Int64) × Int32)} (hrec : ∀ (x2 : Int32) (v_more : (Nat → Int64)) (v_mores : Int32) (H : Heap) (locs : List Loc) (ls : Array Slot), rec x2 v_more v_mores = some x → Wd s A D (ws_Mo_uses cI cJ cZ q_this q_m q_saved q_w q_savedWords q_isSaved q_text q_far q_queue q_parent q_by q_seen q_path q_row q_more q_stateOf v_textLength v_steps v_missing v_mores v_hash v_m v_w v_path v_more) H locs → lv_has ls 3 [(0, .ref q_this), (1, .int x1), (2, .int x2)] → W p l e rm_Mo_uses s m args below meth c H locs 0 0 Q (F0 m 75 ls [])) (x2 : Int32) (v_more : (Nat → Int64)) (v_mores : Int32) {H : Heap} {locs : List Loc} {ls : Array Slot} (h : f_Mo_uses_L75 v_steps v_m v_w v_path x1 K rec x2 v_more v_mores = some x) (w : Wd s A D (ws_Mo_uses cI cJ cZ q_this q_m q_saved q_w q_savedWords q_isSaved q_text q_far q_queue q_parent q_by q_seen q_path q_row q_more q_stateOf v_textLength v_steps v_missing v_mores v_hash v_m v_w v_path v_more) H locs) (hl : lv_has ls 3 [(0, .ref q_this), (1, .int x1), (2, .int x2)]) : W p l e rm_Mo_uses s m args below meth c H locs 0 0 Q (F0 m 75 ls []) := by
  obtain ⟨hx, hb, hml, hown, hts, -, -⟩ := id C0
  unfold f_Mo_uses_L75 at h
  refine lv_iload_n hx hb dX10_uses_75 rfl (lv_at hl 2 rfl) ?_
  refine lv_aload_n hx hb dX10_uses_76 rfl (lv_at hl 0 rfl) ?_
  refine r_get C0 w 0 rfl kf_Mo 13 (by decide) lf_RX10_110 rfl dX10_uses_77 ?_
  refine lv_icmp_gt (tgt := 111) hx hb dX10_uses_80 (by decide) (fun hc => ?_) (fun hc => ?_)
  · have h := if_h hc h
    exact hK _ _ _ _ _ _ h w (lv_sub hl [0, 1] rfl)
  · have h := nf_h hc h
    refine lv_aload_n hx hb dX10_uses_83 rfl (lv_at hl 0 rfl) ?_
    refine lv_iload_n hx hb dX10_uses_84 rfl (lv_at hl 1 rfl) ?_
    refine lv_if_eq (tgt := 96) hx hb dX10_uses_85 (by decide) (fun hc => ?_) (fun hc => ?_)
    · have h := if_h hc h
      refine lv_aload_n hx hb dX10_uses_96 rfl (lv_at hl 0 rfl) ?_
      refine lv_iload_n hx hb dX10_uses_97 rfl (lv_at hl 2 rfl) ?_
      obtain ⟨r, hcall, h⟩ := bd1_h h
      obtain ⟨wr, hp, hp'⟩ := rd_of (ws := (ws_Mo_uses cI cJ cZ q_this q_m q_saved q_w q_savedWords q_isSaved q_text q_far q_queue q_parent q_by q_seen q_path q_row q_more q_stateOf v_textLength v_steps v_missing v_mores v_hash v_m v_w v_path v_more)) (wc := (ws_Mo_firstLetters cI cJ cZ q_this q_m q_saved q_w q_savedWords q_isSaved q_text q_far q_queue q_parent q_by q_seen q_path q_row q_more q_stateOf v_textLength v_steps v_missing v_mores v_hash v_path)) [0, 3] rfl rfl
      refine r_VJ (r := r) (As := [.int x2]) (rest := [.ref q_this]) (wc' := (ws_Mo_firstLetters cI cJ cZ q_this q_m q_saved q_w q_savedWords q_isSaved q_text q_far q_queue q_parent q_by q_seen q_path q_row q_more q_stateOf v_textLength v_steps v_missing v_mores v_hash v_path)) (ws' := (ws_Mo_uses cI cJ cZ q_this q_m q_saved q_w q_savedWords q_isSaved q_text q_far q_queue q_parent q_by q_seen q_path q_row q_more q_stateOf v_textLength v_steps v_missing v_mores v_hash v_m v_w v_path v_more)) C0 w (c_Mo_firstLetters hcall) hp hp' lm_RX10_175 mv_Mo_firstLetters ⟨rfl, rfl⟩ ⟨by decide, by decide⟩ ⟨Nat.zero_le _, Nat.zero_le _⟩ (q0 := 0) rfl rfl rfl rfl hl rfl (Nat.le_of_ble_eq_true rfl) dX10_uses_98 (fun H locs w => ?_)
      exact w_Mo_uses_J101 C0 hQ hK hrec h w (lv_sub hl [0, 1, 2] rfl)
    · have h := nf_h hc h
      refine lv_aload_n hx hb dX10_uses_88 rfl (lv_at hl 0 rfl) ?_
      refine lv_iload_n hx hb dX10_uses_89 rfl (lv_at hl 2 rfl) ?_
      obtain ⟨r_1, hcall, h⟩ := bd1_h h
      obtain ⟨wr, hp, hp'⟩ := rd_of (ws := (ws_Mo_uses cI cJ cZ q_this q_m q_saved q_w q_savedWords q_isSaved q_text q_far q_queue q_parent q_by q_seen q_path q_row q_more q_stateOf v_textLength v_steps v_missing v_mores v_hash v_m v_w v_path v_more)) (wc := (ws_Mo_lastLetters cI cJ cZ q_this q_m q_saved q_w q_savedWords q_isSaved q_text q_far q_queue q_parent q_by q_seen q_path q_row q_more q_stateOf v_textLength v_steps v_missing v_mores v_hash v_path)) [0, 3] rfl rfl
      refine r_VJ (r := r_1) (As := [.int x2]) (rest := [.ref q_this]) (wc' := (ws_Mo_lastLetters cI cJ cZ q_this q_m q_saved q_w q_savedWords q_isSaved q_text q_far q_queue q_parent q_by q_seen q_path q_row q_more q_stateOf v_textLength v_steps v_missing v_mores v_hash v_path)) (ws' := (ws_Mo_uses cI cJ cZ q_this q_m q_saved q_w q_savedWords q_isSaved q_text q_far q_queue q_parent q_by q_seen q_path q_row q_more q_stateOf v_textLength v_steps v_missing v_mores v_hash v_m v_w v_path v_more)) C0 w (c_Mo_lastLetters hcall) hp hp' lm_RX10_166 mv_Mo_lastLetters ⟨rfl, rfl⟩ ⟨by decide, by decide⟩ ⟨Nat.zero_le _, Nat.zero_le _⟩ (q0 := 0) rfl rfl rfl rfl hl rfl (Nat.le_of_ble_eq_true rfl) dX10_uses_90 (fun H locs w => ?_)
      refine lv_goto (tgt := 101) hx hb dX10_uses_93 (by decide) ?_
      exact w_Mo_uses_J101 C0 hQ hK hrec h w (lv_sub hl [0, 1, 2] rfl)
set_option maxRecDepth 100000 in
theorem wl_Mo_uses_L75 {p : Program} {l : Launch} {e : Env} {s : State} {m : MethodId} {args : Array Value} {below : List Frame} {meth : Method} {c : Code} {Q : State → Prop} {A : Nat → Prop} {D : va_G} {cI cJ cZ cO : ClassId} {q_this q_m q_saved q_w q_savedWords q_isSaved q_text q_far q_queue q_parent q_by q_seen q_path q_row q_more q_stateOf : Nat} {v_textLength : Int32} {v_steps : Int32} {v_missing : Int64} {v_hash : Int64} {v_m : (Nat → Int32)} {v_w : (Nat → Int64)} {v_path : (Nat → Int32)} {x1 : Int32} {x : Int32 × (Nat → Int32) × (Nat → Int64) × (Nat → Int64) × Int32} (C0 : Cx p s m args c A D cI cJ cZ cO cX10_uses 3 RX10) (hQ : RtI p l e rm_Mo_uses s m args below meth c Q A D cX10_uses .int (ws_Mo_uses cI cJ cZ q_this q_m q_saved q_w q_savedWords q_isSaved q_text q_far q_queue q_parent q_by q_seen q_path q_row q_more q_stateOf v_textLength v_steps v_missing x.2.2.2.2 v_hash x.2.1 x.2.2.1 v_path x.2.2.2.1) x.1) {K : Int32 → (Nat → Int64) → Int32 → Option (Int32 × (Nat → Int32) × (Nat → Int64) × (Nat → Int64) × Int32)} (hK : ∀ (x2 : Int32) (v_more : (Nat → Int64)) (v_mores : Int32) (H : Heap) (locs : List Loc) (ls : Array Slot), K x2 v_more v_mores = some x → Wd s A D (ws_Mo_uses cI cJ cZ q_this q_m q_saved q_w q_savedWords q_isSaved q_text q_far q_queue q_parent q_by q_seen q_path q_row q_more q_stateOf v_textLength v_steps v_missing v_mores v_hash v_m v_w v_path v_more) H locs → lv_has ls 3 [(0, .ref q_this), (1, .int x1)] → W p l e rm_Mo_uses s m args below meth c H locs 0 0 Q (F0 m 111 ls [])) : ∀ (n : Nat) (x2 : Int32) (v_more : (Nat → Int64)) (v_mores : Int32) (H : Heap) (locs : List Loc) (ls : Array Slot), itr (fun _ _ _ => none) (f_Mo_uses_L75 v_steps v_m v_w v_path x1 K) n x2 v_more v_mores = some x → Wd s A D (ws_Mo_uses cI cJ cZ q_this q_m q_saved q_w q_savedWords q_isSaved q_text q_far q_queue q_parent q_by q_seen q_path q_row q_more q_stateOf v_textLength v_steps v_missing v_mores v_hash v_m v_w v_path v_more) H locs → lv_has ls 3 [(0, .ref q_this), (1, .int x1), (2, .int x2)] → W p l e rm_Mo_uses s m args below meth c H locs 0 0 Q (F0 m 75 ls []) := by
  intro n
  induction n with
  | zero => intro _ _ _ _ _ _ h; cases (show none = some _ from h)
  | succ n ih => intro _ _ _ _ _ _ h w hl; exact w_Mo_uses_L75 C0 hQ hK ih _ _ _ h w hl
set_option maxRecDepth 100000 in
theorem w_Mo_uses_L147 {p : Program} {l : Launch} {e : Env} {s : State} {m : MethodId} {args : Array Value} {below : List Frame} {meth : Method} {c : Code} {Q : State → Prop} {A : Nat → Prop} {D : va_G} {cI cJ cZ cO : ClassId} {q_this q_m q_saved q_w q_savedWords q_isSaved q_text q_far q_queue q_parent q_by q_seen q_path q_row q_more q_stateOf : Nat} {v_textLength : Int32} {v_steps : Int32} {v_missing : Int64} {v_mores : Int32} {v_hash : Int64} {v_w : (Nat → Int64)} {v_path : (Nat → Int32)} {v_more : (Nat → Int64)} {x : Int32 × (Nat → Int32) × (Nat → Int64) × (Nat → Int64) × Int32} (C0 : Cx p s m args c A D cI cJ cZ cO cX10_uses 3 RX10) (hQ : RtI p l e rm_Mo_uses s m args below meth c Q A D cX10_uses .int (ws_Mo_uses cI cJ cZ q_this q_m q_saved q_w q_savedWords q_isSaved q_text q_far q_queue q_parent q_by q_seen q_path q_row q_more q_stateOf v_textLength v_steps v_missing x.2.2.2.2 v_hash x.2.1 x.2.2.1 v_path x.2.2.2.1) x.1) {K : Int32 → (Nat → Int32) → Option (Int32 × (Nat → Int32) × (Nat → Int64) × (Nat → Int64) × Int32)} (hK : ∀ (x2 : Int32) (v_m : (Nat → Int32)) (H : Heap) (locs : List Loc) (ls : Array Slot), K x2 v_m = some x → Wd s A D (ws_Mo_uses cI cJ cZ q_this q_m q_saved q_w q_savedWords q_isSaved q_text q_far q_queue q_parent q_by q_seen q_path q_row q_more q_stateOf v_textLength v_steps v_missing v_mores v_hash v_m v_w v_path v_more) H locs → lv_has ls 3 [(0, .ref q_this)] → W p l e rm_Mo_uses s m args below meth c H locs 0 0 Q (F0 m 177 ls [])) {rec : Int32 → (Nat → Int32) → Option (Int32 × (Nat → Int32) × (Nat → Int64) × (Nat → Int64) × Int32)} (hrec : ∀ (x2 : Int32) (v_m : (Nat → Int32)) (H : Heap) (locs : List Loc) (ls : Array Slot), rec x2 v_m = some x → Wd s A D (ws_Mo_uses cI cJ cZ q_this q_m q_saved q_w q_savedWords q_isSaved q_text q_far q_queue q_parent q_by q_seen q_path q_row q_more q_stateOf v_textLength v_steps v_missing v_mores v_hash v_m v_w v_path v_more) H locs → lv_has ls 3 [(0, .ref q_this), (2, .int x2)] → W p l e rm_Mo_uses s m args below meth c H locs 0 0 Q (F0 m 147 ls [])) (x2 : Int32) (v_m : (Nat → Int32)) {H : Heap} {locs : List Loc} {ls : Array Slot} (h : f_Mo_uses_L147 v_steps v_path K rec x2 v_m = some x) (w : Wd s A D (ws_Mo_uses cI cJ cZ q_this q_m q_saved q_w q_savedWords q_isSaved q_text q_far q_queue q_parent q_by q_seen q_path q_row q_more q_stateOf v_textLength v_steps v_missing v_mores v_hash v_m v_w v_path v_more) H locs) (hl : lv_has ls 3 [(0, .ref q_this), (2, .int x2)]) : W p l e rm_Mo_uses s m args below meth c H locs 0 0 Q (F0 m 147 ls []) := by
  obtain ⟨hx, hb, hml, hown, hts, -, -⟩ := id C0
  unfold f_Mo_uses_L147 at h
  refine lv_iload_n hx hb dX10_uses_147 rfl (lv_at hl 1 rfl) ?_
  refine lv_aload_n hx hb dX10_uses_148 rfl (lv_at hl 0 rfl) ?_
  refine r_get C0 w 0 rfl kf_Mo 13 (by decide) lf_RX10_110 rfl dX10_uses_149 ?_
  refine lv_icmp_ge (tgt := 177) hx hb dX10_uses_152 (by decide) (fun hc => ?_) (fun hc => ?_)
  · have h := if_h hc h
    exact hK _ _ _ _ _ h w (lv_sub hl [0] rfl)
  · have h := nf_h hc h
    refine lv_aload_n hx hb dX10_uses_155 rfl (lv_at hl 0 rfl) ?_
    refine r_get C0 w 0 rfl kf_Mo 0 (by decide) lf_RX10_7 rfl dX10_uses_156 ?_
    refine lv_sipush (v := (345 : Int32)) hx hb dX10_uses_159 (by decide) ?_
    refine lv_iload_n hx hb dX10_uses_162 rfl (lv_at hl 1 rfl) ?_
    refine lv_iadd hx hb dX10_uses_163 ?_
    refine lv_aload_n hx hb dX10_uses_164 rfl (lv_at hl 0 rfl) ?_
    refine r_get C0 w 0 rfl kf_Mo 12 (by decide) lf_RX10_45 rfl dX10_uses_165 ?_
    refine lv_iload_n hx hb dX10_uses_168 rfl (lv_at hl 1 rfl) ?_
    obtain ⟨hi, h⟩ := gIn_h h
    refine r_iald C0 w 3 rfl rfl hi dX10_uses_169 ?_
    obtain ⟨hi, h⟩ := gIn_h h
    obtain ⟨v_m_1, ev_m_1⟩ : ∃ y, y = (upd v_m ((345 : Int32) + x2).toNatClampNeg (v_path x2.toNatClampNeg)) := ⟨_, rfl⟩
    have h := bnd_at ev_m_1 h
    refine r_iast C0 w 1 rfl (f' := v_m_1) rfl hi ev_m_1 dX10_uses_170 (ws' := (ws_Mo_uses cI cJ cZ q_this q_m q_saved q_w q_savedWords q_isSaved q_text q_far q_queue q_parent q_by q_seen q_path q_row q_more q_stateOf v_textLength v_steps v_missing v_mores v_hash v_m_1 v_w v_path v_more)) rfl (fun H locs w => ?_)
    obtain ⟨x2_1, ex2_1⟩ : ∃ y : Int32, y = (x2 + 1) := ⟨_, rfl⟩
    have h := bnd_at ex2_1 h
    refine lv_iinc (v := x2_1) (lv' := [(2, .int x2_1), (0, .ref q_this)]) hx hb dX10_uses_171 hl (k := 1) rfl (by rw [ex2_1]; rfl) (by decide) rfl (fun ls hl => ?_)
    refine lv_goto (tgt := 147) hx hb dX10_uses_174 (by decide) ?_
    exact hrec _ _ _ _ _ h w (lv_sub hl [1, 0] rfl)
set_option maxRecDepth 100000 in
theorem wl_Mo_uses_L147 {p : Program} {l : Launch} {e : Env} {s : State} {m : MethodId} {args : Array Value} {below : List Frame} {meth : Method} {c : Code} {Q : State → Prop} {A : Nat → Prop} {D : va_G} {cI cJ cZ cO : ClassId} {q_this q_m q_saved q_w q_savedWords q_isSaved q_text q_far q_queue q_parent q_by q_seen q_path q_row q_more q_stateOf : Nat} {v_textLength : Int32} {v_steps : Int32} {v_missing : Int64} {v_mores : Int32} {v_hash : Int64} {v_w : (Nat → Int64)} {v_path : (Nat → Int32)} {v_more : (Nat → Int64)} {x : Int32 × (Nat → Int32) × (Nat → Int64) × (Nat → Int64) × Int32} (C0 : Cx p s m args c A D cI cJ cZ cO cX10_uses 3 RX10) (hQ : RtI p l e rm_Mo_uses s m args below meth c Q A D cX10_uses .int (ws_Mo_uses cI cJ cZ q_this q_m q_saved q_w q_savedWords q_isSaved q_text q_far q_queue q_parent q_by q_seen q_path q_row q_more q_stateOf v_textLength v_steps v_missing x.2.2.2.2 v_hash x.2.1 x.2.2.1 v_path x.2.2.2.1) x.1) {K : Int32 → (Nat → Int32) → Option (Int32 × (Nat → Int32) × (Nat → Int64) × (Nat → Int64) × Int32)} (hK : ∀ (x2 : Int32) (v_m : (Nat → Int32)) (H : Heap) (locs : List Loc) (ls : Array Slot), K x2 v_m = some x → Wd s A D (ws_Mo_uses cI cJ cZ q_this q_m q_saved q_w q_savedWords q_isSaved q_text q_far q_queue q_parent q_by q_seen q_path q_row q_more q_stateOf v_textLength v_steps v_missing v_mores v_hash v_m v_w v_path v_more) H locs → lv_has ls 3 [(0, .ref q_this)] → W p l e rm_Mo_uses s m args below meth c H locs 0 0 Q (F0 m 177 ls [])) : ∀ (n : Nat) (x2 : Int32) (v_m : (Nat → Int32)) (H : Heap) (locs : List Loc) (ls : Array Slot), itr (fun _ _ => none) (f_Mo_uses_L147 v_steps v_path K) n x2 v_m = some x → Wd s A D (ws_Mo_uses cI cJ cZ q_this q_m q_saved q_w q_savedWords q_isSaved q_text q_far q_queue q_parent q_by q_seen q_path q_row q_more q_stateOf v_textLength v_steps v_missing v_mores v_hash v_m v_w v_path v_more) H locs → lv_has ls 3 [(0, .ref q_this), (2, .int x2)] → W p l e rm_Mo_uses s m args below meth c H locs 0 0 Q (F0 m 147 ls []) := by
  intro n
  induction n with
  | zero => intro _ _ _ _ _ h; cases (show none = some _ from h)
  | succ n ih => intro _ _ _ _ _ h w hl; exact w_Mo_uses_L147 C0 hQ hK ih _ _ h w hl
set_option maxRecDepth 100000 in
theorem w_Mo_uses_J129 {p : Program} {l : Launch} {e : Env} {s : State} {m : MethodId} {args : Array Value} {below : List Frame} {meth : Method} {c : Code} {Q : State → Prop} {A : Nat → Prop} {D : va_G} {cI cJ cZ cO : ClassId} {q_this q_m q_saved q_w q_savedWords q_isSaved q_text q_far q_queue q_parent q_by q_seen q_path q_row q_more q_stateOf : Nat} {v_textLength : Int32} {v_steps : Int32} {v_missing : Int64} {v_mores : Int32} {v_hash : Int64} {v_m : (Nat → Int32)} {v_w : (Nat → Int64)} {v_path : (Nat → Int32)} {v_more : (Nat → Int64)} {x : Int32 × (Nat → Int32) × (Nat → Int64) × (Nat → Int64) × Int32} {x1 : Int32} (C0 : Cx p s m args c A D cI cJ cZ cO cX10_uses 3 RX10) (hQ : RtI p l e rm_Mo_uses s m args below meth c Q A D cX10_uses .int (ws_Mo_uses cI cJ cZ q_this q_m q_saved q_w q_savedWords q_isSaved q_text q_far q_queue q_parent q_by q_seen q_path q_row q_more q_stateOf v_textLength v_steps v_missing x.2.2.2.2 v_hash x.2.1 x.2.2.1 v_path x.2.2.2.1) x.1) {H : Heap} {locs : List Loc} {ls : Array Slot} (h : f_Mo_uses_J129 x1 v_steps v_mores v_m v_w v_path v_more = some x) (w : Wd s A D (ws_Mo_uses cI cJ cZ q_this q_m q_saved q_w q_savedWords q_isSaved q_text q_far q_queue q_parent q_by q_seen q_path q_row q_more q_stateOf v_textLength v_steps v_missing v_mores v_hash v_m v_w v_path v_more) H locs) (hl : lv_has ls 3 [(0, .ref q_this), (1, .int x1)]) : W p l e rm_Mo_uses s m args below meth c H locs 0 0 Q (F0 m 129 ls []) := by
  obtain ⟨hx, hb, hml, hown, hts, -, -⟩ := id C0
  unfold f_Mo_uses_J129 at h
  refine lv_aload_n hx hb dX10_uses_129 rfl (lv_at hl 0 rfl) ?_
  refine lv_iload_n hx hb dX10_uses_130 rfl (lv_at hl 1 rfl) ?_
  obtain ⟨v_m_1, v_w_1, hcall, h⟩ := bd2_h h
  have hp := sp_of (ws := (ws_Mo_uses cI cJ cZ q_this q_m q_saved q_w q_savedWords q_isSaved q_text q_far q_queue q_parent q_by q_seen q_path q_row q_more q_stateOf v_textLength v_steps v_missing v_mores v_hash v_m v_w v_path v_more)) (wc := (ws_Mo_adds cI cJ cZ q_this q_m q_saved q_w q_savedWords q_isSaved q_text q_far q_queue q_parent q_by q_seen q_path q_row q_more q_stateOf v_textLength v_steps v_missing v_mores v_hash v_m v_w v_more)) [0, 1, 2, 4] [3] rfl rfl
  have hp' : Rp (pk (ws_Mo_uses cI cJ cZ q_this q_m q_saved q_w q_savedWords q_isSaved q_text q_far q_queue q_parent q_by q_seen q_path q_row q_more q_stateOf v_textLength v_steps v_missing v_mores v_hash v_m v_w v_path v_more) [3] ++ (ws_Mo_adds cI cJ cZ q_this q_m q_saved q_w q_savedWords q_isSaved q_text q_far q_queue q_parent q_by q_seen q_path q_row q_more q_stateOf v_textLength v_steps v_missing v_mores v_hash v_m_1 v_w_1 v_more)) (ws_Mo_uses cI cJ cZ q_this q_m q_saved q_w q_savedWords q_isSaved q_text q_far q_queue q_parent q_by q_seen q_path q_row q_more q_stateOf v_textLength v_steps v_missing v_mores v_hash v_m_1 v_w_1 v_path v_more) := ⟨[1, 2, 3, 0, 4], rfl, rfl⟩
  refine r_VV (As := [.int x1]) (rest := []) (wc' := (ws_Mo_adds cI cJ cZ q_this q_m q_saved q_w q_savedWords q_isSaved q_text q_far q_queue q_parent q_by q_seen q_path q_row q_more q_stateOf v_textLength v_steps v_missing v_mores v_hash v_m_1 v_w_1 v_more)) (ws' := (ws_Mo_uses cI cJ cZ q_this q_m q_saved q_w q_savedWords q_isSaved q_text q_far q_queue q_parent q_by q_seen q_path q_row q_more q_stateOf v_textLength v_steps v_missing v_mores v_hash v_m_1 v_w_1 v_path v_more)) C0 w (c_Mo_adds hcall) hp hp' lm_RX10_182 mv_Mo_adds ⟨rfl, rfl⟩ ⟨by decide, by decide⟩ ⟨Nat.zero_le _, Nat.zero_le _⟩ (q0 := 0) rfl rfl rfl rfl hl rfl (Nat.le_of_ble_eq_true rfl) dX10_uses_131 (fun H locs w => ?_)
  refine lv_aload_n hx hb dX10_uses_134 rfl (lv_at hl 0 rfl) ?_
  refine r_get C0 w 0 rfl kf_Mo 0 (by decide) lf_RX10_7 rfl dX10_uses_135 ?_
  refine lv_bipush (v := (44 : Int32)) hx hb dX10_uses_138 (by decide) ?_
  refine lv_aload_n hx hb dX10_uses_140 rfl (lv_at hl 0 rfl) ?_
  refine r_get C0 w 0 rfl kf_Mo 13 (by decide) lf_RX10_110 rfl dX10_uses_141 ?_
  obtain ⟨v_m_2, ev_m_2⟩ : ∃ y, y = (upd v_m_1 44 v_steps) := ⟨_, rfl⟩
  have h := bnd_at ev_m_2 h
  refine r_iast C0 w 1 rfl (f' := v_m_2) (k := 44) (by decide) (inl (by decide)) ev_m_2 dX10_uses_144 (ws' := (ws_Mo_uses cI cJ cZ q_this q_m q_saved q_w q_savedWords q_isSaved q_text q_far q_queue q_parent q_by q_seen q_path q_row q_more q_stateOf v_textLength v_steps v_missing v_mores v_hash v_m_2 v_w_1 v_path v_more)) rfl (fun H locs w => ?_)
  refine lv_iconst (v := (0 : Int32)) hx hb dX10_uses_145 (by decide) ?_
  refine lv_istore_n (lv' := [(2, .int (0 : Int32)), (0, .ref q_this), (1, .int x1)]) hx hb dX10_uses_146 rfl hl (by decide) rfl (fun ls hl => ?_)
  refine wl_Mo_uses_L147 C0 hQ (fun x2 v_m_3 H locs ls h w hl => ?_) _ _ _ _ _ _ h w (lv_sub hl [1, 0] rfl)
  refine lv_aload_n hx hb dX10_uses_177 rfl (lv_at hl 0 rfl) ?_
  refine r_get C0 w 0 rfl kf_Mo 0 (by decide) lf_RX10_7 rfl dX10_uses_178 ?_
  refine lv_bipush (v := (42 : Int32)) hx hb dX10_uses_181 (by decide) ?_
  refine lv_dup2_11 hx hb dX10_uses_183 rfl rfl ?_
  refine r_iald C0 w 1 rfl (k := 42) (by decide) (inl (by decide)) dX10_uses_184 ?_
  refine lv_iconst (v := (1 : Int32)) hx hb dX10_uses_185 (by decide) ?_
  refine lv_iadd hx hb dX10_uses_186 ?_
  obtain ⟨v_m_4, ev_m_4⟩ : ∃ y, y = (upd v_m_3 42 ((v_m_3 42) + (1 : Int32))) := ⟨_, rfl⟩
  have h := bnd_at ev_m_4 h
  refine r_iast C0 w 1 rfl (f' := v_m_4) (k := 42) (by decide) (inl (by decide)) ev_m_4 dX10_uses_187 (ws' := (ws_Mo_uses cI cJ cZ q_this q_m q_saved q_w q_savedWords q_isSaved q_text q_far q_queue q_parent q_by q_seen q_path q_row q_more q_stateOf v_textLength v_steps v_missing v_mores v_hash v_m_4 v_w_1 v_path v_more)) rfl (fun H locs w => ?_)
  refine lv_aload_n hx hb dX10_uses_188 rfl (lv_at hl 0 rfl) ?_
  refine r_get C0 w 0 rfl kf_Mo 0 (by decide) lf_RX10_7 rfl dX10_uses_189 ?_
  refine lv_bipush (v := (43 : Int32)) hx hb dX10_uses_192 (by decide) ?_
  refine lv_aload_n hx hb dX10_uses_194 rfl (lv_at hl 0 rfl) ?_
  refine r_get C0 w 0 rfl kf_Mo 17 (by decide) lf_RX10_149 rfl dX10_uses_195 ?_
  obtain ⟨t, et⟩ : ∃ y : Int32, y = (if v_mores = 0 then (1 : Int32) else (0 : Int32)) := ⟨_, rfl⟩
  have h := bnd_at et h
  have J : W p l e rm_Mo_uses s m args below meth c H locs 0 0 Q (F0 m 206 ls [.int t, .int (43 : Int32), .ref q_m]) := by
    obtain ⟨v_m_5, ev_m_5⟩ : ∃ y, y = (upd v_m_4 43 t) := ⟨_, rfl⟩
    have h := bnd_at ev_m_5 h
    refine r_iast C0 w 1 rfl (f' := v_m_5) (k := 43) (by decide) (inl (by decide)) ev_m_5 dX10_uses_206 (ws' := (ws_Mo_uses cI cJ cZ q_this q_m q_saved q_w q_savedWords q_isSaved q_text q_far q_queue q_parent q_by q_seen q_path q_row q_more q_stateOf v_textLength v_steps v_missing v_mores v_hash v_m_5 v_w_1 v_path v_more)) rfl (fun H locs w => ?_)
    refine lv_aload_n hx hb dX10_uses_207 rfl (lv_at hl 0 rfl) ?_
    refine r_get C0 w 0 rfl kf_Mo 17 (by decide) lf_RX10_149 rfl dX10_uses_208 ?_
    obtain ⟨t_1, et_1⟩ : ∃ y : Int32, y = (if v_mores = 0 then (7 : Int32) else (5 : Int32)) := ⟨_, rfl⟩
    have h := bnd_at et_1 h
    have J : W p l e rm_Mo_uses s m args below meth c H locs 0 0 Q (F0 m 220 ls [.int t_1]) := by
      cases h
      exact hQ _ _ _ _ dX10_uses_220 rfl w
    refine lv_if_ne (tgt := 219) hx hb dX10_uses_211 (by decide) (fun hc => ?_) (fun hc => ?_)
    · refine lv_iconst (v := (5 : Int32)) hx hb dX10_uses_219 (by decide) ?_
      exact r_eqi (et_1.trans (if_neg hc)) J
    · refine lv_bipush (v := (7 : Int32)) hx hb dX10_uses_214 (by decide) ?_
      refine lv_goto (tgt := 220) hx hb dX10_uses_216 (by decide) ?_
      exact r_eqi (et_1.trans (if_pos hc)) J
  refine lv_if_ne (tgt := 205) hx hb dX10_uses_198 (by decide) (fun hc => ?_) (fun hc => ?_)
  · refine lv_iconst (v := (0 : Int32)) hx hb dX10_uses_205 (by decide) ?_
    exact r_eqi (et.trans (if_neg hc)) J
  · refine lv_iconst (v := (1 : Int32)) hx hb dX10_uses_201 (by decide) ?_
    refine lv_goto (tgt := 206) hx hb dX10_uses_202 (by decide) ?_
    exact r_eqi (et.trans (if_pos hc)) J
set_option maxRecDepth 100000 in
theorem w_Mo_uses_J111 {p : Program} {l : Launch} {e : Env} {s : State} {m : MethodId} {args : Array Value} {below : List Frame} {meth : Method} {c : Code} {Q : State → Prop} {A : Nat → Prop} {D : va_G} {cI cJ cZ cO : ClassId} {q_this q_m q_saved q_w q_savedWords q_isSaved q_text q_far q_queue q_parent q_by q_seen q_path q_row q_more q_stateOf : Nat} {v_textLength : Int32} {v_steps : Int32} {v_missing : Int64} {v_mores : Int32} {v_hash : Int64} {v_m : (Nat → Int32)} {v_w : (Nat → Int64)} {v_path : (Nat → Int32)} {v_more : (Nat → Int64)} {x : Int32 × (Nat → Int32) × (Nat → Int64) × (Nat → Int64) × Int32} {x1 : Int32} (C0 : Cx p s m args c A D cI cJ cZ cO cX10_uses 3 RX10) (hQ : RtI p l e rm_Mo_uses s m args below meth c Q A D cX10_uses .int (ws_Mo_uses cI cJ cZ q_this q_m q_saved q_w q_savedWords q_isSaved q_text q_far q_queue q_parent q_by q_seen q_path q_row q_more q_stateOf v_textLength v_steps v_missing x.2.2.2.2 v_hash x.2.1 x.2.2.1 v_path x.2.2.2.1) x.1) {H : Heap} {locs : List Loc} {ls : Array Slot} (h : f_Mo_uses_J111 x1 v_steps v_mores v_m v_w v_path v_more = some x) (w : Wd s A D (ws_Mo_uses cI cJ cZ q_this q_m q_saved q_w q_savedWords q_isSaved q_text q_far q_queue q_parent q_by q_seen q_path q_row q_more q_stateOf v_textLength v_steps v_missing v_mores v_hash v_m v_w v_path v_more) H locs) (hl : lv_has ls 3 [(0, .ref q_this), (1, .int x1)]) : W p l e rm_Mo_uses s m args below meth c H locs 0 0 Q (F0 m 111 ls []) := by
  obtain ⟨hx, hb, hml, hown, hts, -, -⟩ := id C0
  unfold f_Mo_uses_J111 at h
  refine lv_aload_n hx hb dX10_uses_111 rfl (lv_at hl 0 rfl) ?_
  refine r_get C0 w 0 rfl kf_Mo 17 (by decide) lf_RX10_149 rfl dX10_uses_112 ?_
  refine lv_if_le (tgt := 129) hx hb dX10_uses_115 (by decide) (fun hc => ?_) (fun hc => ?_)
  · have h := if_h hc h
    exact w_Mo_uses_J129 C0 hQ h w (lv_sub hl [0, 1] rfl)
  · have h := nf_h hc h
    refine lv_aload_n hx hb dX10_uses_118 rfl (lv_at hl 0 rfl) ?_
    refine lv_iload_n hx hb dX10_uses_119 rfl (lv_at hl 1 rfl) ?_
    obtain ⟨r, hcall, h⟩ := bd1_h h
    obtain ⟨wr, hp, hp'⟩ := rd_of (ws := (ws_Mo_uses cI cJ cZ q_this q_m q_saved q_w q_savedWords q_isSaved q_text q_far q_queue q_parent q_by q_seen q_path q_row q_more q_stateOf v_textLength v_steps v_missing v_mores v_hash v_m v_w v_path v_more)) (wc := (ws_Mo_fit cI cJ cZ q_this q_m q_saved q_w q_savedWords q_isSaved q_text q_far q_queue q_parent q_by q_seen q_path q_row q_more q_stateOf v_textLength v_steps v_missing v_mores v_hash v_m v_w v_more)) [0, 1, 2, 4] rfl rfl
    refine r_VI (r := r) (As := [.int x1]) (rest := []) (wc' := (ws_Mo_fit cI cJ cZ q_this q_m q_saved q_w q_savedWords q_isSaved q_text q_far q_queue q_parent q_by q_seen q_path q_row q_more q_stateOf v_textLength v_steps v_missing v_mores v_hash v_m v_w v_more)) (ws' := (ws_Mo_uses cI cJ cZ q_this q_m q_saved q_w q_savedWords q_isSaved q_text q_far q_queue q_parent q_by q_seen q_path q_row q_more q_stateOf v_textLength v_steps v_missing v_mores v_hash v_m v_w v_path v_more)) C0 w (c_Mo_fit hcall) hp hp' lm_RX10_178 mv_Mo_fit ⟨rfl, rfl⟩ ⟨by decide, by decide⟩ ⟨Nat.zero_le _, Nat.zero_le _⟩ (q0 := 0) rfl rfl rfl rfl hl rfl (Nat.le_of_ble_eq_true rfl) dX10_uses_120 (fun H locs w => ?_)
    refine lv_if_ne (tgt := 129) hx hb dX10_uses_123 (by decide) (fun hc => ?_) (fun hc => ?_)
    · have h := nf_h hc h
      exact w_Mo_uses_J129 C0 hQ h w (lv_sub hl [0, 1] rfl)
    · have h := if_h hc h
      refine lv_bipush (v := (-5 : Int32)) hx hb dX10_uses_126 (by decide) ?_
      cases h
      exact hQ _ _ _ _ dX10_uses_128 rfl w
set_option maxRecDepth 100000 in
theorem c_Mo_uses {l : Launch} {D : va_G} {cI cJ cZ cO : ClassId} {q_this q_m q_saved q_w q_savedWords q_isSaved q_text q_far q_queue q_parent q_by q_seen q_path q_row q_more q_stateOf : Nat} {v_textLength : Int32} {v_steps : Int32} {v_missing : Int64} {v_mores : Int32} {v_hash : Int64} {v_m : (Nat → Int32)} {v_w : (Nat → Int64)} {v_path : (Nat → Int32)} {v_more : (Nat → Int64)} {x : Int32 × (Nat → Int32) × (Nat → Int64) × (Nat → Int64) × Int32} (h : f_Mo_uses v_steps v_mores v_m v_w v_path v_more = some x) : ctI l D cI cJ cZ cO yX10_uses cX10_uses 3 .int rm_Mo_uses [.ref q_this] (ws_Mo_uses cI cJ cZ q_this q_m q_saved q_w q_savedWords q_isSaved q_text q_far q_queue q_parent q_by q_seen q_path q_row q_more q_stateOf v_textLength v_steps v_missing v_mores v_hash v_m v_w v_path v_more) (ws_Mo_uses cI cJ cZ q_this q_m q_saved q_w q_savedWords q_isSaved q_text q_far q_queue q_parent q_by q_seen q_path q_row q_more q_stateOf v_textLength v_steps v_missing x.2.2.2.2 v_hash x.2.1 x.2.2.1 v_path x.2.2.2.1) x.1 := by
  refine ctI_of (by decide) (Nat.le_of_ble_eq_true rfl) ?_
  intro p e s m below meth c Q A ls C0 hQ w hl
  have hl : lv_has ls 3 [(0, .ref q_this)] := hl
  generalize List.toArray (α := Value) [.ref q_this] = args at C0 hQ ⊢
  obtain ⟨hx, hb, hml, hown, hts, -, -⟩ := id C0
  unfold f_Mo_uses at h
  refine lv_aload_n hx hb dX10_uses_0 rfl (lv_at hl 0 rfl) ?_
  refine r_get C0 w 0 rfl kf_Mo 13 (by decide) lf_RX10_110 rfl dX10_uses_1 ?_
  refine lv_bipush (v := (16 : Int32)) hx hb dX10_uses_4 (by decide) ?_
  refine lv_icmp_le (tgt := 12) hx hb dX10_uses_6 (by decide) (fun hc => ?_) (fun hc => ?_)
  · have h := if_h hc h
    refine lv_aload_n hx hb dX10_uses_12 rfl (lv_at hl 0 rfl) ?_
    refine lv_iconst (v := (0 : Int32)) hx hb dX10_uses_13 (by decide) ?_
    refine r_put C0 w 0 rfl kf_Mo 17 (by decide) lf_RX10_149 rfl rfl rfl (Nat.le_of_ble_eq_true rfl) dX10_uses_14 (ws' := (ws_Mo_uses cI cJ cZ q_this q_m q_saved q_w q_savedWords q_isSaved q_text q_far q_queue q_parent q_by q_seen q_path q_row q_more q_stateOf v_textLength v_steps v_missing (0 : Int32) v_hash v_m v_w v_path v_more)) rfl (fun H locs w => ?_)
    refine lv_aload_n hx hb dX10_uses_17 rfl (lv_at hl 0 rfl) ?_
    refine r_get C0 w 0 rfl kf_Mo 0 (by decide) lf_RX10_7 rfl dX10_uses_18 ?_
    refine lv_bipush (v := (35 : Int32)) hx hb dX10_uses_21 (by decide) ?_
    refine r_iald C0 w 1 rfl (k := 35) (by decide) (inl (by decide)) dX10_uses_23 ?_
    obtain ⟨t, et⟩ : ∃ y : Int32, y = (if (v_m 35) ≤ 0 then (0 : Int32) else (1 : Int32)) := ⟨_, rfl⟩
    have h := bnd_at et h
    have J : W p l e rm_Mo_uses s m args below meth c H locs 0 0 Q (F0 m 32 ls [.int t]) := by
      refine lv_istore_n (lv' := [(1, .int t), (0, .ref q_this)]) hx hb dX10_uses_32 rfl hl (by decide) rfl (fun ls hl => ?_)
      refine lv_aload_n hx hb dX10_uses_33 rfl (lv_at hl 1 rfl) ?_
      refine r_get C0 w 0 rfl kf_Mo 0 (by decide) lf_RX10_7 rfl dX10_uses_34 ?_
      refine lv_bipush (v := (35 : Int32)) hx hb dX10_uses_37 (by decide) ?_
      refine r_iald C0 w 1 rfl (k := 35) (by decide) (inl (by decide)) dX10_uses_39 ?_
      refine lv_iconst (v := (1 : Int32)) hx hb dX10_uses_40 (by decide) ?_
      refine lv_icmp_ne (tgt := 73) hx hb dX10_uses_41 (by decide) (fun hc => ?_) (fun hc => ?_)
      · have h := nf_h hc h
        refine lv_iconst (v := (0 : Int32)) hx hb dX10_uses_73 (by decide) ?_
        refine lv_istore_n (lv' := [(2, .int (0 : Int32)), (1, .int t), (0, .ref q_this)]) hx hb dX10_uses_74 rfl hl (by decide) rfl (fun ls hl => ?_)
        refine wl_Mo_uses_L75 C0 hQ (fun x2 v_more_1 v_mores_1 H locs ls h w hl => ?_) _ _ _ _ _ _ _ h w (lv_sub hl [2, 1, 0] rfl)
        exact w_Mo_uses_J111 C0 hQ h w (lv_sub hl [0, 1] rfl)
      · have h := if_h hc h
        refine lv_aload_n hx hb dX10_uses_44 rfl (lv_at hl 1 rfl) ?_
        obtain ⟨r, v_m_1, v_w_1, hcall, h⟩ := bd3_h h
        have hp := sp_of (ws := (ws_Mo_uses cI cJ cZ q_this q_m q_saved q_w q_savedWords q_isSaved q_text q_far q_queue q_parent q_by q_seen q_path q_row q_more q_stateOf v_textLength v_steps v_missing (0 : Int32) v_hash v_m v_w v_path v_more)) (wc := (ws_Mo_halves cI cJ cZ q_this q_m q_saved q_w q_savedWords q_isSaved q_text q_far q_queue q_parent q_by q_seen q_path q_row q_more q_stateOf v_textLength v_steps v_missing (0 : Int32) v_hash v_m v_w v_path)) [0, 1, 2, 3] [4] rfl rfl
        have hp' : Rp (pk (ws_Mo_uses cI cJ cZ q_this q_m q_saved q_w q_savedWords q_isSaved q_text q_far q_queue q_parent q_by q_seen q_path q_row q_more q_stateOf v_textLength v_steps v_missing (0 : Int32) v_hash v_m v_w v_path v_more) [4] ++ (ws_Mo_halves cI cJ cZ q_this q_m q_saved q_w q_savedWords q_isSaved q_text q_far q_queue q_parent q_by q_seen q_path q_row q_more q_stateOf v_textLength v_steps v_missing (0 : Int32) v_hash v_m_1 v_w_1 v_path)) (ws_Mo_uses cI cJ cZ q_this q_m q_saved q_w q_savedWords q_isSaved q_text q_far q_queue q_parent q_by q_seen q_path q_row q_more q_stateOf v_textLength v_steps v_missing (0 : Int32) v_hash v_m_1 v_w_1 v_path v_more) := ⟨[1, 2, 3, 4, 0], rfl, rfl⟩
        refine r_VI (r := r) (As := []) (rest := []) (wc' := (ws_Mo_halves cI cJ cZ q_this q_m q_saved q_w q_savedWords q_isSaved q_text q_far q_queue q_parent q_by q_seen q_path q_row q_more q_stateOf v_textLength v_steps v_missing (0 : Int32) v_hash v_m_1 v_w_1 v_path)) (ws' := (ws_Mo_uses cI cJ cZ q_this q_m q_saved q_w q_savedWords q_isSaved q_text q_far q_queue q_parent q_by q_seen q_path q_row q_more q_stateOf v_textLength v_steps v_missing (0 : Int32) v_hash v_m_1 v_w_1 v_path v_more)) C0 w (c_Mo_halves hcall) hp hp' lm_RX10_172 mv_Mo_halves ⟨rfl, rfl⟩ ⟨by decide, by decide⟩ ⟨Nat.zero_le _, Nat.zero_le _⟩ (q0 := 0) rfl rfl rfl rfl hl rfl (Nat.le_of_ble_eq_true rfl) dX10_uses_45 (fun H locs w => ?_)
        refine lv_istore_n (lv' := [(2, .int r), (1, .int t), (0, .ref q_this)]) hx hb dX10_uses_48 rfl hl (by decide) rfl (fun ls hl => ?_)
        refine lv_iload_n hx hb dX10_uses_49 rfl (lv_at hl 0 rfl) ?_
        refine lv_if_ge (tgt := 55) hx hb dX10_uses_50 (by decide) (fun hc => ?_) (fun hc => ?_)
        · have h := if_h hc h
          refine lv_aload_n hx hb dX10_uses_55 rfl (lv_at hl 2 rfl) ?_
          refine lv_aload_n hx hb dX10_uses_56 rfl (lv_at hl 2 rfl) ?_
          refine lv_aload_n hx hb dX10_uses_57 rfl (lv_at hl 2 rfl) ?_
          refine r_get C0 w 0 rfl kf_Mo 13 (by decide) lf_RX10_110 rfl dX10_uses_58 ?_
          refine lv_iload_n hx hb dX10_uses_61 rfl (lv_at hl 0 rfl) ?_
          refine lv_isub hx hb dX10_uses_62 ?_
          obtain ⟨r_1, hcall, h⟩ := bd1_h h
          obtain ⟨wr, hp, hp'⟩ := rd_of (ws := (ws_Mo_uses cI cJ cZ q_this q_m q_saved q_w q_savedWords q_isSaved q_text q_far q_queue q_parent q_by q_seen q_path q_row q_more q_stateOf v_textLength v_steps v_missing (0 : Int32) v_hash v_m_1 v_w_1 v_path v_more)) (wc := (ws_Mo_lastLetters cI cJ cZ q_this q_m q_saved q_w q_savedWords q_isSaved q_text q_far q_queue q_parent q_by q_seen q_path q_row q_more q_stateOf v_textLength v_steps v_missing (0 : Int32) v_hash v_path)) [0, 3] rfl rfl
          refine r_VJ (r := r_1) (As := [.int (v_steps - r)]) (rest := [.ref q_this]) (wc' := (ws_Mo_lastLetters cI cJ cZ q_this q_m q_saved q_w q_savedWords q_isSaved q_text q_far q_queue q_parent q_by q_seen q_path q_row q_more q_stateOf v_textLength v_steps v_missing (0 : Int32) v_hash v_path)) (ws' := (ws_Mo_uses cI cJ cZ q_this q_m q_saved q_w q_savedWords q_isSaved q_text q_far q_queue q_parent q_by q_seen q_path q_row q_more q_stateOf v_textLength v_steps v_missing (0 : Int32) v_hash v_m_1 v_w_1 v_path v_more)) C0 w (c_Mo_lastLetters hcall) hp hp' lm_RX10_166 mv_Mo_lastLetters ⟨rfl, rfl⟩ ⟨by decide, by decide⟩ ⟨Nat.zero_le _, Nat.zero_le _⟩ (q0 := 0) rfl rfl rfl rfl hl rfl (Nat.le_of_ble_eq_true rfl) dX10_uses_63 (fun H locs w => ?_)
          refine lv_iconst (v := (1 : Int32)) hx hb dX10_uses_66 (by decide) ?_
          obtain ⟨v_more_2, v_mores_2, hcall, h⟩ := bd2_h h
          have hp := sp_of (ws := (ws_Mo_uses cI cJ cZ q_this q_m q_saved q_w q_savedWords q_isSaved q_text q_far q_queue q_parent q_by q_seen q_path q_row q_more q_stateOf v_textLength v_steps v_missing (0 : Int32) v_hash v_m_1 v_w_1 v_path v_more)) (wc := (ws_Mo_wants cI cJ cZ q_this q_m q_saved q_w q_savedWords q_isSaved q_text q_far q_queue q_parent q_by q_seen q_path q_row q_more q_stateOf v_textLength v_steps v_missing (0 : Int32) v_hash v_m_1 v_w_1 v_more)) [0, 1, 2, 4] [3] rfl rfl
          have hp' : Rp (pk (ws_Mo_uses cI cJ cZ q_this q_m q_saved q_w q_savedWords q_isSaved q_text q_far q_queue q_parent q_by q_seen q_path q_row q_more q_stateOf v_textLength v_steps v_missing (0 : Int32) v_hash v_m_1 v_w_1 v_path v_more) [3] ++ (ws_Mo_wants cI cJ cZ q_this q_m q_saved q_w q_savedWords q_isSaved q_text q_far q_queue q_parent q_by q_seen q_path q_row q_more q_stateOf v_textLength v_steps v_missing v_mores_2 v_hash v_m_1 v_w_1 v_more_2)) (ws_Mo_uses cI cJ cZ q_this q_m q_saved q_w q_savedWords q_isSaved q_text q_far q_queue q_parent q_by q_seen q_path q_row q_more q_stateOf v_textLength v_steps v_missing v_mores_2 v_hash v_m_1 v_w_1 v_path v_more_2) := ⟨[1, 2, 3, 0, 4], rfl, rfl⟩
          refine r_VV (As := [.long r_1, .int (1 : Int32)]) (rest := []) (wc' := (ws_Mo_wants cI cJ cZ q_this q_m q_saved q_w q_savedWords q_isSaved q_text q_far q_queue q_parent q_by q_seen q_path q_row q_more q_stateOf v_textLength v_steps v_missing v_mores_2 v_hash v_m_1 v_w_1 v_more_2)) (ws' := (ws_Mo_uses cI cJ cZ q_this q_m q_saved q_w q_savedWords q_isSaved q_text q_far q_queue q_parent q_by q_seen q_path q_row q_more q_stateOf v_textLength v_steps v_missing v_mores_2 v_hash v_m_1 v_w_1 v_path v_more_2)) C0 w (c_Mo_wants hcall) hp hp' lm_RX10_162 mv_Mo_wants ⟨rfl, rfl⟩ ⟨by decide, by decide⟩ ⟨Nat.zero_le _, Nat.zero_le _⟩ (q0 := 0) rfl rfl rfl rfl hl rfl (Nat.le_of_ble_eq_true rfl) dX10_uses_67 (fun H locs w => ?_)
          refine lv_goto (tgt := 111) hx hb dX10_uses_70 (by decide) ?_
          exact w_Mo_uses_J111 C0 hQ h w (lv_sub hl [2, 1] rfl)
        · have h := nf_h hc h
          refine lv_iload_n hx hb dX10_uses_53 rfl (lv_at hl 0 rfl) ?_
          cases h
          exact hQ _ _ _ _ dX10_uses_54 rfl w
    refine lv_if_le (tgt := 31) hx hb dX10_uses_24 (by decide) (fun hc => ?_) (fun hc => ?_)
    · refine lv_iconst (v := (0 : Int32)) hx hb dX10_uses_31 (by decide) ?_
      exact r_eqi (et.trans (if_pos hc)) J
    · refine lv_iconst (v := (1 : Int32)) hx hb dX10_uses_27 (by decide) ?_
      refine lv_goto (tgt := 32) hx hb dX10_uses_28 (by decide) ?_
      exact r_eqi (et.trans (if_neg hc)) J
  · have h := nf_h hc h
    refine lv_bipush (v := (-5 : Int32)) hx hb dX10_uses_9 (by decide) ?_
    cases h
    exact hQ _ _ _ _ dX10_uses_11 rfl w
theorem dX10_step_0 : decode cX10_step 0 = .ok (.aload_n 0, 1) := by decide +kernel
theorem dX10_step_1 : decode cX10_step 1 = .ok (.getfield 7, 3) := by decide +kernel
theorem dX10_step_4 : decode cX10_step 4 = .ok (.bipush 43, 2) := by decide +kernel
theorem dX10_step_6 : decode cX10_step 6 = .ok (.iaload, 1) := by decide +kernel
theorem dX10_step_7 : decode cX10_step 7 = .ok (.iconst 1, 1) := by decide +kernel
theorem dX10_step_8 : decode cX10_step 8 = .ok (.if_icmp .ne 6, 3) := by decide +kernel
theorem dX10_step_11 : decode cX10_step 11 = .ok (.bipush 7, 2) := by decide +kernel
theorem dX10_step_13 : decode cX10_step 13 = .ok (.ireturn, 1) := by decide +kernel
theorem dX10_step_14 : decode cX10_step 14 = .ok (.aload_n 0, 1) := by decide +kernel
theorem dX10_step_15 : decode cX10_step 15 = .ok (.invokevirtual 186, 3) := by decide +kernel
theorem dX10_step_18 : decode cX10_step 18 = .ok (.ifCond .ne 23, 3) := by decide +kernel
theorem dX10_step_21 : decode cX10_step 21 = .ok (.aload_n 0, 1) := by decide +kernel
theorem dX10_step_22 : decode cX10_step 22 = .ok (.aload_n 0, 1) := by decide +kernel
theorem dX10_step_23 : decode cX10_step 23 = .ok (.getfield 141, 3) := by decide +kernel
theorem dX10_step_26 : decode cX10_step 26 = .ok (.invokevirtual 130, 3) := by decide +kernel
theorem dX10_step_29 : decode cX10_step 29 = .ok (.bipush (-4), 2) := by decide +kernel
theorem dX10_step_31 : decode cX10_step 31 = .ok (.if_icmp .ne 8, 3) := by decide +kernel
theorem dX10_step_34 : decode cX10_step 34 = .ok (.bipush (-4), 2) := by decide +kernel
theorem dX10_step_36 : decode cX10_step 36 = .ok (.goto 4, 3) := by decide +kernel
theorem dX10_step_39 : decode cX10_step 39 = .ok (.iconst 1, 1) := by decide +kernel
theorem dX10_step_40 : decode cX10_step 40 = .ok (.ireturn, 1) := by decide +kernel
theorem dX10_step_41 : decode cX10_step 41 = .ok (.aload_n 0, 1) := by decide +kernel
theorem dX10_step_42 : decode cX10_step 42 = .ok (.invokevirtual 190, 3) := by decide +kernel
theorem dX10_step_45 : decode cX10_step 45 = .ok (.istore_n 1, 1) := by decide +kernel
theorem dX10_step_46 : decode cX10_step 46 = .ok (.iload_n 1, 1) := by decide +kernel
theorem dX10_step_47 : decode cX10_step 47 = .ok (.iconst (-1), 1) := by decide +kernel
theorem dX10_step_48 : decode cX10_step 48 = .ok (.if_icmp .eq 36, 3) := by decide +kernel
theorem dX10_step_51 : decode cX10_step 51 = .ok (.aload_n 0, 1) := by decide +kernel
theorem dX10_step_52 : decode cX10_step 52 = .ok (.iconst 0, 1) := by decide +kernel
theorem dX10_step_53 : decode cX10_step 53 = .ok (.putfield 149, 3) := by decide +kernel
theorem dX10_step_56 : decode cX10_step 56 = .ok (.aload_n 0, 1) := by decide +kernel
theorem dX10_step_57 : decode cX10_step 57 = .ok (.aload_n 0, 1) := by decide +kernel
theorem dX10_step_58 : decode cX10_step 58 = .ok (.iload_n 1, 1) := by decide +kernel
theorem dX10_step_59 : decode cX10_step 59 = .ok (.invokevirtual 133, 3) := by decide +kernel
theorem dX10_step_62 : decode cX10_step 62 = .ok (.iconst 0, 1) := by decide +kernel
theorem dX10_step_63 : decode cX10_step 63 = .ok (.invokevirtual 162, 3) := by decide +kernel
theorem dX10_step_66 : decode cX10_step 66 = .ok (.aload_n 0, 1) := by decide +kernel
theorem dX10_step_67 : decode cX10_step 67 = .ok (.iconst 0, 1) := by decide +kernel
theorem dX10_step_68 : decode cX10_step 68 = .ok (.invokevirtual 178, 3) := by decide +kernel
theorem dX10_step_71 : decode cX10_step 71 = .ok (.ifCond .ne 6, 3) := by decide +kernel
theorem dX10_step_74 : decode cX10_step 74 = .ok (.bipush (-5), 2) := by decide +kernel
theorem dX10_step_76 : decode cX10_step 76 = .ok (.ireturn, 1) := by decide +kernel
theorem dX10_step_77 : decode cX10_step 77 = .ok (.aload_n 0, 1) := by decide +kernel
theorem dX10_step_78 : decode cX10_step 78 = .ok (.iconst 0, 1) := by decide +kernel
theorem dX10_step_79 : decode cX10_step 79 = .ok (.invokevirtual 182, 3) := by decide +kernel
theorem dX10_step_82 : decode cX10_step 82 = .ok (.iconst 2, 1) := by decide +kernel
theorem dX10_step_83 : decode cX10_step 83 = .ok (.ireturn, 1) := by decide +kernel
theorem dX10_step_84 : decode cX10_step 84 = .ok (.aload_n 0, 1) := by decide +kernel
theorem dX10_step_85 : decode cX10_step 85 = .ok (.invokevirtual 193, 3) := by decide +kernel
theorem dX10_step_88 : decode cX10_step 88 = .ok (.ifCond .eq 21, 3) := by decide +kernel
theorem dX10_step_91 : decode cX10_step 91 = .ok (.aload_n 0, 1) := by decide +kernel
theorem dX10_step_92 : decode cX10_step 92 = .ok (.iconst 1, 1) := by decide +kernel
theorem dX10_step_93 : decode cX10_step 93 = .ok (.invokevirtual 178, 3) := by decide +kernel
theorem dX10_step_96 : decode cX10_step 96 = .ok (.ifCond .ne 6, 3) := by decide +kernel
theorem dX10_step_99 : decode cX10_step 99 = .ok (.bipush (-5), 2) := by decide +kernel
theorem dX10_step_101 : decode cX10_step 101 = .ok (.ireturn, 1) := by decide +kernel
theorem dX10_step_102 : decode cX10_step 102 = .ok (.aload_n 0, 1) := by decide +kernel
theorem dX10_step_103 : decode cX10_step 103 = .ok (.iconst 1, 1) := by decide +kernel
theorem dX10_step_104 : decode cX10_step 104 = .ok (.invokevirtual 182, 3) := by decide +kernel
theorem dX10_step_107 : decode cX10_step 107 = .ok (.iconst 3, 1) := by decide +kernel
theorem dX10_step_108 : decode cX10_step 108 = .ok (.ireturn, 1) := by decide +kernel
theorem dX10_step_109 : decode cX10_step 109 = .ok (.aload_n 0, 1) := by decide +kernel
theorem dX10_step_110 : decode cX10_step 110 = .ok (.getfield 7, 3) := by decide +kernel
theorem dX10_step_113 : decode cX10_step 113 = .ok (.bipush 41, 2) := by decide +kernel
theorem dX10_step_115 : decode cX10_step 115 = .ok (.iaload, 1) := by decide +kernel
theorem dX10_step_116 : decode cX10_step 116 = .ok (.ifCond .ne 9, 3) := by decide +kernel
theorem dX10_step_119 : decode cX10_step 119 = .ok (.aload_n 0, 1) := by decide +kernel
theorem dX10_step_120 : decode cX10_step 120 = .ok (.invokevirtual 196, 3) := by decide +kernel
theorem dX10_step_123 : decode cX10_step 123 = .ok (.iconst 4, 1) := by decide +kernel
theorem dX10_step_124 : decode cX10_step 124 = .ok (.ireturn, 1) := by decide +kernel
theorem dX10_step_125 : decode cX10_step 125 = .ok (.aload_n 0, 1) := by decide +kernel
theorem dX10_step_126 : decode cX10_step 126 = .ok (.iconst 0, 1) := by decide +kernel
theorem dX10_step_127 : decode cX10_step 127 = .ok (.iconst 0, 1) := by decide +kernel
theorem dX10_step_128 : decode cX10_step 128 = .ok (.iconst 1, 1) := by decide +kernel
theorem dX10_step_129 : decode cX10_step 129 = .ok (.invokevirtual 113, 3) := by decide +kernel
theorem dX10_step_132 : decode cX10_step 132 = .ok (.ifCond .eq 10, 3) := by decide +kernel
theorem dX10_step_135 : decode cX10_step 135 = .ok (.aload_n 0, 1) := by decide +kernel
theorem dX10_step_136 : decode cX10_step 136 = .ok (.invokevirtual 199, 3) := by decide +kernel
theorem dX10_step_139 : decode cX10_step 139 = .ok (.goto 5, 3) := by decide +kernel
theorem dX10_step_142 : decode cX10_step 142 = .ok (.bipush 6, 2) := by decide +kernel
theorem dX10_step_144 : decode cX10_step 144 = .ok (.ireturn, 1) := by decide +kernel
set_option maxRecDepth 100000 in
theorem c_Mo_step {l : Launch} {D : va_G} {cI cJ cZ cO : ClassId} {q_this q_m q_saved q_w q_savedWords q_isSaved q_text q_far q_queue q_parent q_by q_seen q_path q_row q_more q_stateOf : Nat} {v_textLength : Int32} {v_steps : Int32} {v_missing : Int64} {v_mores : Int32} {v_hash : Int64} {v_m : (Nat → Int32)} {v_w : (Nat → Int64)} {v_queue : (Nat → Int32)} {v_parent : (Nat → Int32)} {v_by : (Nat → Int32)} {v_seen : (Nat → Int32)} {v_path : (Nat → Int32)} {v_row : (Nat → Int32)} {v_more : (Nat → Int64)} {v_stateOf : (Nat → Int32)} {x : Int32 × (Nat → Int32) × (Nat → Int64) × (Nat → Int32) × (Nat → Int32) × (Nat → Int32) × (Nat → Int32) × (Nat → Int32) × Int32 × (Nat → Int32) × Int64 × (Nat → Int64) × Int32 × (Nat → Int32)} (h : f_Mo_step v_steps v_missing v_mores v_m v_w v_queue v_parent v_by v_seen v_path v_row v_more v_stateOf = some x) : ctI l D cI cJ cZ cO yX10_step cX10_step 2 .int rm_Mo_step [.ref q_this] (ws_Mo_step cI cJ cZ q_this q_m q_saved q_w q_savedWords q_isSaved q_text q_far q_queue q_parent q_by q_seen q_path q_row q_more q_stateOf v_textLength v_steps v_missing v_mores v_hash v_m v_w v_queue v_parent v_by v_seen v_path v_row v_more v_stateOf) (ws_Mo_step cI cJ cZ q_this q_m q_saved q_w q_savedWords q_isSaved q_text q_far q_queue q_parent q_by q_seen q_path q_row q_more q_stateOf v_textLength x.2.2.2.2.2.2.2.2.1 x.2.2.2.2.2.2.2.2.2.2.1 x.2.2.2.2.2.2.2.2.2.2.2.2.1 v_hash x.2.1 x.2.2.1 x.2.2.2.1 x.2.2.2.2.1 x.2.2.2.2.2.1 x.2.2.2.2.2.2.1 x.2.2.2.2.2.2.2.1 x.2.2.2.2.2.2.2.2.2.1 x.2.2.2.2.2.2.2.2.2.2.2.1 x.2.2.2.2.2.2.2.2.2.2.2.2.2) x.1 := by
  refine ctI_of (by decide) (Nat.le_of_ble_eq_true rfl) ?_
  intro p e s m below meth c Q A ls C0 hQ w hl
  have hl : lv_has ls 2 [(0, .ref q_this)] := hl
  generalize List.toArray (α := Value) [.ref q_this] = args at C0 hQ ⊢
  obtain ⟨hx, hb, hml, hown, hts, -, -⟩ := id C0
  unfold f_Mo_step at h
  refine lv_aload_n hx hb dX10_step_0 rfl (lv_at hl 0 rfl) ?_
  refine r_get C0 w 0 rfl kf_Mo 0 (by decide) lf_RX10_7 rfl dX10_step_1 ?_
  refine lv_bipush (v := (43 : Int32)) hx hb dX10_step_4 (by decide) ?_
  refine r_iald C0 w 1 rfl (k := 43) (by decide) (inl (by decide)) dX10_step_6 ?_
  refine lv_iconst (v := (1 : Int32)) hx hb dX10_step_7 (by decide) ?_
  refine lv_icmp_ne (tgt := 14) hx hb dX10_step_8 (by decide) (fun hc => ?_) (fun hc => ?_)
  · have h := nf_h hc h
    refine lv_aload_n hx hb dX10_step_14 rfl (lv_at hl 0 rfl) ?_
    obtain ⟨r, v_row_1, v_missing_1, hcall, h⟩ := bd3_h h
    have hp := sp_of (ws := (ws_Mo_step cI cJ cZ q_this q_m q_saved q_w q_savedWords q_isSaved q_text q_far q_queue q_parent q_by q_seen q_path q_row q_more q_stateOf v_textLength v_steps v_missing v_mores v_hash v_m v_w v_queue v_parent v_by v_seen v_path v_row v_more v_stateOf)) (wc := (ws_Mo_fills cI cJ cZ q_this q_m q_saved q_w q_savedWords q_isSaved q_text q_far q_queue q_parent q_by q_seen q_path q_row q_more q_stateOf v_textLength v_steps v_missing v_mores v_hash v_m v_w v_row)) [0, 1, 2, 8] [3, 4, 5, 6, 7, 9, 10] rfl rfl
    have hp' : Rp (pk (ws_Mo_step cI cJ cZ q_this q_m q_saved q_w q_savedWords q_isSaved q_text q_far q_queue q_parent q_by q_seen q_path q_row q_more q_stateOf v_textLength v_steps v_missing v_mores v_hash v_m v_w v_queue v_parent v_by v_seen v_path v_row v_more v_stateOf) [3, 4, 5, 6, 7, 9, 10] ++ (ws_Mo_fills cI cJ cZ q_this q_m q_saved q_w q_savedWords q_isSaved q_text q_far q_queue q_parent q_by q_seen q_path q_row q_more q_stateOf v_textLength v_steps v_missing_1 v_mores v_hash v_m v_w v_row_1)) (ws_Mo_step cI cJ cZ q_this q_m q_saved q_w q_savedWords q_isSaved q_text q_far q_queue q_parent q_by q_seen q_path q_row q_more q_stateOf v_textLength v_steps v_missing_1 v_mores v_hash v_m v_w v_queue v_parent v_by v_seen v_path v_row_1 v_more v_stateOf) := ⟨[7, 8, 9, 0, 1, 2, 3, 4, 10, 5, 6], rfl, rfl⟩
    refine r_VI (r := r) (As := []) (rest := []) (wc' := (ws_Mo_fills cI cJ cZ q_this q_m q_saved q_w q_savedWords q_isSaved q_text q_far q_queue q_parent q_by q_seen q_path q_row q_more q_stateOf v_textLength v_steps v_missing_1 v_mores v_hash v_m v_w v_row_1)) (ws' := (ws_Mo_step cI cJ cZ q_this q_m q_saved q_w q_savedWords q_isSaved q_text q_far q_queue q_parent q_by q_seen q_path q_row q_more q_stateOf v_textLength v_steps v_missing_1 v_mores v_hash v_m v_w v_queue v_parent v_by v_seen v_path v_row_1 v_more v_stateOf)) C0 w (c_Mo_fills hcall) hp hp' lm_RX10_186 mv_Mo_fills ⟨rfl, rfl⟩ ⟨by decide, by decide⟩ ⟨Nat.zero_le _, Nat.zero_le _⟩ (q0 := 0) rfl rfl rfl rfl hl rfl (Nat.le_of_ble_eq_true rfl) dX10_step_15 (fun H locs w => ?_)
    refine lv_if_ne (tgt := 41) hx hb dX10_step_18 (by decide) (fun hc => ?_) (fun hc => ?_)
    · have h := nf_h hc h
      refine lv_aload_n hx hb dX10_step_41 rfl (lv_at hl 0 rfl) ?_
      obtain ⟨r_1, hcall, h⟩ := bd1_h h
      obtain ⟨wr, hp, hp'⟩ := rd_of (ws := (ws_Mo_step cI cJ cZ q_this q_m q_saved q_w q_savedWords q_isSaved q_text q_far q_queue q_parent q_by q_seen q_path q_row q_more q_stateOf v_textLength v_steps v_missing_1 v_mores v_hash v_m v_w v_queue v_parent v_by v_seen v_path v_row_1 v_more v_stateOf)) (wc := (ws_Mo_open cI cJ cZ q_this q_m q_saved q_w q_savedWords q_isSaved q_text q_far q_queue q_parent q_by q_seen q_path q_row q_more q_stateOf v_textLength v_steps v_missing_1 v_mores v_hash v_m v_row_1)) [0, 1, 8] rfl rfl
      refine r_VI (r := r_1) (As := []) (rest := []) (wc' := (ws_Mo_open cI cJ cZ q_this q_m q_saved q_w q_savedWords q_isSaved q_text q_far q_queue q_parent q_by q_seen q_path q_row q_more q_stateOf v_textLength v_steps v_missing_1 v_mores v_hash v_m v_row_1)) (ws' := (ws_Mo_step cI cJ cZ q_this q_m q_saved q_w q_savedWords q_isSaved q_text q_far q_queue q_parent q_by q_seen q_path q_row q_more q_stateOf v_textLength v_steps v_missing_1 v_mores v_hash v_m v_w v_queue v_parent v_by v_seen v_path v_row_1 v_more v_stateOf)) C0 w (c_Mo_open hcall) hp hp' lm_RX10_190 mv_Mo_open ⟨rfl, rfl⟩ ⟨by decide, by decide⟩ ⟨Nat.zero_le _, Nat.zero_le _⟩ (q0 := 0) rfl rfl rfl rfl hl rfl (Nat.le_of_ble_eq_true rfl) dX10_step_42 (fun H locs w => ?_)
      refine lv_istore_n (lv' := [(1, .int r_1), (0, .ref q_this)]) hx hb dX10_step_45 rfl hl (by decide) rfl (fun ls hl => ?_)
      refine lv_iload_n hx hb dX10_step_46 rfl (lv_at hl 0 rfl) ?_
      refine lv_iconst (v := (-1 : Int32)) hx hb dX10_step_47 (by decide) ?_
      refine lv_icmp_eq (tgt := 84) hx hb dX10_step_48 (by decide) (fun hc => ?_) (fun hc => ?_)
      · have h := if_h hc h
        refine lv_aload_n hx hb dX10_step_84 rfl (lv_at hl 1 rfl) ?_
        obtain ⟨r_2, v_more_1, v_mores_1, hcall, h⟩ := bd3_h h
        have hp := sp_of (ws := (ws_Mo_step cI cJ cZ q_this q_m q_saved q_w q_savedWords q_isSaved q_text q_far q_queue q_parent q_by q_seen q_path q_row q_more q_stateOf v_textLength v_steps v_missing_1 v_mores v_hash v_m v_w v_queue v_parent v_by v_seen v_path v_row_1 v_more v_stateOf)) (wc := (ws_Mo_isInconsistent cI cJ cZ q_this q_m q_saved q_w q_savedWords q_isSaved q_text q_far q_queue q_parent q_by q_seen q_path q_row q_more q_stateOf v_textLength v_steps v_missing_1 v_mores v_hash v_m v_w v_row_1 v_more)) [0, 1, 2, 8, 9] [3, 4, 5, 6, 7, 10] rfl rfl
        have hp' : Rp (pk (ws_Mo_step cI cJ cZ q_this q_m q_saved q_w q_savedWords q_isSaved q_text q_far q_queue q_parent q_by q_seen q_path q_row q_more q_stateOf v_textLength v_steps v_missing_1 v_mores v_hash v_m v_w v_queue v_parent v_by v_seen v_path v_row_1 v_more v_stateOf) [3, 4, 5, 6, 7, 10] ++ (ws_Mo_isInconsistent cI cJ cZ q_this q_m q_saved q_w q_savedWords q_isSaved q_text q_far q_queue q_parent q_by q_seen q_path q_row q_more q_stateOf v_textLength v_steps v_missing_1 v_mores_1 v_hash v_m v_w v_row_1 v_more_1)) (ws_Mo_step cI cJ cZ q_this q_m q_saved q_w q_savedWords q_isSaved q_text q_far q_queue q_parent q_by q_seen q_path q_row q_more q_stateOf v_textLength v_steps v_missing_1 v_mores_1 v_hash v_m v_w v_queue v_parent v_by v_seen v_path v_row_1 v_more_1 v_stateOf) := ⟨[6, 7, 8, 0, 1, 2, 3, 4, 9, 10, 5], rfl, rfl⟩
        refine r_VI (r := r_2) (As := []) (rest := []) (wc' := (ws_Mo_isInconsistent cI cJ cZ q_this q_m q_saved q_w q_savedWords q_isSaved q_text q_far q_queue q_parent q_by q_seen q_path q_row q_more q_stateOf v_textLength v_steps v_missing_1 v_mores_1 v_hash v_m v_w v_row_1 v_more_1)) (ws' := (ws_Mo_step cI cJ cZ q_this q_m q_saved q_w q_savedWords q_isSaved q_text q_far q_queue q_parent q_by q_seen q_path q_row q_more q_stateOf v_textLength v_steps v_missing_1 v_mores_1 v_hash v_m v_w v_queue v_parent v_by v_seen v_path v_row_1 v_more_1 v_stateOf)) C0 w (c_Mo_isInconsistent hcall) hp hp' lm_RX10_193 mv_Mo_isInconsistent ⟨rfl, rfl⟩ ⟨by decide, by decide⟩ ⟨Nat.zero_le _, Nat.zero_le _⟩ (q0 := 0) rfl rfl rfl rfl hl rfl (Nat.le_of_ble_eq_true rfl) dX10_step_85 (fun H locs w => ?_)
        refine lv_if_eq (tgt := 109) hx hb dX10_step_88 (by decide) (fun hc => ?_) (fun hc => ?_)
        · have h := if_h hc h
          refine lv_aload_n hx hb dX10_step_109 rfl (lv_at hl 1 rfl) ?_
          refine r_get C0 w 0 rfl kf_Mo 0 (by decide) lf_RX10_7 rfl dX10_step_110 ?_
          refine lv_bipush (v := (41 : Int32)) hx hb dX10_step_113 (by decide) ?_
          refine r_iald C0 w 1 rfl (k := 41) (by decide) (inl (by decide)) dX10_step_115 ?_
          refine lv_if_ne (tgt := 125) hx hb dX10_step_116 (by decide) (fun hc => ?_) (fun hc => ?_)
          · have h := nf_h hc h
            refine lv_aload_n hx hb dX10_step_125 rfl (lv_at hl 1 rfl) ?_
            refine lv_iconst (v := (0 : Int32)) hx hb dX10_step_126 (by decide) ?_
            refine lv_iconst (v := (0 : Int32)) hx hb dX10_step_127 (by decide) ?_
            refine lv_iconst (v := (1 : Int32)) hx hb dX10_step_128 (by decide) ?_
            obtain ⟨r_3, v_queue_1, v_parent_1, v_by_1, v_seen_1, v_path_1, v_steps_1, hcall, h⟩ := bd7_h h
            have hp := sp_of (ws := (ws_Mo_step cI cJ cZ q_this q_m q_saved q_w q_savedWords q_isSaved q_text q_far q_queue q_parent q_by q_seen q_path q_row q_more q_stateOf v_textLength v_steps v_missing_1 v_mores_1 v_hash v_m v_w v_queue v_parent v_by v_seen v_path v_row_1 v_more_1 v_stateOf)) (wc := (ws_Mo_parts cI cJ cZ q_this q_m q_saved q_w q_savedWords q_isSaved q_text q_far q_queue q_parent q_by q_seen q_path q_row q_more q_stateOf v_textLength v_steps v_missing_1 v_mores_1 v_hash v_m v_queue v_parent v_by v_seen v_path)) [0, 1, 3, 4, 5, 6, 7] [2, 8, 9, 10] rfl rfl
            have hp' : Rp (pk (ws_Mo_step cI cJ cZ q_this q_m q_saved q_w q_savedWords q_isSaved q_text q_far q_queue q_parent q_by q_seen q_path q_row q_more q_stateOf v_textLength v_steps v_missing_1 v_mores_1 v_hash v_m v_w v_queue v_parent v_by v_seen v_path v_row_1 v_more_1 v_stateOf) [2, 8, 9, 10] ++ (ws_Mo_parts cI cJ cZ q_this q_m q_saved q_w q_savedWords q_isSaved q_text q_far q_queue q_parent q_by q_seen q_path q_row q_more q_stateOf v_textLength v_steps_1 v_missing_1 v_mores_1 v_hash v_m v_queue_1 v_parent_1 v_by_1 v_seen_1 v_path_1)) (ws_Mo_step cI cJ cZ q_this q_m q_saved q_w q_savedWords q_isSaved q_text q_far q_queue q_parent q_by q_seen q_path q_row q_more q_stateOf v_textLength v_steps_1 v_missing_1 v_mores_1 v_hash v_m v_w v_queue_1 v_parent_1 v_by_1 v_seen_1 v_path_1 v_row_1 v_more_1 v_stateOf) := ⟨[4, 5, 0, 6, 7, 8, 9, 10, 1, 2, 3], rfl, rfl⟩
            refine r_VI (r := r_3) (As := [.int (0 : Int32), .int (0 : Int32), .int (1 : Int32)]) (rest := []) (wc' := (ws_Mo_parts cI cJ cZ q_this q_m q_saved q_w q_savedWords q_isSaved q_text q_far q_queue q_parent q_by q_seen q_path q_row q_more q_stateOf v_textLength v_steps_1 v_missing_1 v_mores_1 v_hash v_m v_queue_1 v_parent_1 v_by_1 v_seen_1 v_path_1)) (ws' := (ws_Mo_step cI cJ cZ q_this q_m q_saved q_w q_savedWords q_isSaved q_text q_far q_queue q_parent q_by q_seen q_path q_row q_more q_stateOf v_textLength v_steps_1 v_missing_1 v_mores_1 v_hash v_m v_w v_queue_1 v_parent_1 v_by_1 v_seen_1 v_path_1 v_row_1 v_more_1 v_stateOf)) C0 w (c_Mo_parts hcall) hp hp' lm_RX10_113 mv_Mo_parts ⟨rfl, rfl⟩ ⟨by decide, by decide⟩ ⟨Nat.zero_le _, Nat.zero_le _⟩ (q0 := 0) rfl rfl rfl rfl hl rfl (Nat.le_of_ble_eq_true rfl) dX10_step_129 (fun H locs w => ?_)
            refine lv_if_eq (tgt := 142) hx hb dX10_step_132 (by decide) (fun hc => ?_) (fun hc => ?_)
            · have h := if_h hc h
              refine lv_bipush (v := (6 : Int32)) hx hb dX10_step_142 (by decide) ?_
              cases h
              exact hQ _ _ _ _ dX10_step_144 rfl w
            · have h := nf_h hc h
              refine lv_aload_n hx hb dX10_step_135 rfl (lv_at hl 1 rfl) ?_
              obtain ⟨r_4, v_m_1, v_w_1, v_more_2, v_mores_2, hcall, h⟩ := bd5_h h
              have hp := sp_of (ws := (ws_Mo_step cI cJ cZ q_this q_m q_saved q_w q_savedWords q_isSaved q_text q_far q_queue q_parent q_by q_seen q_path q_row q_more q_stateOf v_textLength v_steps_1 v_missing_1 v_mores_1 v_hash v_m v_w v_queue_1 v_parent_1 v_by_1 v_seen_1 v_path_1 v_row_1 v_more_1 v_stateOf)) (wc := (ws_Mo_uses cI cJ cZ q_this q_m q_saved q_w q_savedWords q_isSaved q_text q_far q_queue q_parent q_by q_seen q_path q_row q_more q_stateOf v_textLength v_steps_1 v_missing_1 v_mores_1 v_hash v_m v_w v_path_1 v_more_1)) [0, 1, 2, 7, 9] [3, 4, 5, 6, 8, 10] rfl rfl
              have hp' : Rp (pk (ws_Mo_step cI cJ cZ q_this q_m q_saved q_w q_savedWords q_isSaved q_text q_far q_queue q_parent q_by q_seen q_path q_row q_more q_stateOf v_textLength v_steps_1 v_missing_1 v_mores_1 v_hash v_m v_w v_queue_1 v_parent_1 v_by_1 v_seen_1 v_path_1 v_row_1 v_more_1 v_stateOf) [3, 4, 5, 6, 8, 10] ++ (ws_Mo_uses cI cJ cZ q_this q_m q_saved q_w q_savedWords q_isSaved q_text q_far q_queue q_parent q_by q_seen q_path q_row q_more q_stateOf v_textLength v_steps_1 v_missing_1 v_mores_2 v_hash v_m_1 v_w_1 v_path_1 v_more_2)) (ws_Mo_step cI cJ cZ q_this q_m q_saved q_w q_savedWords q_isSaved q_text q_far q_queue q_parent q_by q_seen q_path q_row q_more q_stateOf v_textLength v_steps_1 v_missing_1 v_mores_2 v_hash v_m_1 v_w_1 v_queue_1 v_parent_1 v_by_1 v_seen_1 v_path_1 v_row_1 v_more_2 v_stateOf) := ⟨[6, 7, 8, 0, 1, 2, 3, 9, 4, 10, 5], rfl, rfl⟩
              refine r_VI (r := r_4) (As := []) (rest := []) (wc' := (ws_Mo_uses cI cJ cZ q_this q_m q_saved q_w q_savedWords q_isSaved q_text q_far q_queue q_parent q_by q_seen q_path q_row q_more q_stateOf v_textLength v_steps_1 v_missing_1 v_mores_2 v_hash v_m_1 v_w_1 v_path_1 v_more_2)) (ws' := (ws_Mo_step cI cJ cZ q_this q_m q_saved q_w q_savedWords q_isSaved q_text q_far q_queue q_parent q_by q_seen q_path q_row q_more q_stateOf v_textLength v_steps_1 v_missing_1 v_mores_2 v_hash v_m_1 v_w_1 v_queue_1 v_parent_1 v_by_1 v_seen_1 v_path_1 v_row_1 v_more_2 v_stateOf)) C0 w (c_Mo_uses hcall) hp hp' lm_RX10_199 mv_Mo_uses ⟨rfl, rfl⟩ ⟨by decide, by decide⟩ ⟨Nat.zero_le _, Nat.zero_le _⟩ (q0 := 0) rfl rfl rfl rfl hl rfl (Nat.le_of_ble_eq_true rfl) dX10_step_136 (fun H locs w => ?_)
              refine lv_goto (tgt := 144) hx hb dX10_step_139 (by decide) ?_
              cases h
              exact hQ _ _ _ _ dX10_step_144 rfl w
          · have h := if_h hc h
            refine lv_aload_n hx hb dX10_step_119 rfl (lv_at hl 1 rfl) ?_
            obtain ⟨v_m_2, v_stateOf_1, hcall, h⟩ := bd2_h h
            have hp := sp_of (ws := (ws_Mo_step cI cJ cZ q_this q_m q_saved q_w q_savedWords q_isSaved q_text q_far q_queue q_parent q_by q_seen q_path q_row q_more q_stateOf v_textLength v_steps v_missing_1 v_mores_1 v_hash v_m v_w v_queue v_parent v_by v_seen v_path v_row_1 v_more_1 v_stateOf)) (wc := (ws_Mo_forms cI cJ cZ q_this q_m q_saved q_w q_savedWords q_isSaved q_text q_far q_queue q_parent q_by q_seen q_path q_row q_more q_stateOf v_textLength v_steps v_missing_1 v_mores_1 v_hash v_m v_row_1 v_stateOf)) [0, 1, 8, 10] [2, 3, 4, 5, 6, 7, 9] rfl rfl
            have hp' : Rp (pk (ws_Mo_step cI cJ cZ q_this q_m q_saved q_w q_savedWords q_isSaved q_text q_far q_queue q_parent q_by q_seen q_path q_row q_more q_stateOf v_textLength v_steps v_missing_1 v_mores_1 v_hash v_m v_w v_queue v_parent v_by v_seen v_path v_row_1 v_more_1 v_stateOf) [2, 3, 4, 5, 6, 7, 9] ++ (ws_Mo_forms cI cJ cZ q_this q_m q_saved q_w q_savedWords q_isSaved q_text q_far q_queue q_parent q_by q_seen q_path q_row q_more q_stateOf v_textLength v_steps v_missing_1 v_mores_1 v_hash v_m_2 v_row_1 v_stateOf_1)) (ws_Mo_step cI cJ cZ q_this q_m q_saved q_w q_savedWords q_isSaved q_text q_far q_queue q_parent q_by q_seen q_path q_row q_more q_stateOf v_textLength v_steps v_missing_1 v_mores_1 v_hash v_m_2 v_w v_queue v_parent v_by v_seen v_path v_row_1 v_more_1 v_stateOf_1) := ⟨[7, 8, 0, 1, 2, 3, 4, 5, 9, 6, 10], rfl, rfl⟩
            refine r_VV (As := []) (rest := []) (wc' := (ws_Mo_forms cI cJ cZ q_this q_m q_saved q_w q_savedWords q_isSaved q_text q_far q_queue q_parent q_by q_seen q_path q_row q_more q_stateOf v_textLength v_steps v_missing_1 v_mores_1 v_hash v_m_2 v_row_1 v_stateOf_1)) (ws' := (ws_Mo_step cI cJ cZ q_this q_m q_saved q_w q_savedWords q_isSaved q_text q_far q_queue q_parent q_by q_seen q_path q_row q_more q_stateOf v_textLength v_steps v_missing_1 v_mores_1 v_hash v_m_2 v_w v_queue v_parent v_by v_seen v_path v_row_1 v_more_1 v_stateOf_1)) C0 w (c_Mo_forms hcall) hp hp' lm_RX10_196 mv_Mo_forms ⟨rfl, rfl⟩ ⟨by decide, by decide⟩ ⟨Nat.zero_le _, Nat.zero_le _⟩ (q0 := 0) rfl rfl rfl rfl hl rfl (Nat.le_of_ble_eq_true rfl) dX10_step_120 (fun H locs w => ?_)
            refine lv_iconst (v := (4 : Int32)) hx hb dX10_step_123 (by decide) ?_
            cases h
            exact hQ _ _ _ _ dX10_step_124 rfl w
        · have h := nf_h hc h
          refine lv_aload_n hx hb dX10_step_91 rfl (lv_at hl 1 rfl) ?_
          refine lv_iconst (v := (1 : Int32)) hx hb dX10_step_92 (by decide) ?_
          obtain ⟨r_5, hcall, h⟩ := bd1_h h
          obtain ⟨wr, hp, hp'⟩ := rd_of (ws := (ws_Mo_step cI cJ cZ q_this q_m q_saved q_w q_savedWords q_isSaved q_text q_far q_queue q_parent q_by q_seen q_path q_row q_more q_stateOf v_textLength v_steps v_missing_1 v_mores_1 v_hash v_m v_w v_queue v_parent v_by v_seen v_path v_row_1 v_more_1 v_stateOf)) (wc := (ws_Mo_fit cI cJ cZ q_this q_m q_saved q_w q_savedWords q_isSaved q_text q_far q_queue q_parent q_by q_seen q_path q_row q_more q_stateOf v_textLength v_steps v_missing_1 v_mores_1 v_hash v_m v_w v_more_1)) [0, 1, 2, 9] rfl rfl
          refine r_VI (r := r_5) (As := [.int (1 : Int32)]) (rest := []) (wc' := (ws_Mo_fit cI cJ cZ q_this q_m q_saved q_w q_savedWords q_isSaved q_text q_far q_queue q_parent q_by q_seen q_path q_row q_more q_stateOf v_textLength v_steps v_missing_1 v_mores_1 v_hash v_m v_w v_more_1)) (ws' := (ws_Mo_step cI cJ cZ q_this q_m q_saved q_w q_savedWords q_isSaved q_text q_far q_queue q_parent q_by q_seen q_path q_row q_more q_stateOf v_textLength v_steps v_missing_1 v_mores_1 v_hash v_m v_w v_queue v_parent v_by v_seen v_path v_row_1 v_more_1 v_stateOf)) C0 w (c_Mo_fit hcall) hp hp' lm_RX10_178 mv_Mo_fit ⟨rfl, rfl⟩ ⟨by decide, by decide⟩ ⟨Nat.zero_le _, Nat.zero_le _⟩ (q0 := 0) rfl rfl rfl rfl hl rfl (Nat.le_of_ble_eq_true rfl) dX10_step_93 (fun H locs w => ?_)
          refine lv_if_ne (tgt := 102) hx hb dX10_step_96 (by decide) (fun hc => ?_) (fun hc => ?_)
          · have h := nf_h hc h
            refine lv_aload_n hx hb dX10_step_102 rfl (lv_at hl 1 rfl) ?_
            refine lv_iconst (v := (1 : Int32)) hx hb dX10_step_103 (by decide) ?_
            obtain ⟨v_m_3, v_w_2, hcall, h⟩ := bd2_h h
            have hp := sp_of (ws := (ws_Mo_step cI cJ cZ q_this q_m q_saved q_w q_savedWords q_isSaved q_text q_far q_queue q_parent q_by q_seen q_path q_row q_more q_stateOf v_textLength v_steps v_missing_1 v_mores_1 v_hash v_m v_w v_queue v_parent v_by v_seen v_path v_row_1 v_more_1 v_stateOf)) (wc := (ws_Mo_adds cI cJ cZ q_this q_m q_saved q_w q_savedWords q_isSaved q_text q_far q_queue q_parent q_by q_seen q_path q_row q_more q_stateOf v_textLength v_steps v_missing_1 v_mores_1 v_hash v_m v_w v_more_1)) [0, 1, 2, 9] [3, 4, 5, 6, 7, 8, 10] rfl rfl
            have hp' : Rp (pk (ws_Mo_step cI cJ cZ q_this q_m q_saved q_w q_savedWords q_isSaved q_text q_far q_queue q_parent q_by q_seen q_path q_row q_more q_stateOf v_textLength v_steps v_missing_1 v_mores_1 v_hash v_m v_w v_queue v_parent v_by v_seen v_path v_row_1 v_more_1 v_stateOf) [3, 4, 5, 6, 7, 8, 10] ++ (ws_Mo_adds cI cJ cZ q_this q_m q_saved q_w q_savedWords q_isSaved q_text q_far q_queue q_parent q_by q_seen q_path q_row q_more q_stateOf v_textLength v_steps v_missing_1 v_mores_1 v_hash v_m_3 v_w_2 v_more_1)) (ws_Mo_step cI cJ cZ q_this q_m q_saved q_w q_savedWords q_isSaved q_text q_far q_queue q_parent q_by q_seen q_path q_row q_more q_stateOf v_textLength v_steps v_missing_1 v_mores_1 v_hash v_m_3 v_w_2 v_queue v_parent v_by v_seen v_path v_row_1 v_more_1 v_stateOf) := ⟨[7, 8, 9, 0, 1, 2, 3, 4, 5, 10, 6], rfl, rfl⟩
            refine r_VV (As := [.int (1 : Int32)]) (rest := []) (wc' := (ws_Mo_adds cI cJ cZ q_this q_m q_saved q_w q_savedWords q_isSaved q_text q_far q_queue q_parent q_by q_seen q_path q_row q_more q_stateOf v_textLength v_steps v_missing_1 v_mores_1 v_hash v_m_3 v_w_2 v_more_1)) (ws' := (ws_Mo_step cI cJ cZ q_this q_m q_saved q_w q_savedWords q_isSaved q_text q_far q_queue q_parent q_by q_seen q_path q_row q_more q_stateOf v_textLength v_steps v_missing_1 v_mores_1 v_hash v_m_3 v_w_2 v_queue v_parent v_by v_seen v_path v_row_1 v_more_1 v_stateOf)) C0 w (c_Mo_adds hcall) hp hp' lm_RX10_182 mv_Mo_adds ⟨rfl, rfl⟩ ⟨by decide, by decide⟩ ⟨Nat.zero_le _, Nat.zero_le _⟩ (q0 := 0) rfl rfl rfl rfl hl rfl (Nat.le_of_ble_eq_true rfl) dX10_step_104 (fun H locs w => ?_)
            refine lv_iconst (v := (3 : Int32)) hx hb dX10_step_107 (by decide) ?_
            cases h
            exact hQ _ _ _ _ dX10_step_108 rfl w
          · have h := if_h hc h
            refine lv_bipush (v := (-5 : Int32)) hx hb dX10_step_99 (by decide) ?_
            cases h
            exact hQ _ _ _ _ dX10_step_101 rfl w
      · have h := nf_h hc h
        refine lv_aload_n hx hb dX10_step_51 rfl (lv_at hl 1 rfl) ?_
        refine lv_iconst (v := (0 : Int32)) hx hb dX10_step_52 (by decide) ?_
        refine r_put C0 w 0 rfl kf_Mo 17 (by decide) lf_RX10_149 rfl rfl rfl (Nat.le_of_ble_eq_true rfl) dX10_step_53 (ws' := (ws_Mo_step cI cJ cZ q_this q_m q_saved q_w q_savedWords q_isSaved q_text q_far q_queue q_parent q_by q_seen q_path q_row q_more q_stateOf v_textLength v_steps v_missing_1 (0 : Int32) v_hash v_m v_w v_queue v_parent v_by v_seen v_path v_row_1 v_more v_stateOf)) rfl (fun H locs w => ?_)
        refine lv_aload_n hx hb dX10_step_56 rfl (lv_at hl 1 rfl) ?_
        refine lv_aload_n hx hb dX10_step_57 rfl (lv_at hl 1 rfl) ?_
        refine lv_iload_n hx hb dX10_step_58 rfl (lv_at hl 0 rfl) ?_
        obtain ⟨r_6, hcall, h⟩ := bd1_h h
        obtain ⟨wr, hp, hp'⟩ := rd_of (ws := (ws_Mo_step cI cJ cZ q_this q_m q_saved q_w q_savedWords q_isSaved q_text q_far q_queue q_parent q_by q_seen q_path q_row q_more q_stateOf v_textLength v_steps v_missing_1 (0 : Int32) v_hash v_m v_w v_queue v_parent v_by v_seen v_path v_row_1 v_more v_stateOf)) (wc := (ws_Mo_wordOf cI cJ cZ q_this q_m q_saved q_w q_savedWords q_isSaved q_text q_far q_queue q_parent q_by q_seen q_path q_row q_more q_stateOf v_textLength v_steps v_missing_1 (0 : Int32) v_hash v_m v_w)) [0, 1, 2] rfl rfl
        refine r_VJ (r := r_6) (As := [.int r_1]) (rest := [.ref q_this]) (wc' := (ws_Mo_wordOf cI cJ cZ q_this q_m q_saved q_w q_savedWords q_isSaved q_text q_far q_queue q_parent q_by q_seen q_path q_row q_more q_stateOf v_textLength v_steps v_missing_1 (0 : Int32) v_hash v_m v_w)) (ws' := (ws_Mo_step cI cJ cZ q_this q_m q_saved q_w q_savedWords q_isSaved q_text q_far q_queue q_parent q_by q_seen q_path q_row q_more q_stateOf v_textLength v_steps v_missing_1 (0 : Int32) v_hash v_m v_w v_queue v_parent v_by v_seen v_path v_row_1 v_more v_stateOf)) C0 w (c_Mo_wordOf hcall) hp hp' lm_RX10_133 mv_Mo_wordOf ⟨rfl, rfl⟩ ⟨by decide, by decide⟩ ⟨Nat.zero_le _, Nat.zero_le _⟩ (q0 := 0) rfl rfl rfl rfl hl rfl (Nat.le_of_ble_eq_true rfl) dX10_step_59 (fun H locs w => ?_)
        refine lv_iconst (v := (0 : Int32)) hx hb dX10_step_62 (by decide) ?_
        obtain ⟨v_more_3, v_mores_3, hcall, h⟩ := bd2_h h
        have hp := sp_of (ws := (ws_Mo_step cI cJ cZ q_this q_m q_saved q_w q_savedWords q_isSaved q_text q_far q_queue q_parent q_by q_seen q_path q_row q_more q_stateOf v_textLength v_steps v_missing_1 (0 : Int32) v_hash v_m v_w v_queue v_parent v_by v_seen v_path v_row_1 v_more v_stateOf)) (wc := (ws_Mo_wants cI cJ cZ q_this q_m q_saved q_w q_savedWords q_isSaved q_text q_far q_queue q_parent q_by q_seen q_path q_row q_more q_stateOf v_textLength v_steps v_missing_1 (0 : Int32) v_hash v_m v_w v_more)) [0, 1, 2, 9] [3, 4, 5, 6, 7, 8, 10] rfl rfl
        have hp' : Rp (pk (ws_Mo_step cI cJ cZ q_this q_m q_saved q_w q_savedWords q_isSaved q_text q_far q_queue q_parent q_by q_seen q_path q_row q_more q_stateOf v_textLength v_steps v_missing_1 (0 : Int32) v_hash v_m v_w v_queue v_parent v_by v_seen v_path v_row_1 v_more v_stateOf) [3, 4, 5, 6, 7, 8, 10] ++ (ws_Mo_wants cI cJ cZ q_this q_m q_saved q_w q_savedWords q_isSaved q_text q_far q_queue q_parent q_by q_seen q_path q_row q_more q_stateOf v_textLength v_steps v_missing_1 v_mores_3 v_hash v_m v_w v_more_3)) (ws_Mo_step cI cJ cZ q_this q_m q_saved q_w q_savedWords q_isSaved q_text q_far q_queue q_parent q_by q_seen q_path q_row q_more q_stateOf v_textLength v_steps v_missing_1 v_mores_3 v_hash v_m v_w v_queue v_parent v_by v_seen v_path v_row_1 v_more_3 v_stateOf) := ⟨[7, 8, 9, 0, 1, 2, 3, 4, 5, 10, 6], rfl, rfl⟩
        refine r_VV (As := [.long r_6, .int (0 : Int32)]) (rest := []) (wc' := (ws_Mo_wants cI cJ cZ q_this q_m q_saved q_w q_savedWords q_isSaved q_text q_far q_queue q_parent q_by q_seen q_path q_row q_more q_stateOf v_textLength v_steps v_missing_1 v_mores_3 v_hash v_m v_w v_more_3)) (ws' := (ws_Mo_step cI cJ cZ q_this q_m q_saved q_w q_savedWords q_isSaved q_text q_far q_queue q_parent q_by q_seen q_path q_row q_more q_stateOf v_textLength v_steps v_missing_1 v_mores_3 v_hash v_m v_w v_queue v_parent v_by v_seen v_path v_row_1 v_more_3 v_stateOf)) C0 w (c_Mo_wants hcall) hp hp' lm_RX10_162 mv_Mo_wants ⟨rfl, rfl⟩ ⟨by decide, by decide⟩ ⟨Nat.zero_le _, Nat.zero_le _⟩ (q0 := 0) rfl rfl rfl rfl hl rfl (Nat.le_of_ble_eq_true rfl) dX10_step_63 (fun H locs w => ?_)
        refine lv_aload_n hx hb dX10_step_66 rfl (lv_at hl 1 rfl) ?_
        refine lv_iconst (v := (0 : Int32)) hx hb dX10_step_67 (by decide) ?_
        obtain ⟨r_7, hcall, h⟩ := bd1_h h
        obtain ⟨wr, hp, hp'⟩ := rd_of (ws := (ws_Mo_step cI cJ cZ q_this q_m q_saved q_w q_savedWords q_isSaved q_text q_far q_queue q_parent q_by q_seen q_path q_row q_more q_stateOf v_textLength v_steps v_missing_1 v_mores_3 v_hash v_m v_w v_queue v_parent v_by v_seen v_path v_row_1 v_more_3 v_stateOf)) (wc := (ws_Mo_fit cI cJ cZ q_this q_m q_saved q_w q_savedWords q_isSaved q_text q_far q_queue q_parent q_by q_seen q_path q_row q_more q_stateOf v_textLength v_steps v_missing_1 v_mores_3 v_hash v_m v_w v_more_3)) [0, 1, 2, 9] rfl rfl
        refine r_VI (r := r_7) (As := [.int (0 : Int32)]) (rest := []) (wc' := (ws_Mo_fit cI cJ cZ q_this q_m q_saved q_w q_savedWords q_isSaved q_text q_far q_queue q_parent q_by q_seen q_path q_row q_more q_stateOf v_textLength v_steps v_missing_1 v_mores_3 v_hash v_m v_w v_more_3)) (ws' := (ws_Mo_step cI cJ cZ q_this q_m q_saved q_w q_savedWords q_isSaved q_text q_far q_queue q_parent q_by q_seen q_path q_row q_more q_stateOf v_textLength v_steps v_missing_1 v_mores_3 v_hash v_m v_w v_queue v_parent v_by v_seen v_path v_row_1 v_more_3 v_stateOf)) C0 w (c_Mo_fit hcall) hp hp' lm_RX10_178 mv_Mo_fit ⟨rfl, rfl⟩ ⟨by decide, by decide⟩ ⟨Nat.zero_le _, Nat.zero_le _⟩ (q0 := 0) rfl rfl rfl rfl hl rfl (Nat.le_of_ble_eq_true rfl) dX10_step_68 (fun H locs w => ?_)
        refine lv_if_ne (tgt := 77) hx hb dX10_step_71 (by decide) (fun hc => ?_) (fun hc => ?_)
        · have h := nf_h hc h
          refine lv_aload_n hx hb dX10_step_77 rfl (lv_at hl 1 rfl) ?_
          refine lv_iconst (v := (0 : Int32)) hx hb dX10_step_78 (by decide) ?_
          obtain ⟨v_m_4, v_w_3, hcall, h⟩ := bd2_h h
          have hp := sp_of (ws := (ws_Mo_step cI cJ cZ q_this q_m q_saved q_w q_savedWords q_isSaved q_text q_far q_queue q_parent q_by q_seen q_path q_row q_more q_stateOf v_textLength v_steps v_missing_1 v_mores_3 v_hash v_m v_w v_queue v_parent v_by v_seen v_path v_row_1 v_more_3 v_stateOf)) (wc := (ws_Mo_adds cI cJ cZ q_this q_m q_saved q_w q_savedWords q_isSaved q_text q_far q_queue q_parent q_by q_seen q_path q_row q_more q_stateOf v_textLength v_steps v_missing_1 v_mores_3 v_hash v_m v_w v_more_3)) [0, 1, 2, 9] [3, 4, 5, 6, 7, 8, 10] rfl rfl
          have hp' : Rp (pk (ws_Mo_step cI cJ cZ q_this q_m q_saved q_w q_savedWords q_isSaved q_text q_far q_queue q_parent q_by q_seen q_path q_row q_more q_stateOf v_textLength v_steps v_missing_1 v_mores_3 v_hash v_m v_w v_queue v_parent v_by v_seen v_path v_row_1 v_more_3 v_stateOf) [3, 4, 5, 6, 7, 8, 10] ++ (ws_Mo_adds cI cJ cZ q_this q_m q_saved q_w q_savedWords q_isSaved q_text q_far q_queue q_parent q_by q_seen q_path q_row q_more q_stateOf v_textLength v_steps v_missing_1 v_mores_3 v_hash v_m_4 v_w_3 v_more_3)) (ws_Mo_step cI cJ cZ q_this q_m q_saved q_w q_savedWords q_isSaved q_text q_far q_queue q_parent q_by q_seen q_path q_row q_more q_stateOf v_textLength v_steps v_missing_1 v_mores_3 v_hash v_m_4 v_w_3 v_queue v_parent v_by v_seen v_path v_row_1 v_more_3 v_stateOf) := ⟨[7, 8, 9, 0, 1, 2, 3, 4, 5, 10, 6], rfl, rfl⟩
          refine r_VV (As := [.int (0 : Int32)]) (rest := []) (wc' := (ws_Mo_adds cI cJ cZ q_this q_m q_saved q_w q_savedWords q_isSaved q_text q_far q_queue q_parent q_by q_seen q_path q_row q_more q_stateOf v_textLength v_steps v_missing_1 v_mores_3 v_hash v_m_4 v_w_3 v_more_3)) (ws' := (ws_Mo_step cI cJ cZ q_this q_m q_saved q_w q_savedWords q_isSaved q_text q_far q_queue q_parent q_by q_seen q_path q_row q_more q_stateOf v_textLength v_steps v_missing_1 v_mores_3 v_hash v_m_4 v_w_3 v_queue v_parent v_by v_seen v_path v_row_1 v_more_3 v_stateOf)) C0 w (c_Mo_adds hcall) hp hp' lm_RX10_182 mv_Mo_adds ⟨rfl, rfl⟩ ⟨by decide, by decide⟩ ⟨Nat.zero_le _, Nat.zero_le _⟩ (q0 := 0) rfl rfl rfl rfl hl rfl (Nat.le_of_ble_eq_true rfl) dX10_step_79 (fun H locs w => ?_)
          refine lv_iconst (v := (2 : Int32)) hx hb dX10_step_82 (by decide) ?_
          cases h
          exact hQ _ _ _ _ dX10_step_83 rfl w
        · have h := if_h hc h
          refine lv_bipush (v := (-5 : Int32)) hx hb dX10_step_74 (by decide) ?_
          cases h
          exact hQ _ _ _ _ dX10_step_76 rfl w
    · have h := if_h hc h
      refine lv_aload_n hx hb dX10_step_21 rfl (lv_at hl 0 rfl) ?_
      refine lv_aload_n hx hb dX10_step_22 rfl (lv_at hl 0 rfl) ?_
      refine r_get C0 w 0 rfl kf_Mo 15 (by decide) lf_RX10_141 rfl dX10_step_23 ?_
      obtain ⟨r_8, v_m_5, v_w_4, hcall, h⟩ := bd3_h h
      have hp := sp_of (ws := (ws_Mo_step cI cJ cZ q_this q_m q_saved q_w q_savedWords q_isSaved q_text q_far q_queue q_parent q_by q_seen q_path q_row q_more q_stateOf v_textLength v_steps v_missing_1 v_mores v_hash v_m v_w v_queue v_parent v_by v_seen v_path v_row_1 v_more v_stateOf)) (wc := (ws_Mo_asks cI cJ cZ q_this q_m q_saved q_w q_savedWords q_isSaved q_text q_far q_queue q_parent q_by q_seen q_path q_row q_more q_stateOf v_textLength v_steps v_missing_1 v_mores v_hash v_m v_w)) [0, 1, 2] [3, 4, 5, 6, 7, 8, 9, 10] rfl rfl
      have hp' : Rp (pk (ws_Mo_step cI cJ cZ q_this q_m q_saved q_w q_savedWords q_isSaved q_text q_far q_queue q_parent q_by q_seen q_path q_row q_more q_stateOf v_textLength v_steps v_missing_1 v_mores v_hash v_m v_w v_queue v_parent v_by v_seen v_path v_row_1 v_more v_stateOf) [3, 4, 5, 6, 7, 8, 9, 10] ++ (ws_Mo_asks cI cJ cZ q_this q_m q_saved q_w q_savedWords q_isSaved q_text q_far q_queue q_parent q_by q_seen q_path q_row q_more q_stateOf v_textLength v_steps v_missing_1 v_mores v_hash v_m_5 v_w_4)) (ws_Mo_step cI cJ cZ q_this q_m q_saved q_w q_savedWords q_isSaved q_text q_far q_queue q_parent q_by q_seen q_path q_row q_more q_stateOf v_textLength v_steps v_missing_1 v_mores v_hash v_m_5 v_w_4 v_queue v_parent v_by v_seen v_path v_row_1 v_more v_stateOf) := ⟨[8, 9, 10, 0, 1, 2, 3, 4, 5, 6, 7], rfl, rfl⟩
      refine r_VI (r := r_8) (As := [.long v_missing_1]) (rest := []) (wc' := (ws_Mo_asks cI cJ cZ q_this q_m q_saved q_w q_savedWords q_isSaved q_text q_far q_queue q_parent q_by q_seen q_path q_row q_more q_stateOf v_textLength v_steps v_missing_1 v_mores v_hash v_m_5 v_w_4)) (ws' := (ws_Mo_step cI cJ cZ q_this q_m q_saved q_w q_savedWords q_isSaved q_text q_far q_queue q_parent q_by q_seen q_path q_row q_more q_stateOf v_textLength v_steps v_missing_1 v_mores v_hash v_m_5 v_w_4 v_queue v_parent v_by v_seen v_path v_row_1 v_more v_stateOf)) C0 w (c_Mo_asks hcall) hp hp' lm_RX10_130 mv_Mo_asks ⟨rfl, rfl⟩ ⟨by decide, by decide⟩ ⟨Nat.zero_le _, Nat.zero_le _⟩ (q0 := 0) rfl rfl rfl rfl hl rfl (Nat.le_of_ble_eq_true rfl) dX10_step_26 (fun H locs w => ?_)
      refine lv_bipush (v := (-4 : Int32)) hx hb dX10_step_29 (by decide) ?_
      obtain ⟨t, et⟩ : ∃ y : Int32, y = (if r_8 = (-4 : Int32) then (-4 : Int32) else (1 : Int32)) := ⟨_, rfl⟩
      have h := bnd_at et h
      have J : W p l e rm_Mo_step s m args below meth c H locs 0 0 Q (F0 m 40 ls [.int t]) := by
        cases h
        exact hQ _ _ _ _ dX10_step_40 rfl w
      refine lv_icmp_ne (tgt := 39) hx hb dX10_step_31 (by decide) (fun hc => ?_) (fun hc => ?_)
      · refine lv_iconst (v := (1 : Int32)) hx hb dX10_step_39 (by decide) ?_
        exact r_eqi (et.trans (if_neg hc)) J
      · refine lv_bipush (v := (-4 : Int32)) hx hb dX10_step_34 (by decide) ?_
        refine lv_goto (tgt := 40) hx hb dX10_step_36 (by decide) ?_
        exact r_eqi (et.trans (if_pos hc)) J
  · have h := if_h hc h
    refine lv_bipush (v := (7 : Int32)) hx hb dX10_step_11 (by decide) ?_
    cases h
    exact hQ _ _ _ _ dX10_step_13 rfl w
theorem dX10_learn_0 : decode cX10_learn 0 = .ok (.iload_n 1, 1) := by decide +kernel
theorem dX10_learn_1 : decode cX10_learn 1 = .ok (.iconst 1, 1) := by decide +kernel
theorem dX10_learn_2 : decode cX10_learn 2 = .ok (.sipush 1000, 3) := by decide +kernel
theorem dX10_learn_5 : decode cX10_learn 5 = .ok (.invokestatic 76, 3) := by decide +kernel
theorem dX10_learn_8 : decode cX10_learn 8 = .ok (.ifCond .ne 6, 3) := by decide +kernel
theorem dX10_learn_11 : decode cX10_learn 11 = .ok (.bipush (-2), 2) := by decide +kernel
theorem dX10_learn_13 : decode cX10_learn 13 = .ok (.ireturn, 1) := by decide +kernel
theorem dX10_learn_14 : decode cX10_learn 14 = .ok (.iconst 1, 1) := by decide +kernel
theorem dX10_learn_15 : decode cX10_learn 15 = .ok (.istore_n 2, 1) := by decide +kernel
theorem dX10_learn_16 : decode cX10_learn 16 = .ok (.iconst 0, 1) := by decide +kernel
theorem dX10_learn_17 : decode cX10_learn 17 = .ok (.istore_n 3, 1) := by decide +kernel
theorem dX10_learn_18 : decode cX10_learn 18 = .ok (.iload_n 3, 1) := by decide +kernel
theorem dX10_learn_19 : decode cX10_learn 19 = .ok (.iload_n 1, 1) := by decide +kernel
theorem dX10_learn_20 : decode cX10_learn 20 = .ok (.if_icmp .ge 23, 3) := by decide +kernel
theorem dX10_learn_23 : decode cX10_learn 23 = .ok (.iload_n 2, 1) := by decide +kernel
theorem dX10_learn_24 : decode cX10_learn 24 = .ok (.iconst 1, 1) := by decide +kernel
theorem dX10_learn_25 : decode cX10_learn 25 = .ok (.iconst 5, 1) := by decide +kernel
theorem dX10_learn_26 : decode cX10_learn 26 = .ok (.invokestatic 76, 3) := by decide +kernel
theorem dX10_learn_29 : decode cX10_learn 29 = .ok (.ifCond .eq 14, 3) := by decide +kernel
theorem dX10_learn_32 : decode cX10_learn 32 = .ok (.aload_n 0, 1) := by decide +kernel
theorem dX10_learn_33 : decode cX10_learn 33 = .ok (.invokevirtual 202, 3) := by decide +kernel
theorem dX10_learn_36 : decode cX10_learn 36 = .ok (.istore_n 2, 1) := by decide +kernel
theorem dX10_learn_37 : decode cX10_learn 37 = .ok (.iinc 3 1, 3) := by decide +kernel
theorem dX10_learn_40 : decode cX10_learn 40 = .ok (.goto (-22), 3) := by decide +kernel
theorem dX10_learn_43 : decode cX10_learn 43 = .ok (.iload_n 2, 1) := by decide +kernel
theorem dX10_learn_44 : decode cX10_learn 44 = .ok (.ireturn, 1) := by decide +kernel
set_option maxRecDepth 100000 in
theorem w_Mo_learn_L18 {p : Program} {l : Launch} {e : Env} {s : State} {m : MethodId} {args : Array Value} {below : List Frame} {meth : Method} {c : Code} {Q : State → Prop} {A : Nat → Prop} {D : va_G} {cI cJ cZ cO : ClassId} {q_this q_m q_saved q_w q_savedWords q_isSaved q_text q_far q_queue q_parent q_by q_seen q_path q_row q_more q_stateOf : Nat} {v_textLength : Int32} {v_hash : Int64} {x1 : Int32} {x : Int32 × (Nat → Int32) × (Nat → Int64) × (Nat → Int32) × (Nat → Int32) × (Nat → Int32) × (Nat → Int32) × (Nat → Int32) × Int32 × (Nat → Int32) × Int64 × (Nat → Int64) × Int32 × (Nat → Int32)} (C0 : Cx p s m args c A D cI cJ cZ cO cX10_learn 4 RX10) (hQ : RtI p l e rm_Mo_learn s m args below meth c Q A D cX10_learn .int (ws_Mo_learn cI cJ cZ q_this q_m q_saved q_w q_savedWords q_isSaved q_text q_far q_queue q_parent q_by q_seen q_path q_row q_more q_stateOf v_textLength x.2.2.2.2.2.2.2.2.1 x.2.2.2.2.2.2.2.2.2.2.1 x.2.2.2.2.2.2.2.2.2.2.2.2.1 v_hash x.2.1 x.2.2.1 x.2.2.2.1 x.2.2.2.2.1 x.2.2.2.2.2.1 x.2.2.2.2.2.2.1 x.2.2.2.2.2.2.2.1 x.2.2.2.2.2.2.2.2.2.1 x.2.2.2.2.2.2.2.2.2.2.2.1 x.2.2.2.2.2.2.2.2.2.2.2.2.2) x.1) {K : Int32 → Int32 → (Nat → Int32) → (Nat → Int64) → (Nat → Int32) → (Nat → Int32) → (Nat → Int32) → (Nat → Int32) → (Nat → Int32) → Int32 → (Nat → Int32) → Int64 → (Nat → Int64) → Int32 → (Nat → Int32) → Option (Int32 × (Nat → Int32) × (Nat → Int64) × (Nat → Int32) × (Nat → Int32) × (Nat → Int32) × (Nat → Int32) × (Nat → Int32) × Int32 × (Nat → Int32) × Int64 × (Nat → Int64) × Int32 × (Nat → Int32))} (hK : ∀ (x2 : Int32) (x3 : Int32) (v_m : (Nat → Int32)) (v_w : (Nat → Int64)) (v_queue : (Nat → Int32)) (v_parent : (Nat → Int32)) (v_by : (Nat → Int32)) (v_seen : (Nat → Int32)) (v_path : (Nat → Int32)) (v_steps : Int32) (v_row : (Nat → Int32)) (v_missing : Int64) (v_more : (Nat → Int64)) (v_mores : Int32) (v_stateOf : (Nat → Int32)) (H : Heap) (locs : List Loc) (ls : Array Slot), K x2 x3 v_m v_w v_queue v_parent v_by v_seen v_path v_steps v_row v_missing v_more v_mores v_stateOf = some x → Wd s A D (ws_Mo_learn cI cJ cZ q_this q_m q_saved q_w q_savedWords q_isSaved q_text q_far q_queue q_parent q_by q_seen q_path q_row q_more q_stateOf v_textLength v_steps v_missing v_mores v_hash v_m v_w v_queue v_parent v_by v_seen v_path v_row v_more v_stateOf) H locs → lv_has ls 4 [(2, .int x2)] → W p l e rm_Mo_learn s m args below meth c H locs 0 0 Q (F0 m 43 ls [])) {rec : Int32 → Int32 → (Nat → Int32) → (Nat → Int64) → (Nat → Int32) → (Nat → Int32) → (Nat → Int32) → (Nat → Int32) → (Nat → Int32) → Int32 → (Nat → Int32) → Int64 → (Nat → Int64) → Int32 → (Nat → Int32) → Option (Int32 × (Nat → Int32) × (Nat → Int64) × (Nat → Int32) × (Nat → Int32) × (Nat → Int32) × (Nat → Int32) × (Nat → Int32) × Int32 × (Nat → Int32) × Int64 × (Nat → Int64) × Int32 × (Nat → Int32))} (hrec : ∀ (x2 : Int32) (x3 : Int32) (v_m : (Nat → Int32)) (v_w : (Nat → Int64)) (v_queue : (Nat → Int32)) (v_parent : (Nat → Int32)) (v_by : (Nat → Int32)) (v_seen : (Nat → Int32)) (v_path : (Nat → Int32)) (v_steps : Int32) (v_row : (Nat → Int32)) (v_missing : Int64) (v_more : (Nat → Int64)) (v_mores : Int32) (v_stateOf : (Nat → Int32)) (H : Heap) (locs : List Loc) (ls : Array Slot), rec x2 x3 v_m v_w v_queue v_parent v_by v_seen v_path v_steps v_row v_missing v_more v_mores v_stateOf = some x → Wd s A D (ws_Mo_learn cI cJ cZ q_this q_m q_saved q_w q_savedWords q_isSaved q_text q_far q_queue q_parent q_by q_seen q_path q_row q_more q_stateOf v_textLength v_steps v_missing v_mores v_hash v_m v_w v_queue v_parent v_by v_seen v_path v_row v_more v_stateOf) H locs → lv_has ls 4 [(0, .ref q_this), (1, .int x1), (2, .int x2), (3, .int x3)] → W p l e rm_Mo_learn s m args below meth c H locs 0 0 Q (F0 m 18 ls [])) (x2 : Int32) (x3 : Int32) (v_m : (Nat → Int32)) (v_w : (Nat → Int64)) (v_queue : (Nat → Int32)) (v_parent : (Nat → Int32)) (v_by : (Nat → Int32)) (v_seen : (Nat → Int32)) (v_path : (Nat → Int32)) (v_steps : Int32) (v_row : (Nat → Int32)) (v_missing : Int64) (v_more : (Nat → Int64)) (v_mores : Int32) (v_stateOf : (Nat → Int32)) {H : Heap} {locs : List Loc} {ls : Array Slot} (h : f_Mo_learn_L18 x1 K rec x2 x3 v_m v_w v_queue v_parent v_by v_seen v_path v_steps v_row v_missing v_more v_mores v_stateOf = some x) (w : Wd s A D (ws_Mo_learn cI cJ cZ q_this q_m q_saved q_w q_savedWords q_isSaved q_text q_far q_queue q_parent q_by q_seen q_path q_row q_more q_stateOf v_textLength v_steps v_missing v_mores v_hash v_m v_w v_queue v_parent v_by v_seen v_path v_row v_more v_stateOf) H locs) (hl : lv_has ls 4 [(0, .ref q_this), (1, .int x1), (2, .int x2), (3, .int x3)]) : W p l e rm_Mo_learn s m args below meth c H locs 0 0 Q (F0 m 18 ls []) := by
  obtain ⟨hx, hb, hml, hown, hts, -, -⟩ := id C0
  unfold f_Mo_learn_L18 at h
  refine lv_iload_n hx hb dX10_learn_18 rfl (lv_at hl 3 rfl) ?_
  refine lv_iload_n hx hb dX10_learn_19 rfl (lv_at hl 1 rfl) ?_
  refine lv_icmp_ge (tgt := 43) hx hb dX10_learn_20 (by decide) (fun hc => ?_) (fun hc => ?_)
  · have h := if_h hc h
    exact hK _ _ _ _ _ _ _ _ _ _ _ _ _ _ _ _ _ _ h w (lv_sub hl [2] rfl)
  · have h := nf_h hc h
    refine lv_iload_n hx hb dX10_learn_23 rfl (lv_at hl 2 rfl) ?_
    refine lv_iconst (v := (1 : Int32)) hx hb dX10_learn_24 (by decide) ?_
    refine lv_iconst (v := (5 : Int32)) hx hb dX10_learn_25 (by decide) ?_
    obtain ⟨r, hcall, h⟩ := bd1_h h
    obtain ⟨wr, hp, hp'⟩ := rd_of (ws := (ws_Mo_learn cI cJ cZ q_this q_m q_saved q_w q_savedWords q_isSaved q_text q_far q_queue q_parent q_by q_seen q_path q_row q_more q_stateOf v_textLength v_steps v_missing v_mores v_hash v_m v_w v_queue v_parent v_by v_seen v_path v_row v_more v_stateOf)) (wc := (ws_Mo_in cI cJ cZ)) [] rfl rfl
    refine r_SI (r := r) (As := [.int x2, .int (1 : Int32), .int (5 : Int32)]) (rest := []) (wc' := (ws_Mo_in cI cJ cZ)) (ws' := (ws_Mo_learn cI cJ cZ q_this q_m q_saved q_w q_savedWords q_isSaved q_text q_far q_queue q_parent q_by q_seen q_path q_row q_more q_stateOf v_textLength v_steps v_missing v_mores v_hash v_m v_w v_queue v_parent v_by v_seen v_path v_row v_more v_stateOf)) C0 w (c_Mo_in hcall) hp hp' lm_RX10_76 ms_Mo_in ⟨rfl, rfl⟩ ⟨by decide, by decide⟩ ⟨Nat.zero_le _, Nat.zero_le _⟩ rfl hl rfl (Nat.le_of_ble_eq_true rfl) dX10_learn_26 (fun H locs w => ?_)
    refine lv_if_eq (tgt := 43) hx hb dX10_learn_29 (by decide) (fun hc => ?_) (fun hc => ?_)
    · have h := if_h hc h
      exact hK _ _ _ _ _ _ _ _ _ _ _ _ _ _ _ _ _ _ h w (lv_sub hl [2] rfl)
    · have h := nf_h hc h
      refine lv_aload_n hx hb dX10_learn_32 rfl (lv_at hl 0 rfl) ?_
      obtain ⟨r_1, v_m_1, v_w_1, v_queue_1, v_parent_1, v_by_1, v_seen_1, v_path_1, v_steps_1, v_row_1, v_missing_1, v_more_1, v_mores_1, v_stateOf_1, hcall, h⟩ := bd14_h h
      have hp := sp_of (ws := (ws_Mo_learn cI cJ cZ q_this q_m q_saved q_w q_savedWords q_isSaved q_text q_far q_queue q_parent q_by q_seen q_path q_row q_more q_stateOf v_textLength v_steps v_missing v_mores v_hash v_m v_w v_queue v_parent v_by v_seen v_path v_row v_more v_stateOf)) (wc := (ws_Mo_step cI cJ cZ q_this q_m q_saved q_w q_savedWords q_isSaved q_text q_far q_queue q_parent q_by q_seen q_path q_row q_more q_stateOf v_textLength v_steps v_missing v_mores v_hash v_m v_w v_queue v_parent v_by v_seen v_path v_row v_more v_stateOf)) [0, 1, 2, 3, 4, 5, 6, 7, 8, 9, 10] [] rfl rfl
      have hp' : Rp (pk (ws_Mo_learn cI cJ cZ q_this q_m q_saved q_w q_savedWords q_isSaved q_text q_far q_queue q_parent q_by q_seen q_path q_row q_more q_stateOf v_textLength v_steps v_missing v_mores v_hash v_m v_w v_queue v_parent v_by v_seen v_path v_row v_more v_stateOf) [] ++ (ws_Mo_step cI cJ cZ q_this q_m q_saved q_w q_savedWords q_isSaved q_text q_far q_queue q_parent q_by q_seen q_path q_row q_more q_stateOf v_textLength v_steps_1 v_missing_1 v_mores_1 v_hash v_m_1 v_w_1 v_queue_1 v_parent_1 v_by_1 v_seen_1 v_path_1 v_row_1 v_more_1 v_stateOf_1)) (ws_Mo_learn cI cJ cZ q_this q_m q_saved q_w q_savedWords q_isSaved q_text q_far q_queue q_parent q_by q_seen q_path q_row q_more q_stateOf v_textLength v_steps_1 v_missing_1 v_mores_1 v_hash v_m_1 v_w_1 v_queue_1 v_parent_1 v_by_1 v_seen_1 v_path_1 v_row_1 v_more_1 v_stateOf_1) := ⟨[0, 1, 2, 3, 4, 5, 6, 7, 8, 9, 10], rfl, rfl⟩
      refine r_VI (r := r_1) (As := []) (rest := []) (wc' := (ws_Mo_step cI cJ cZ q_this q_m q_saved q_w q_savedWords q_isSaved q_text q_far q_queue q_parent q_by q_seen q_path q_row q_more q_stateOf v_textLength v_steps_1 v_missing_1 v_mores_1 v_hash v_m_1 v_w_1 v_queue_1 v_parent_1 v_by_1 v_seen_1 v_path_1 v_row_1 v_more_1 v_stateOf_1)) (ws' := (ws_Mo_learn cI cJ cZ q_this q_m q_saved q_w q_savedWords q_isSaved q_text q_far q_queue q_parent q_by q_seen q_path q_row q_more q_stateOf v_textLength v_steps_1 v_missing_1 v_mores_1 v_hash v_m_1 v_w_1 v_queue_1 v_parent_1 v_by_1 v_seen_1 v_path_1 v_row_1 v_more_1 v_stateOf_1)) C0 w (c_Mo_step hcall) hp hp' lm_RX10_202 mv_Mo_step ⟨rfl, rfl⟩ ⟨by decide, by decide⟩ ⟨Nat.zero_le _, Nat.zero_le _⟩ (q0 := 0) rfl rfl rfl rfl hl rfl (Nat.le_of_ble_eq_true rfl) dX10_learn_33 (fun H locs w => ?_)
      refine lv_istore_n (lv' := [(2, .int r_1), (0, .ref q_this), (1, .int x1), (3, .int x3)]) hx hb dX10_learn_36 rfl hl (by decide) rfl (fun ls hl => ?_)
      obtain ⟨x3_1, ex3_1⟩ : ∃ y : Int32, y = (x3 + 1) := ⟨_, rfl⟩
      have h := bnd_at ex3_1 h
      refine lv_iinc (v := x3_1) (lv' := [(3, .int x3_1), (2, .int r_1), (0, .ref q_this), (1, .int x1)]) hx hb dX10_learn_37 hl (k := 3) rfl (by rw [ex3_1]; rfl) (by decide) rfl (fun ls hl => ?_)
      refine lv_goto (tgt := 18) hx hb dX10_learn_40 (by decide) ?_
      exact hrec _ _ _ _ _ _ _ _ _ _ _ _ _ _ _ _ _ _ h w (lv_sub hl [2, 3, 1, 0] rfl)
set_option maxRecDepth 100000 in
theorem wl_Mo_learn_L18 {p : Program} {l : Launch} {e : Env} {s : State} {m : MethodId} {args : Array Value} {below : List Frame} {meth : Method} {c : Code} {Q : State → Prop} {A : Nat → Prop} {D : va_G} {cI cJ cZ cO : ClassId} {q_this q_m q_saved q_w q_savedWords q_isSaved q_text q_far q_queue q_parent q_by q_seen q_path q_row q_more q_stateOf : Nat} {v_textLength : Int32} {v_hash : Int64} {x1 : Int32} {x : Int32 × (Nat → Int32) × (Nat → Int64) × (Nat → Int32) × (Nat → Int32) × (Nat → Int32) × (Nat → Int32) × (Nat → Int32) × Int32 × (Nat → Int32) × Int64 × (Nat → Int64) × Int32 × (Nat → Int32)} (C0 : Cx p s m args c A D cI cJ cZ cO cX10_learn 4 RX10) (hQ : RtI p l e rm_Mo_learn s m args below meth c Q A D cX10_learn .int (ws_Mo_learn cI cJ cZ q_this q_m q_saved q_w q_savedWords q_isSaved q_text q_far q_queue q_parent q_by q_seen q_path q_row q_more q_stateOf v_textLength x.2.2.2.2.2.2.2.2.1 x.2.2.2.2.2.2.2.2.2.2.1 x.2.2.2.2.2.2.2.2.2.2.2.2.1 v_hash x.2.1 x.2.2.1 x.2.2.2.1 x.2.2.2.2.1 x.2.2.2.2.2.1 x.2.2.2.2.2.2.1 x.2.2.2.2.2.2.2.1 x.2.2.2.2.2.2.2.2.2.1 x.2.2.2.2.2.2.2.2.2.2.2.1 x.2.2.2.2.2.2.2.2.2.2.2.2.2) x.1) {K : Int32 → Int32 → (Nat → Int32) → (Nat → Int64) → (Nat → Int32) → (Nat → Int32) → (Nat → Int32) → (Nat → Int32) → (Nat → Int32) → Int32 → (Nat → Int32) → Int64 → (Nat → Int64) → Int32 → (Nat → Int32) → Option (Int32 × (Nat → Int32) × (Nat → Int64) × (Nat → Int32) × (Nat → Int32) × (Nat → Int32) × (Nat → Int32) × (Nat → Int32) × Int32 × (Nat → Int32) × Int64 × (Nat → Int64) × Int32 × (Nat → Int32))} (hK : ∀ (x2 : Int32) (x3 : Int32) (v_m : (Nat → Int32)) (v_w : (Nat → Int64)) (v_queue : (Nat → Int32)) (v_parent : (Nat → Int32)) (v_by : (Nat → Int32)) (v_seen : (Nat → Int32)) (v_path : (Nat → Int32)) (v_steps : Int32) (v_row : (Nat → Int32)) (v_missing : Int64) (v_more : (Nat → Int64)) (v_mores : Int32) (v_stateOf : (Nat → Int32)) (H : Heap) (locs : List Loc) (ls : Array Slot), K x2 x3 v_m v_w v_queue v_parent v_by v_seen v_path v_steps v_row v_missing v_more v_mores v_stateOf = some x → Wd s A D (ws_Mo_learn cI cJ cZ q_this q_m q_saved q_w q_savedWords q_isSaved q_text q_far q_queue q_parent q_by q_seen q_path q_row q_more q_stateOf v_textLength v_steps v_missing v_mores v_hash v_m v_w v_queue v_parent v_by v_seen v_path v_row v_more v_stateOf) H locs → lv_has ls 4 [(2, .int x2)] → W p l e rm_Mo_learn s m args below meth c H locs 0 0 Q (F0 m 43 ls [])) : ∀ (n : Nat) (x2 : Int32) (x3 : Int32) (v_m : (Nat → Int32)) (v_w : (Nat → Int64)) (v_queue : (Nat → Int32)) (v_parent : (Nat → Int32)) (v_by : (Nat → Int32)) (v_seen : (Nat → Int32)) (v_path : (Nat → Int32)) (v_steps : Int32) (v_row : (Nat → Int32)) (v_missing : Int64) (v_more : (Nat → Int64)) (v_mores : Int32) (v_stateOf : (Nat → Int32)) (H : Heap) (locs : List Loc) (ls : Array Slot), itr (fun _ _ _ _ _ _ _ _ _ _ _ _ _ _ _ => none) (f_Mo_learn_L18 x1 K) n x2 x3 v_m v_w v_queue v_parent v_by v_seen v_path v_steps v_row v_missing v_more v_mores v_stateOf = some x → Wd s A D (ws_Mo_learn cI cJ cZ q_this q_m q_saved q_w q_savedWords q_isSaved q_text q_far q_queue q_parent q_by q_seen q_path q_row q_more q_stateOf v_textLength v_steps v_missing v_mores v_hash v_m v_w v_queue v_parent v_by v_seen v_path v_row v_more v_stateOf) H locs → lv_has ls 4 [(0, .ref q_this), (1, .int x1), (2, .int x2), (3, .int x3)] → W p l e rm_Mo_learn s m args below meth c H locs 0 0 Q (F0 m 18 ls []) := by
  intro n
  induction n with
  | zero => intro _ _ _ _ _ _ _ _ _ _ _ _ _ _ _ _ _ _ h; cases (show none = some _ from h)
  | succ n ih => intro _ _ _ _ _ _ _ _ _ _ _ _ _ _ _ _ _ _ h w hl; exact w_Mo_learn_L18 C0 hQ hK ih _ _ _ _ _ _ _ _ _ _ _ _ _ _ _ h w hl
set_option maxRecDepth 100000 in
theorem c_Mo_learn {l : Launch} {D : va_G} {cI cJ cZ cO : ClassId} {q_this q_m q_saved q_w q_savedWords q_isSaved q_text q_far q_queue q_parent q_by q_seen q_path q_row q_more q_stateOf : Nat} {x1 : Int32} {v_textLength : Int32} {v_steps : Int32} {v_missing : Int64} {v_mores : Int32} {v_hash : Int64} {v_m : (Nat → Int32)} {v_w : (Nat → Int64)} {v_queue : (Nat → Int32)} {v_parent : (Nat → Int32)} {v_by : (Nat → Int32)} {v_seen : (Nat → Int32)} {v_path : (Nat → Int32)} {v_row : (Nat → Int32)} {v_more : (Nat → Int64)} {v_stateOf : (Nat → Int32)} {x : Int32 × (Nat → Int32) × (Nat → Int64) × (Nat → Int32) × (Nat → Int32) × (Nat → Int32) × (Nat → Int32) × (Nat → Int32) × Int32 × (Nat → Int32) × Int64 × (Nat → Int64) × Int32 × (Nat → Int32)} (h : f_Mo_learn x1 v_steps v_missing v_mores v_m v_w v_queue v_parent v_by v_seen v_path v_row v_more v_stateOf = some x) : ctI l D cI cJ cZ cO yX10_learn cX10_learn 4 .int rm_Mo_learn [.ref q_this, .int x1] (ws_Mo_learn cI cJ cZ q_this q_m q_saved q_w q_savedWords q_isSaved q_text q_far q_queue q_parent q_by q_seen q_path q_row q_more q_stateOf v_textLength v_steps v_missing v_mores v_hash v_m v_w v_queue v_parent v_by v_seen v_path v_row v_more v_stateOf) (ws_Mo_learn cI cJ cZ q_this q_m q_saved q_w q_savedWords q_isSaved q_text q_far q_queue q_parent q_by q_seen q_path q_row q_more q_stateOf v_textLength x.2.2.2.2.2.2.2.2.1 x.2.2.2.2.2.2.2.2.2.2.1 x.2.2.2.2.2.2.2.2.2.2.2.2.1 v_hash x.2.1 x.2.2.1 x.2.2.2.1 x.2.2.2.2.1 x.2.2.2.2.2.1 x.2.2.2.2.2.2.1 x.2.2.2.2.2.2.2.1 x.2.2.2.2.2.2.2.2.2.1 x.2.2.2.2.2.2.2.2.2.2.2.1 x.2.2.2.2.2.2.2.2.2.2.2.2.2) x.1 := by
  refine ctI_of (by decide) (Nat.le_of_ble_eq_true rfl) ?_
  intro p e s m below meth c Q A ls C0 hQ w hl
  have hl : lv_has ls 4 [(0, .ref q_this), (1, .int x1)] := hl
  generalize List.toArray (α := Value) [.ref q_this, .int x1] = args at C0 hQ ⊢
  obtain ⟨hx, hb, hml, hown, hts, -, -⟩ := id C0
  unfold f_Mo_learn at h
  refine lv_iload_n hx hb dX10_learn_0 rfl (lv_at hl 1 rfl) ?_
  refine lv_iconst (v := (1 : Int32)) hx hb dX10_learn_1 (by decide) ?_
  refine lv_sipush (v := (1000 : Int32)) hx hb dX10_learn_2 (by decide) ?_
  obtain ⟨r, hcall, h⟩ := bd1_h h
  obtain ⟨wr, hp, hp'⟩ := rd_of (ws := (ws_Mo_learn cI cJ cZ q_this q_m q_saved q_w q_savedWords q_isSaved q_text q_far q_queue q_parent q_by q_seen q_path q_row q_more q_stateOf v_textLength v_steps v_missing v_mores v_hash v_m v_w v_queue v_parent v_by v_seen v_path v_row v_more v_stateOf)) (wc := (ws_Mo_in cI cJ cZ)) [] rfl rfl
  refine r_SI (r := r) (As := [.int x1, .int (1 : Int32), .int (1000 : Int32)]) (rest := []) (wc' := (ws_Mo_in cI cJ cZ)) (ws' := (ws_Mo_learn cI cJ cZ q_this q_m q_saved q_w q_savedWords q_isSaved q_text q_far q_queue q_parent q_by q_seen q_path q_row q_more q_stateOf v_textLength v_steps v_missing v_mores v_hash v_m v_w v_queue v_parent v_by v_seen v_path v_row v_more v_stateOf)) C0 w (c_Mo_in hcall) hp hp' lm_RX10_76 ms_Mo_in ⟨rfl, rfl⟩ ⟨by decide, by decide⟩ ⟨Nat.zero_le _, Nat.zero_le _⟩ rfl hl rfl (Nat.le_of_ble_eq_true rfl) dX10_learn_5 (fun H locs w => ?_)
  refine lv_if_ne (tgt := 14) hx hb dX10_learn_8 (by decide) (fun hc => ?_) (fun hc => ?_)
  · have h := nf_h hc h
    refine lv_iconst (v := (1 : Int32)) hx hb dX10_learn_14 (by decide) ?_
    refine lv_istore_n (lv' := [(2, .int (1 : Int32)), (0, .ref q_this), (1, .int x1)]) hx hb dX10_learn_15 rfl hl (by decide) rfl (fun ls hl => ?_)
    refine lv_iconst (v := (0 : Int32)) hx hb dX10_learn_16 (by decide) ?_
    refine lv_istore_n (lv' := [(3, .int (0 : Int32)), (2, .int (1 : Int32)), (0, .ref q_this), (1, .int x1)]) hx hb dX10_learn_17 rfl hl (by decide) rfl (fun ls hl => ?_)
    refine wl_Mo_learn_L18 C0 hQ (fun x2 x3 v_m_1 v_w_1 v_queue_1 v_parent_1 v_by_1 v_seen_1 v_path_1 v_steps_1 v_row_1 v_missing_1 v_more_1 v_mores_1 v_stateOf_1 H locs ls h w hl => ?_) _ _ _ _ _ _ _ _ _ _ _ _ _ _ _ _ _ _ _ h w (lv_sub hl [2, 3, 1, 0] rfl)
    refine lv_iload_n hx hb dX10_learn_43 rfl (lv_at hl 0 rfl) ?_
    cases h
    exact hQ _ _ _ _ dX10_learn_44 rfl w
  · have h := if_h hc h
    refine lv_bipush (v := (-2 : Int32)) hx hb dX10_learn_11 (by decide) ?_
    cases h
    exact hQ _ _ _ _ dX10_learn_13 rfl w
theorem dX10_word_0 : decode cX10_word 0 = .ok (.iload_n 2, 1) := by decide +kernel
theorem dX10_word_1 : decode cX10_word 1 = .ok (.iconst 0, 1) := by decide +kernel
theorem dX10_word_2 : decode cX10_word 2 = .ok (.iload_n 1, 1) := by decide +kernel
theorem dX10_word_3 : decode cX10_word 3 = .ok (.ifCond .eq 13, 3) := by decide +kernel
theorem dX10_word_6 : decode cX10_word 6 = .ok (.aload_n 0, 1) := by decide +kernel
theorem dX10_word_7 : decode cX10_word 7 = .ok (.getfield 7, 3) := by decide +kernel
theorem dX10_word_10 : decode cX10_word 10 = .ok (.bipush 39, 2) := by decide +kernel
theorem dX10_word_12 : decode cX10_word 12 = .ok (.iaload, 1) := by decide +kernel
theorem dX10_word_13 : decode cX10_word 13 = .ok (.goto 10, 3) := by decide +kernel
theorem dX10_word_16 : decode cX10_word 16 = .ok (.aload_n 0, 1) := by decide +kernel
theorem dX10_word_17 : decode cX10_word 17 = .ok (.getfield 7, 3) := by decide +kernel
theorem dX10_word_20 : decode cX10_word 20 = .ok (.bipush 38, 2) := by decide +kernel
theorem dX10_word_22 : decode cX10_word 22 = .ok (.iaload, 1) := by decide +kernel
theorem dX10_word_23 : decode cX10_word 23 = .ok (.iconst 1, 1) := by decide +kernel
theorem dX10_word_24 : decode cX10_word 24 = .ok (.isub, 1) := by decide +kernel
theorem dX10_word_25 : decode cX10_word 25 = .ok (.invokestatic 76, 3) := by decide +kernel
theorem dX10_word_28 : decode cX10_word 28 = .ok (.ifCond .eq 8, 3) := by decide +kernel
theorem dX10_word_31 : decode cX10_word 31 = .ok (.iload_n 3, 1) := by decide +kernel
theorem dX10_word_32 : decode cX10_word 32 = .ok (.iconst (-1), 1) := by decide +kernel
theorem dX10_word_33 : decode cX10_word 33 = .ok (.if_icmp .ge 6, 3) := by decide +kernel
theorem dX10_word_36 : decode cX10_word 36 = .ok (.bipush (-2), 2) := by decide +kernel
theorem dX10_word_38 : decode cX10_word 38 = .ok (.ireturn, 1) := by decide +kernel
theorem dX10_word_39 : decode cX10_word 39 = .ok (.aload_n 0, 1) := by decide +kernel
theorem dX10_word_40 : decode cX10_word 40 = .ok (.aload_n 0, 1) := by decide +kernel
theorem dX10_word_41 : decode cX10_word 41 = .ok (.getfield 16, 3) := by decide +kernel
theorem dX10_word_44 : decode cX10_word 44 = .ok (.iload_n 1, 1) := by decide +kernel
theorem dX10_word_45 : decode cX10_word 45 = .ok (.ifCond .eq 9, 3) := by decide +kernel
theorem dX10_word_48 : decode cX10_word 48 = .ok (.sipush 344, 3) := by decide +kernel
theorem dX10_word_51 : decode cX10_word 51 = .ok (.goto 6, 3) := by decide +kernel
theorem dX10_word_54 : decode cX10_word 54 = .ok (.sipush 304, 3) := by decide +kernel
theorem dX10_word_57 : decode cX10_word 57 = .ok (.iload_n 2, 1) := by decide +kernel
theorem dX10_word_58 : decode cX10_word 58 = .ok (.iadd, 1) := by decide +kernel
theorem dX10_word_59 : decode cX10_word 59 = .ok (.laload, 1) := by decide +kernel
theorem dX10_word_60 : decode cX10_word 60 = .ok (.iload_n 3, 1) := by decide +kernel
theorem dX10_word_61 : decode cX10_word 61 = .ok (.invokevirtual 205, 3) := by decide +kernel
theorem dX10_word_64 : decode cX10_word 64 = .ok (.ireturn, 1) := by decide +kernel
set_option maxRecDepth 100000 in
theorem c_Mo_word {l : Launch} {D : va_G} {cI cJ cZ cO : ClassId} {q_this q_m q_saved q_w q_savedWords q_isSaved q_text q_far q_queue q_parent q_by q_seen q_path q_row q_more q_stateOf : Nat} {x1 : Int32} {x2 : Int32} {x3 : Int32} {v_textLength : Int32} {v_steps : Int32} {v_missing : Int64} {v_mores : Int32} {v_hash : Int64} {v_m : (Nat → Int32)} {v_w : (Nat → Int64)} {x : Int32} (h : f_Mo_word x1 x2 x3 v_m v_w = some x) : ctI l D cI cJ cZ cO yX10_word cX10_word 4 .int rm_Mo_word [.ref q_this, .int x1, .int x2, .int x3] (ws_Mo_word cI cJ cZ q_this q_m q_saved q_w q_savedWords q_isSaved q_text q_far q_queue q_parent q_by q_seen q_path q_row q_more q_stateOf v_textLength v_steps v_missing v_mores v_hash v_m v_w) (ws_Mo_word cI cJ cZ q_this q_m q_saved q_w q_savedWords q_isSaved q_text q_far q_queue q_parent q_by q_seen q_path q_row q_more q_stateOf v_textLength v_steps v_missing v_mores v_hash v_m v_w) x := by
  refine ctI_of (by decide) (Nat.le_of_ble_eq_true rfl) ?_
  intro p e s m below meth c Q A ls C0 hQ w hl
  have hl : lv_has ls 4 [(0, .ref q_this), (1, .int x1), (2, .int x2), (3, .int x3)] := hl
  generalize List.toArray (α := Value) [.ref q_this, .int x1, .int x2, .int x3] = args at C0 hQ ⊢
  obtain ⟨hx, hb, hml, hown, hts, -, -⟩ := id C0
  unfold f_Mo_word at h
  obtain ⟨H, eH⟩ : ∃ z, z = s.heap := ⟨_, rfl⟩
  obtain ⟨locs, eL⟩ : ∃ z : List Loc, z = [] := ⟨_, rfl⟩
  rw [← eH, ← eL] at w ⊢
  refine lv_iload_n hx hb dX10_word_0 rfl (lv_at hl 2 rfl) ?_
  refine lv_iconst (v := (0 : Int32)) hx hb dX10_word_1 (by decide) ?_
  refine lv_iload_n hx hb dX10_word_2 rfl (lv_at hl 1 rfl) ?_
  obtain ⟨t, et⟩ : ∃ y : Int32, y = (if x1 = 0 then (v_m 38) else (v_m 39)) := ⟨_, rfl⟩
  have h := bnd_at et h
  have J : W p l e rm_Mo_word s m args below meth c H locs 0 0 Q (F0 m 23 ls [.int t, .int (0 : Int32), .int x2]) := by
    refine lv_iconst (v := (1 : Int32)) hx hb dX10_word_23 (by decide) ?_
    refine lv_isub hx hb dX10_word_24 ?_
    obtain ⟨r, hcall, h⟩ := bd1_h h
    obtain ⟨wr, hp, hp'⟩ := rd_of (ws := (ws_Mo_word cI cJ cZ q_this q_m q_saved q_w q_savedWords q_isSaved q_text q_far q_queue q_parent q_by q_seen q_path q_row q_more q_stateOf v_textLength v_steps v_missing v_mores v_hash v_m v_w)) (wc := (ws_Mo_in cI cJ cZ)) [] rfl rfl
    refine r_SI (r := r) (As := [.int x2, .int (0 : Int32), .int (t - (1 : Int32))]) (rest := []) (wc' := (ws_Mo_in cI cJ cZ)) (ws' := (ws_Mo_word cI cJ cZ q_this q_m q_saved q_w q_savedWords q_isSaved q_text q_far q_queue q_parent q_by q_seen q_path q_row q_more q_stateOf v_textLength v_steps v_missing v_mores v_hash v_m v_w)) C0 w (c_Mo_in hcall) hp hp' lm_RX10_76 ms_Mo_in ⟨rfl, rfl⟩ ⟨by decide, by decide⟩ ⟨Nat.zero_le _, Nat.zero_le _⟩ rfl hl rfl (Nat.le_of_ble_eq_true rfl) dX10_word_25 (fun H locs w => ?_)
    refine lv_if_eq (tgt := 36) hx hb dX10_word_28 (by decide) (fun hc => ?_) (fun hc => ?_)
    · have h := if_h hc h
      refine lv_bipush (v := (-2 : Int32)) hx hb dX10_word_36 (by decide) ?_
      cases h
      exact hQ _ _ _ _ dX10_word_38 rfl w
    · have h := nf_h hc h
      refine lv_iload_n hx hb dX10_word_31 rfl (lv_at hl 3 rfl) ?_
      refine lv_iconst (v := (-1 : Int32)) hx hb dX10_word_32 (by decide) ?_
      refine lv_icmp_ge (tgt := 39) hx hb dX10_word_33 (by decide) (fun hc => ?_) (fun hc => ?_)
      · have h := if_h hc h
        refine lv_aload_n hx hb dX10_word_39 rfl (lv_at hl 0 rfl) ?_
        refine lv_aload_n hx hb dX10_word_40 rfl (lv_at hl 0 rfl) ?_
        refine r_get C0 w 0 rfl kf_Mo 2 (by decide) lf_RX10_16 rfl dX10_word_41 ?_
        refine lv_iload_n hx hb dX10_word_44 rfl (lv_at hl 1 rfl) ?_
        obtain ⟨t_1, et_1⟩ : ∃ y : Int32, y = (if x1 = 0 then (304 : Int32) else (344 : Int32)) := ⟨_, rfl⟩
        have h := bnd_at et_1 h
        have J : W p l e rm_Mo_word s m args below meth c H locs 0 0 Q (F0 m 57 ls [.int t_1, .ref q_w, .ref q_this]) := by
          refine lv_iload_n hx hb dX10_word_57 rfl (lv_at hl 2 rfl) ?_
          refine lv_iadd hx hb dX10_word_58 ?_
          obtain ⟨hi, h⟩ := gIn_h h
          refine r_lald C0 w 2 rfl rfl hi dX10_word_59 ?_
          refine lv_iload_n hx hb dX10_word_60 rfl (lv_at hl 3 rfl) ?_
          obtain ⟨r_1, hcall, h⟩ := bd1_h h
          obtain ⟨wr, hp, hp'⟩ := rd_of (ws := (ws_Mo_word cI cJ cZ q_this q_m q_saved q_w q_savedWords q_isSaved q_text q_far q_queue q_parent q_by q_seen q_path q_row q_more q_stateOf v_textLength v_steps v_missing v_mores v_hash v_m v_w)) (wc := (ws_Mo_letterOrLength cI cJ cZ q_this)) [] rfl rfl
          refine r_VI (r := r_1) (As := [.long (v_w (t_1 + x2).toNatClampNeg), .int x3]) (rest := []) (wc' := (ws_Mo_letterOrLength cI cJ cZ q_this)) (ws' := (ws_Mo_word cI cJ cZ q_this q_m q_saved q_w q_savedWords q_isSaved q_text q_far q_queue q_parent q_by q_seen q_path q_row q_more q_stateOf v_textLength v_steps v_missing v_mores v_hash v_m v_w)) C0 w (c_Mo_letterOrLength hcall) hp hp' lm_RX10_205 mv_Mo_letterOrLength ⟨rfl, rfl⟩ ⟨by decide, by decide⟩ ⟨Nat.zero_le _, Nat.zero_le _⟩ (q0 := 0) rfl rfl rfl rfl hl rfl (Nat.le_of_ble_eq_true rfl) dX10_word_61 (fun H locs w => ?_)
          cases h
          exact hQ _ _ _ _ dX10_word_64 rfl w
        refine lv_if_eq (tgt := 54) hx hb dX10_word_45 (by decide) (fun hc => ?_) (fun hc => ?_)
        · refine lv_sipush (v := (304 : Int32)) hx hb dX10_word_54 (by decide) ?_
          exact r_eqi (et_1.trans (if_pos hc)) J
        · refine lv_sipush (v := (344 : Int32)) hx hb dX10_word_48 (by decide) ?_
          refine lv_goto (tgt := 57) hx hb dX10_word_51 (by decide) ?_
          exact r_eqi (et_1.trans (if_neg hc)) J
      · have h := nf_h hc h
        refine lv_bipush (v := (-2 : Int32)) hx hb dX10_word_36 (by decide) ?_
        cases h
        exact hQ _ _ _ _ dX10_word_38 rfl w
  refine lv_if_eq (tgt := 16) hx hb dX10_word_3 (by decide) (fun hc => ?_) (fun hc => ?_)
  · refine lv_aload_n hx hb dX10_word_16 rfl (lv_at hl 0 rfl) ?_
    refine r_get C0 w 0 rfl kf_Mo 0 (by decide) lf_RX10_7 rfl dX10_word_17 ?_
    refine lv_bipush (v := (38 : Int32)) hx hb dX10_word_20 (by decide) ?_
    refine r_iald C0 w 1 rfl (k := 38) (by decide) (inl (by decide)) dX10_word_22 ?_
    exact r_eqi (et.trans (if_pos hc)) J
  · refine lv_aload_n hx hb dX10_word_6 rfl (lv_at hl 0 rfl) ?_
    refine r_get C0 w 0 rfl kf_Mo 0 (by decide) lf_RX10_7 rfl dX10_word_7 ?_
    refine lv_bipush (v := (39 : Int32)) hx hb dX10_word_10 (by decide) ?_
    refine r_iald C0 w 1 rfl (k := 39) (by decide) (inl (by decide)) dX10_word_12 ?_
    refine lv_goto (tgt := 23) hx hb dX10_word_13 (by decide) ?_
    exact r_eqi (et.trans (if_neg hc)) J

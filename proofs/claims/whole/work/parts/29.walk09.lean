theorem dX10_cell_0 : decode cX10_cell 0 = .ok (.iload_n 1, 1) := by decide +kernel
theorem dX10_cell_1 : decode cX10_cell 1 = .ok (.iconst 0, 1) := by decide +kernel
theorem dX10_cell_2 : decode cX10_cell 2 = .ok (.aload_n 0, 1) := by decide +kernel
theorem dX10_cell_3 : decode cX10_cell 3 = .ok (.getfield 7, 3) := by decide +kernel
theorem dX10_cell_6 : decode cX10_cell 6 = .ok (.bipush 38, 2) := by decide +kernel
theorem dX10_cell_8 : decode cX10_cell 8 = .ok (.iaload, 1) := by decide +kernel
theorem dX10_cell_9 : decode cX10_cell 9 = .ok (.iconst 1, 1) := by decide +kernel
theorem dX10_cell_10 : decode cX10_cell 10 = .ok (.isub, 1) := by decide +kernel
theorem dX10_cell_11 : decode cX10_cell 11 = .ok (.invokestatic 76, 3) := by decide +kernel
theorem dX10_cell_14 : decode cX10_cell 14 = .ok (.ifCond .eq 33, 3) := by decide +kernel
theorem dX10_cell_17 : decode cX10_cell 17 = .ok (.iload_n 2, 1) := by decide +kernel
theorem dX10_cell_18 : decode cX10_cell 18 = .ok (.iconst (-1), 1) := by decide +kernel
theorem dX10_cell_19 : decode cX10_cell 19 = .ok (.if_icmp .eq 11, 3) := by decide +kernel
theorem dX10_cell_22 : decode cX10_cell 22 = .ok (.aload_n 0, 1) := by decide +kernel
theorem dX10_cell_23 : decode cX10_cell 23 = .ok (.iload_n 2, 1) := by decide +kernel
theorem dX10_cell_24 : decode cX10_cell 24 = .ok (.invokevirtual 90, 3) := by decide +kernel
theorem dX10_cell_27 : decode cX10_cell 27 = .ok (.ifCond .eq 20, 3) := by decide +kernel
theorem dX10_cell_30 : decode cX10_cell 30 = .ok (.iload_n 3, 1) := by decide +kernel
theorem dX10_cell_31 : decode cX10_cell 31 = .ok (.iconst 0, 1) := by decide +kernel
theorem dX10_cell_32 : decode cX10_cell 32 = .ok (.aload_n 0, 1) := by decide +kernel
theorem dX10_cell_33 : decode cX10_cell 33 = .ok (.getfield 7, 3) := by decide +kernel
theorem dX10_cell_36 : decode cX10_cell 36 = .ok (.bipush 39, 2) := by decide +kernel
theorem dX10_cell_38 : decode cX10_cell 38 = .ok (.iaload, 1) := by decide +kernel
theorem dX10_cell_39 : decode cX10_cell 39 = .ok (.iconst 1, 1) := by decide +kernel
theorem dX10_cell_40 : decode cX10_cell 40 = .ok (.isub, 1) := by decide +kernel
theorem dX10_cell_41 : decode cX10_cell 41 = .ok (.invokestatic 76, 3) := by decide +kernel
theorem dX10_cell_44 : decode cX10_cell 44 = .ok (.ifCond .ne 6, 3) := by decide +kernel
theorem dX10_cell_47 : decode cX10_cell 47 = .ok (.bipush (-2), 2) := by decide +kernel
theorem dX10_cell_49 : decode cX10_cell 49 = .ok (.ireturn, 1) := by decide +kernel
theorem dX10_cell_50 : decode cX10_cell 50 = .ok (.iload_n 2, 1) := by decide +kernel
theorem dX10_cell_51 : decode cX10_cell 51 = .ok (.iconst (-1), 1) := by decide +kernel
theorem dX10_cell_52 : decode cX10_cell 52 = .ok (.if_icmp .ne 16, 3) := by decide +kernel
theorem dX10_cell_55 : decode cX10_cell 55 = .ok (.aload_n 0, 1) := by decide +kernel
theorem dX10_cell_56 : decode cX10_cell 56 = .ok (.getfield 16, 3) := by decide +kernel
theorem dX10_cell_59 : decode cX10_cell 59 = .ok (.sipush 304, 3) := by decide +kernel
theorem dX10_cell_62 : decode cX10_cell 62 = .ok (.iload_n 1, 1) := by decide +kernel
theorem dX10_cell_63 : decode cX10_cell 63 = .ok (.iadd, 1) := by decide +kernel
theorem dX10_cell_64 : decode cX10_cell 64 = .ok (.laload, 1) := by decide +kernel
theorem dX10_cell_65 : decode cX10_cell 65 = .ok (.goto 17, 3) := by decide +kernel
theorem dX10_cell_68 : decode cX10_cell 68 = .ok (.aload_n 0, 1) := by decide +kernel
theorem dX10_cell_69 : decode cX10_cell 69 = .ok (.getfield 16, 3) := by decide +kernel
theorem dX10_cell_72 : decode cX10_cell 72 = .ok (.sipush 304, 3) := by decide +kernel
theorem dX10_cell_75 : decode cX10_cell 75 = .ok (.iload_n 1, 1) := by decide +kernel
theorem dX10_cell_76 : decode cX10_cell 76 = .ok (.iadd, 1) := by decide +kernel
theorem dX10_cell_77 : decode cX10_cell 77 = .ok (.laload, 1) := by decide +kernel
theorem dX10_cell_78 : decode cX10_cell 78 = .ok (.iload_n 2, 1) := by decide +kernel
theorem dX10_cell_79 : decode cX10_cell 79 = .ok (.invokestatic 82, 3) := by decide +kernel
theorem dX10_cell_82 : decode cX10_cell 82 = .ok (.lstore 4, 2) := by decide +kernel
theorem dX10_cell_84 : decode cX10_cell 84 = .ok (.aload_n 0, 1) := by decide +kernel
theorem dX10_cell_85 : decode cX10_cell 85 = .ok (.lload 4, 2) := by decide +kernel
theorem dX10_cell_87 : decode cX10_cell 87 = .ok (.aload_n 0, 1) := by decide +kernel
theorem dX10_cell_88 : decode cX10_cell 88 = .ok (.getfield 16, 3) := by decide +kernel
theorem dX10_cell_91 : decode cX10_cell 91 = .ok (.sipush 344, 3) := by decide +kernel
theorem dX10_cell_94 : decode cX10_cell 94 = .ok (.iload_n 3, 1) := by decide +kernel
theorem dX10_cell_95 : decode cX10_cell 95 = .ok (.iadd, 1) := by decide +kernel
theorem dX10_cell_96 : decode cX10_cell 96 = .ok (.laload, 1) := by decide +kernel
theorem dX10_cell_97 : decode cX10_cell 97 = .ok (.invokestatic 137, 3) := by decide +kernel
theorem dX10_cell_100 : decode cX10_cell 100 = .ok (.invokevirtual 127, 3) := by decide +kernel
theorem dX10_cell_103 : decode cX10_cell 103 = .ok (.ireturn, 1) := by decide +kernel
set_option maxRecDepth 100000 in
theorem w_Mo_cell_J82 {p : Program} {l : Launch} {e : Env} {s : State} {m : MethodId} {args : Array Value} {below : List Frame} {meth : Method} {c : Code} {Q : State → Prop} {A : Nat → Prop} {D : va_G} {cI cJ cZ cO : ClassId} {q_this q_m q_saved q_w q_savedWords q_isSaved q_text q_far q_queue q_parent q_by q_seen q_path q_row q_more q_stateOf : Nat} {v_textLength : Int32} {v_steps : Int32} {v_missing : Int64} {v_mores : Int32} {v_hash : Int64} {v_m : (Nat → Int32)} {v_w : (Nat → Int64)} {x : Int32} {x3 : Int32} {s0 : Int64} (C0 : Cx p s m args c A D cI cJ cZ cO cX10_cell 6 RX10) (hQ : RtI p l e rm_Mo_cell s m args below meth c Q A D cX10_cell .int (ws_Mo_cell cI cJ cZ q_this q_m q_saved q_w q_savedWords q_isSaved q_text q_far q_queue q_parent q_by q_seen q_path q_row q_more q_stateOf v_textLength v_steps v_missing v_mores v_hash v_m v_w) x) {H : Heap} {locs : List Loc} {ls : Array Slot} (h : f_Mo_cell_J82 x3 s0 v_m v_w = some x) (w : Wd s A D (ws_Mo_cell cI cJ cZ q_this q_m q_saved q_w q_savedWords q_isSaved q_text q_far q_queue q_parent q_by q_seen q_path q_row q_more q_stateOf v_textLength v_steps v_missing v_mores v_hash v_m v_w) H locs) (hl : lv_has ls 6 [(0, .ref q_this), (3, .int x3)]) : W p l e rm_Mo_cell s m args below meth c H locs 0 0 Q (F0 m 82 ls [.long s0]) := by
  obtain ⟨hx, hb, hml, hown, hts, -, -⟩ := id C0
  unfold f_Mo_cell_J82 at h
  refine lv_lstore (lv' := [(4, .long s0), (0, .ref q_this), (3, .int x3)]) hx hb dX10_cell_82 hl (by decide) rfl (fun ls hl => ?_)
  refine lv_aload_n hx hb dX10_cell_84 rfl (lv_at hl 1 rfl) ?_
  refine lv_lload hx hb dX10_cell_85 (lv_at hl 0 rfl) ?_
  refine lv_aload_n hx hb dX10_cell_87 rfl (lv_at hl 1 rfl) ?_
  refine r_get C0 w 0 rfl kf_Mo 2 (by decide) lf_RX10_16 rfl dX10_cell_88 ?_
  refine lv_sipush (v := (344 : Int32)) hx hb dX10_cell_91 (by decide) ?_
  refine lv_iload_n hx hb dX10_cell_94 rfl (lv_at hl 2 rfl) ?_
  refine lv_iadd hx hb dX10_cell_95 ?_
  obtain ⟨hi, h⟩ := gIn_h h
  refine r_lald C0 w 2 rfl rfl hi dX10_cell_96 ?_
  obtain ⟨r, hcall, h⟩ := bd1_h h
  obtain ⟨wr, hp, hp'⟩ := rd_of (ws := (ws_Mo_cell cI cJ cZ q_this q_m q_saved q_w q_savedWords q_isSaved q_text q_far q_queue q_parent q_by q_seen q_path q_row q_more q_stateOf v_textLength v_steps v_missing v_mores v_hash v_m v_w)) (wc := (ws_Mo_joined cI cJ cZ)) [] rfl rfl
  refine r_SJ (r := r) (As := [.long s0, .long (v_w ((344 : Int32) + x3).toNatClampNeg)]) (rest := [.ref q_this]) (wc' := (ws_Mo_joined cI cJ cZ)) (ws' := (ws_Mo_cell cI cJ cZ q_this q_m q_saved q_w q_savedWords q_isSaved q_text q_far q_queue q_parent q_by q_seen q_path q_row q_more q_stateOf v_textLength v_steps v_missing v_mores v_hash v_m v_w)) C0 w (c_Mo_joined hcall) hp hp' lm_RX10_137 ms_Mo_joined ⟨rfl, rfl⟩ ⟨by decide, by decide⟩ ⟨Nat.zero_le _, Nat.zero_le _⟩ rfl hl rfl (Nat.le_of_ble_eq_true rfl) dX10_cell_97 (fun H locs w => ?_)
  obtain ⟨r_1, hcall, h⟩ := bd1_h h
  obtain ⟨wr, hp, hp'⟩ := rd_of (ws := (ws_Mo_cell cI cJ cZ q_this q_m q_saved q_w q_savedWords q_isSaved q_text q_far q_queue q_parent q_by q_seen q_path q_row q_more q_stateOf v_textLength v_steps v_missing v_mores v_hash v_m v_w)) (wc := (ws_Mo_known cI cJ cZ q_this q_m q_saved q_w q_savedWords q_isSaved q_text q_far q_queue q_parent q_by q_seen q_path q_row q_more q_stateOf v_textLength v_steps v_missing v_mores v_hash v_m v_w)) [0, 1, 2] rfl rfl
  refine r_VI (r := r_1) (As := [.long r]) (rest := []) (wc' := (ws_Mo_known cI cJ cZ q_this q_m q_saved q_w q_savedWords q_isSaved q_text q_far q_queue q_parent q_by q_seen q_path q_row q_more q_stateOf v_textLength v_steps v_missing v_mores v_hash v_m v_w)) (ws' := (ws_Mo_cell cI cJ cZ q_this q_m q_saved q_w q_savedWords q_isSaved q_text q_far q_queue q_parent q_by q_seen q_path q_row q_more q_stateOf v_textLength v_steps v_missing v_mores v_hash v_m v_w)) C0 w (c_Mo_known hcall) hp hp' lm_RX10_127 mv_Mo_known ⟨rfl, rfl⟩ ⟨by decide, by decide⟩ ⟨Nat.zero_le _, Nat.zero_le _⟩ (q0 := 0) rfl rfl rfl rfl hl rfl (Nat.le_of_ble_eq_true rfl) dX10_cell_100 (fun H locs w => ?_)
  cases h
  exact hQ _ _ _ _ dX10_cell_103 rfl w
set_option maxRecDepth 100000 in
theorem w_Mo_cell_J30 {p : Program} {l : Launch} {e : Env} {s : State} {m : MethodId} {args : Array Value} {below : List Frame} {meth : Method} {c : Code} {Q : State → Prop} {A : Nat → Prop} {D : va_G} {cI cJ cZ cO : ClassId} {q_this q_m q_saved q_w q_savedWords q_isSaved q_text q_far q_queue q_parent q_by q_seen q_path q_row q_more q_stateOf : Nat} {v_textLength : Int32} {v_steps : Int32} {v_missing : Int64} {v_mores : Int32} {v_hash : Int64} {v_m : (Nat → Int32)} {v_w : (Nat → Int64)} {x : Int32} {x1 : Int32} {x2 : Int32} {x3 : Int32} (C0 : Cx p s m args c A D cI cJ cZ cO cX10_cell 6 RX10) (hQ : RtI p l e rm_Mo_cell s m args below meth c Q A D cX10_cell .int (ws_Mo_cell cI cJ cZ q_this q_m q_saved q_w q_savedWords q_isSaved q_text q_far q_queue q_parent q_by q_seen q_path q_row q_more q_stateOf v_textLength v_steps v_missing v_mores v_hash v_m v_w) x) {H : Heap} {locs : List Loc} {ls : Array Slot} (h : f_Mo_cell_J30 x1 x2 x3 v_m v_w = some x) (w : Wd s A D (ws_Mo_cell cI cJ cZ q_this q_m q_saved q_w q_savedWords q_isSaved q_text q_far q_queue q_parent q_by q_seen q_path q_row q_more q_stateOf v_textLength v_steps v_missing v_mores v_hash v_m v_w) H locs) (hl : lv_has ls 6 [(0, .ref q_this), (1, .int x1), (2, .int x2), (3, .int x3)]) : W p l e rm_Mo_cell s m args below meth c H locs 0 0 Q (F0 m 30 ls []) := by
  obtain ⟨hx, hb, hml, hown, hts, -, -⟩ := id C0
  unfold f_Mo_cell_J30 at h
  refine lv_iload_n hx hb dX10_cell_30 rfl (lv_at hl 3 rfl) ?_
  refine lv_iconst (v := (0 : Int32)) hx hb dX10_cell_31 (by decide) ?_
  refine lv_aload_n hx hb dX10_cell_32 rfl (lv_at hl 0 rfl) ?_
  refine r_get C0 w 0 rfl kf_Mo 0 (by decide) lf_RX10_7 rfl dX10_cell_33 ?_
  refine lv_bipush (v := (39 : Int32)) hx hb dX10_cell_36 (by decide) ?_
  refine r_iald C0 w 1 rfl (k := 39) (by decide) (inl (by decide)) dX10_cell_38 ?_
  refine lv_iconst (v := (1 : Int32)) hx hb dX10_cell_39 (by decide) ?_
  refine lv_isub hx hb dX10_cell_40 ?_
  obtain ⟨r, hcall, h⟩ := bd1_h h
  obtain ⟨wr, hp, hp'⟩ := rd_of (ws := (ws_Mo_cell cI cJ cZ q_this q_m q_saved q_w q_savedWords q_isSaved q_text q_far q_queue q_parent q_by q_seen q_path q_row q_more q_stateOf v_textLength v_steps v_missing v_mores v_hash v_m v_w)) (wc := (ws_Mo_in cI cJ cZ)) [] rfl rfl
  refine r_SI (r := r) (As := [.int x3, .int (0 : Int32), .int ((v_m 39) - (1 : Int32))]) (rest := []) (wc' := (ws_Mo_in cI cJ cZ)) (ws' := (ws_Mo_cell cI cJ cZ q_this q_m q_saved q_w q_savedWords q_isSaved q_text q_far q_queue q_parent q_by q_seen q_path q_row q_more q_stateOf v_textLength v_steps v_missing v_mores v_hash v_m v_w)) C0 w (c_Mo_in hcall) hp hp' lm_RX10_76 ms_Mo_in ⟨rfl, rfl⟩ ⟨by decide, by decide⟩ ⟨Nat.zero_le _, Nat.zero_le _⟩ rfl hl rfl (Nat.le_of_ble_eq_true rfl) dX10_cell_41 (fun H locs w => ?_)
  refine lv_if_ne (tgt := 50) hx hb dX10_cell_44 (by decide) (fun hc => ?_) (fun hc => ?_)
  · have h := nf_h hc h
    refine lv_iload_n hx hb dX10_cell_50 rfl (lv_at hl 2 rfl) ?_
    refine lv_iconst (v := (-1 : Int32)) hx hb dX10_cell_51 (by decide) ?_
    refine lv_icmp_ne (tgt := 68) hx hb dX10_cell_52 (by decide) (fun hc => ?_) (fun hc => ?_)
    · have h := nf_h hc h
      refine lv_aload_n hx hb dX10_cell_68 rfl (lv_at hl 0 rfl) ?_
      refine r_get C0 w 0 rfl kf_Mo 2 (by decide) lf_RX10_16 rfl dX10_cell_69 ?_
      refine lv_sipush (v := (304 : Int32)) hx hb dX10_cell_72 (by decide) ?_
      refine lv_iload_n hx hb dX10_cell_75 rfl (lv_at hl 1 rfl) ?_
      refine lv_iadd hx hb dX10_cell_76 ?_
      obtain ⟨hi, h⟩ := gIn_h h
      refine r_lald C0 w 2 rfl rfl hi dX10_cell_77 ?_
      refine lv_iload_n hx hb dX10_cell_78 rfl (lv_at hl 2 rfl) ?_
      obtain ⟨r_1, hcall, h⟩ := bd1_h h
      obtain ⟨wr, hp, hp'⟩ := rd_of (ws := (ws_Mo_cell cI cJ cZ q_this q_m q_saved q_w q_savedWords q_isSaved q_text q_far q_queue q_parent q_by q_seen q_path q_row q_more q_stateOf v_textLength v_steps v_missing v_mores v_hash v_m v_w)) (wc := (ws_Mo_longer cI cJ cZ)) [] rfl rfl
      refine r_SJ (r := r_1) (As := [.long (v_w ((304 : Int32) + x1).toNatClampNeg), .int x2]) (rest := []) (wc' := (ws_Mo_longer cI cJ cZ)) (ws' := (ws_Mo_cell cI cJ cZ q_this q_m q_saved q_w q_savedWords q_isSaved q_text q_far q_queue q_parent q_by q_seen q_path q_row q_more q_stateOf v_textLength v_steps v_missing v_mores v_hash v_m v_w)) C0 w (c_Mo_longer hcall) hp hp' lm_RX10_82 ms_Mo_longer ⟨rfl, rfl⟩ ⟨by decide, by decide⟩ ⟨Nat.zero_le _, Nat.zero_le _⟩ rfl hl rfl (Nat.le_of_ble_eq_true rfl) dX10_cell_79 (fun H locs w => ?_)
      exact w_Mo_cell_J82 C0 hQ h w (lv_sub hl [0, 3] rfl)
    · have h := if_h hc h
      refine lv_aload_n hx hb dX10_cell_55 rfl (lv_at hl 0 rfl) ?_
      refine r_get C0 w 0 rfl kf_Mo 2 (by decide) lf_RX10_16 rfl dX10_cell_56 ?_
      refine lv_sipush (v := (304 : Int32)) hx hb dX10_cell_59 (by decide) ?_
      refine lv_iload_n hx hb dX10_cell_62 rfl (lv_at hl 1 rfl) ?_
      refine lv_iadd hx hb dX10_cell_63 ?_
      obtain ⟨hi, h⟩ := gIn_h h
      refine r_lald C0 w 2 rfl rfl hi dX10_cell_64 ?_
      refine lv_goto (tgt := 82) hx hb dX10_cell_65 (by decide) ?_
      exact w_Mo_cell_J82 C0 hQ h w (lv_sub hl [0, 3] rfl)
  · have h := if_h hc h
    refine lv_bipush (v := (-2 : Int32)) hx hb dX10_cell_47 (by decide) ?_
    cases h
    exact hQ _ _ _ _ dX10_cell_49 rfl w
set_option maxRecDepth 100000 in
theorem c_Mo_cell {l : Launch} {D : va_G} {cI cJ cZ cO : ClassId} {q_this q_m q_saved q_w q_savedWords q_isSaved q_text q_far q_queue q_parent q_by q_seen q_path q_row q_more q_stateOf : Nat} {x1 : Int32} {x2 : Int32} {x3 : Int32} {v_textLength : Int32} {v_steps : Int32} {v_missing : Int64} {v_mores : Int32} {v_hash : Int64} {v_m : (Nat → Int32)} {v_w : (Nat → Int64)} {x : Int32} (h : f_Mo_cell x1 x2 x3 v_m v_w = some x) : ctI l D cI cJ cZ cO yX10_cell cX10_cell 6 .int rm_Mo_cell [.ref q_this, .int x1, .int x2, .int x3] (ws_Mo_cell cI cJ cZ q_this q_m q_saved q_w q_savedWords q_isSaved q_text q_far q_queue q_parent q_by q_seen q_path q_row q_more q_stateOf v_textLength v_steps v_missing v_mores v_hash v_m v_w) (ws_Mo_cell cI cJ cZ q_this q_m q_saved q_w q_savedWords q_isSaved q_text q_far q_queue q_parent q_by q_seen q_path q_row q_more q_stateOf v_textLength v_steps v_missing v_mores v_hash v_m v_w) x := by
  refine ctI_of (by decide) (Nat.le_of_ble_eq_true rfl) ?_
  intro p e s m below meth c Q A ls C0 hQ w hl
  have hl : lv_has ls 6 [(0, .ref q_this), (1, .int x1), (2, .int x2), (3, .int x3)] := hl
  generalize List.toArray (α := Value) [.ref q_this, .int x1, .int x2, .int x3] = args at C0 hQ ⊢
  obtain ⟨hx, hb, hml, hown, hts, -, -⟩ := id C0
  unfold f_Mo_cell at h
  refine lv_iload_n hx hb dX10_cell_0 rfl (lv_at hl 1 rfl) ?_
  refine lv_iconst (v := (0 : Int32)) hx hb dX10_cell_1 (by decide) ?_
  refine lv_aload_n hx hb dX10_cell_2 rfl (lv_at hl 0 rfl) ?_
  refine r_get C0 w 0 rfl kf_Mo 0 (by decide) lf_RX10_7 rfl dX10_cell_3 ?_
  refine lv_bipush (v := (38 : Int32)) hx hb dX10_cell_6 (by decide) ?_
  refine r_iald C0 w 1 rfl (k := 38) (by decide) (inl (by decide)) dX10_cell_8 ?_
  refine lv_iconst (v := (1 : Int32)) hx hb dX10_cell_9 (by decide) ?_
  refine lv_isub hx hb dX10_cell_10 ?_
  obtain ⟨r, hcall, h⟩ := bd1_h h
  obtain ⟨wr, hp, hp'⟩ := rd_of (ws := (ws_Mo_cell cI cJ cZ q_this q_m q_saved q_w q_savedWords q_isSaved q_text q_far q_queue q_parent q_by q_seen q_path q_row q_more q_stateOf v_textLength v_steps v_missing v_mores v_hash v_m v_w)) (wc := (ws_Mo_in cI cJ cZ)) [] rfl rfl
  refine r_SI (r := r) (As := [.int x1, .int (0 : Int32), .int ((v_m 38) - (1 : Int32))]) (rest := []) (wc' := (ws_Mo_in cI cJ cZ)) (ws' := (ws_Mo_cell cI cJ cZ q_this q_m q_saved q_w q_savedWords q_isSaved q_text q_far q_queue q_parent q_by q_seen q_path q_row q_more q_stateOf v_textLength v_steps v_missing v_mores v_hash v_m v_w)) C0 w (c_Mo_in hcall) hp hp' lm_RX10_76 ms_Mo_in ⟨rfl, rfl⟩ ⟨by decide, by decide⟩ ⟨Nat.zero_le _, Nat.zero_le _⟩ rfl hl rfl (Nat.le_of_ble_eq_true rfl) dX10_cell_11 (fun H locs w => ?_)
  refine lv_if_eq (tgt := 47) hx hb dX10_cell_14 (by decide) (fun hc => ?_) (fun hc => ?_)
  · have h := if_h hc h
    refine lv_bipush (v := (-2 : Int32)) hx hb dX10_cell_47 (by decide) ?_
    cases h
    exact hQ _ _ _ _ dX10_cell_49 rfl w
  · have h := nf_h hc h
    refine lv_iload_n hx hb dX10_cell_17 rfl (lv_at hl 2 rfl) ?_
    refine lv_iconst (v := (-1 : Int32)) hx hb dX10_cell_18 (by decide) ?_
    refine lv_icmp_eq (tgt := 30) hx hb dX10_cell_19 (by decide) (fun hc => ?_) (fun hc => ?_)
    · have h := if_h hc h
      exact w_Mo_cell_J30 C0 hQ h w (lv_sub hl [0, 1, 2, 3] rfl)
    · have h := nf_h hc h
      refine lv_aload_n hx hb dX10_cell_22 rfl (lv_at hl 0 rfl) ?_
      refine lv_iload_n hx hb dX10_cell_23 rfl (lv_at hl 2 rfl) ?_
      obtain ⟨r_1, hcall, h⟩ := bd1_h h
      obtain ⟨wr, hp, hp'⟩ := rd_of (ws := (ws_Mo_cell cI cJ cZ q_this q_m q_saved q_w q_savedWords q_isSaved q_text q_far q_queue q_parent q_by q_seen q_path q_row q_more q_stateOf v_textLength v_steps v_missing v_mores v_hash v_m v_w)) (wc := (ws_Mo_isLetter cI cJ cZ q_this q_m q_saved q_w q_savedWords q_isSaved q_text q_far q_queue q_parent q_by q_seen q_path q_row q_more q_stateOf v_textLength v_steps v_missing v_mores v_hash v_m)) [0, 1] rfl rfl
      refine r_VI (r := r_1) (As := [.int x2]) (rest := []) (wc' := (ws_Mo_isLetter cI cJ cZ q_this q_m q_saved q_w q_savedWords q_isSaved q_text q_far q_queue q_parent q_by q_seen q_path q_row q_more q_stateOf v_textLength v_steps v_missing v_mores v_hash v_m)) (ws' := (ws_Mo_cell cI cJ cZ q_this q_m q_saved q_w q_savedWords q_isSaved q_text q_far q_queue q_parent q_by q_seen q_path q_row q_more q_stateOf v_textLength v_steps v_missing v_mores v_hash v_m v_w)) C0 w (c_Mo_isLetter hcall) hp hp' lm_RX10_90 mv_Mo_isLetter ⟨rfl, rfl⟩ ⟨by decide, by decide⟩ ⟨Nat.zero_le _, Nat.zero_le _⟩ (q0 := 0) rfl rfl rfl rfl hl rfl (Nat.le_of_ble_eq_true rfl) dX10_cell_24 (fun H locs w => ?_)
      refine lv_if_eq (tgt := 47) hx hb dX10_cell_27 (by decide) (fun hc => ?_) (fun hc => ?_)
      · have h := if_h hc h
        refine lv_bipush (v := (-2 : Int32)) hx hb dX10_cell_47 (by decide) ?_
        cases h
        exact hQ _ _ _ _ dX10_cell_49 rfl w
      · have h := nf_h hc h
        exact w_Mo_cell_J30 C0 hQ h w (lv_sub hl [0, 1, 2, 3] rfl)
theorem dX10_hypothesis_0 : decode cX10_hypothesis 0 = .ok (.iload_n 2, 1) := by decide +kernel
theorem dX10_hypothesis_1 : decode cX10_hypothesis 1 = .ok (.iconst 0, 1) := by decide +kernel
theorem dX10_hypothesis_2 : decode cX10_hypothesis 2 = .ok (.iconst 4, 1) := by decide +kernel
theorem dX10_hypothesis_3 : decode cX10_hypothesis 3 = .ok (.invokestatic 76, 3) := by decide +kernel
theorem dX10_hypothesis_6 : decode cX10_hypothesis 6 = .ok (.ifCond .eq 16, 3) := by decide +kernel
theorem dX10_hypothesis_9 : decode cX10_hypothesis 9 = .ok (.iload_n 2, 1) := by decide +kernel
theorem dX10_hypothesis_10 : decode cX10_hypothesis 10 = .ok (.iconst 3, 1) := by decide +kernel
theorem dX10_hypothesis_11 : decode cX10_hypothesis 11 = .ok (.if_icmp .ge 14, 3) := by decide +kernel
theorem dX10_hypothesis_14 : decode cX10_hypothesis 14 = .ok (.aload_n 0, 1) := by decide +kernel
theorem dX10_hypothesis_15 : decode cX10_hypothesis 15 = .ok (.iload_n 2, 1) := by decide +kernel
theorem dX10_hypothesis_16 : decode cX10_hypothesis 16 = .ok (.invokevirtual 90, 3) := by decide +kernel
theorem dX10_hypothesis_19 : decode cX10_hypothesis 19 = .ok (.ifCond .ne 6, 3) := by decide +kernel
theorem dX10_hypothesis_22 : decode cX10_hypothesis 22 = .ok (.bipush (-2), 2) := by decide +kernel
theorem dX10_hypothesis_24 : decode cX10_hypothesis 24 = .ok (.ireturn, 1) := by decide +kernel
theorem dX10_hypothesis_25 : decode cX10_hypothesis 25 = .ok (.aload_n 0, 1) := by decide +kernel
theorem dX10_hypothesis_26 : decode cX10_hypothesis 26 = .ok (.getfield 7, 3) := by decide +kernel
theorem dX10_hypothesis_29 : decode cX10_hypothesis 29 = .ok (.bipush 40, 2) := by decide +kernel
theorem dX10_hypothesis_31 : decode cX10_hypothesis 31 = .ok (.iaload, 1) := by decide +kernel
theorem dX10_hypothesis_32 : decode cX10_hypothesis 32 = .ok (.ifCond .ne 6, 3) := by decide +kernel
theorem dX10_hypothesis_35 : decode cX10_hypothesis 35 = .ok (.bipush (-3), 2) := by decide +kernel
theorem dX10_hypothesis_37 : decode cX10_hypothesis 37 = .ok (.ireturn, 1) := by decide +kernel
theorem dX10_hypothesis_38 : decode cX10_hypothesis 38 = .ok (.iload_n 1, 1) := by decide +kernel
theorem dX10_hypothesis_39 : decode cX10_hypothesis 39 = .ok (.iconst 0, 1) := by decide +kernel
theorem dX10_hypothesis_40 : decode cX10_hypothesis 40 = .ok (.aload_n 0, 1) := by decide +kernel
theorem dX10_hypothesis_41 : decode cX10_hypothesis 41 = .ok (.getfield 7, 3) := by decide +kernel
theorem dX10_hypothesis_44 : decode cX10_hypothesis 44 = .ok (.bipush 40, 2) := by decide +kernel
theorem dX10_hypothesis_46 : decode cX10_hypothesis 46 = .ok (.iaload, 1) := by decide +kernel
theorem dX10_hypothesis_47 : decode cX10_hypothesis 47 = .ok (.iconst 1, 1) := by decide +kernel
theorem dX10_hypothesis_48 : decode cX10_hypothesis 48 = .ok (.isub, 1) := by decide +kernel
theorem dX10_hypothesis_49 : decode cX10_hypothesis 49 = .ok (.invokestatic 76, 3) := by decide +kernel
theorem dX10_hypothesis_52 : decode cX10_hypothesis 52 = .ok (.ifCond .ne 5, 3) := by decide +kernel
theorem dX10_hypothesis_55 : decode cX10_hypothesis 55 = .ok (.iconst (-1), 1) := by decide +kernel
theorem dX10_hypothesis_56 : decode cX10_hypothesis 56 = .ok (.ireturn, 1) := by decide +kernel
theorem dX10_hypothesis_57 : decode cX10_hypothesis 57 = .ok (.iload_n 2, 1) := by decide +kernel
theorem dX10_hypothesis_58 : decode cX10_hypothesis 58 = .ok (.iconst 3, 1) := by decide +kernel
theorem dX10_hypothesis_59 : decode cX10_hypothesis 59 = .ok (.if_icmp .ge 20, 3) := by decide +kernel
theorem dX10_hypothesis_62 : decode cX10_hypothesis 62 = .ok (.aload_n 0, 1) := by decide +kernel
theorem dX10_hypothesis_63 : decode cX10_hypothesis 63 = .ok (.getfield 7, 3) := by decide +kernel
theorem dX10_hypothesis_66 : decode cX10_hypothesis 66 = .ok (.sipush 361, 3) := by decide +kernel
theorem dX10_hypothesis_69 : decode cX10_hypothesis 69 = .ok (.iconst 3, 1) := by decide +kernel
theorem dX10_hypothesis_70 : decode cX10_hypothesis 70 = .ok (.iload_n 1, 1) := by decide +kernel
theorem dX10_hypothesis_71 : decode cX10_hypothesis 71 = .ok (.imul, 1) := by decide +kernel
theorem dX10_hypothesis_72 : decode cX10_hypothesis 72 = .ok (.iadd, 1) := by decide +kernel
theorem dX10_hypothesis_73 : decode cX10_hypothesis 73 = .ok (.iload_n 2, 1) := by decide +kernel
theorem dX10_hypothesis_74 : decode cX10_hypothesis 74 = .ok (.iadd, 1) := by decide +kernel
theorem dX10_hypothesis_75 : decode cX10_hypothesis 75 = .ok (.iaload, 1) := by decide +kernel
theorem dX10_hypothesis_76 : decode cX10_hypothesis 76 = .ok (.goto 31, 3) := by decide +kernel
theorem dX10_hypothesis_79 : decode cX10_hypothesis 79 = .ok (.iload_n 2, 1) := by decide +kernel
theorem dX10_hypothesis_80 : decode cX10_hypothesis 80 = .ok (.iconst 3, 1) := by decide +kernel
theorem dX10_hypothesis_81 : decode cX10_hypothesis 81 = .ok (.if_icmp .ne 16, 3) := by decide +kernel
theorem dX10_hypothesis_84 : decode cX10_hypothesis 84 = .ok (.aload_n 0, 1) := by decide +kernel
theorem dX10_hypothesis_85 : decode cX10_hypothesis 85 = .ok (.getfield 7, 3) := by decide +kernel
theorem dX10_hypothesis_88 : decode cX10_hypothesis 88 = .ok (.sipush 481, 3) := by decide +kernel
theorem dX10_hypothesis_91 : decode cX10_hypothesis 91 = .ok (.iload_n 1, 1) := by decide +kernel
theorem dX10_hypothesis_92 : decode cX10_hypothesis 92 = .ok (.iadd, 1) := by decide +kernel
theorem dX10_hypothesis_93 : decode cX10_hypothesis 93 = .ok (.iaload, 1) := by decide +kernel
theorem dX10_hypothesis_94 : decode cX10_hypothesis 94 = .ok (.goto 13, 3) := by decide +kernel
theorem dX10_hypothesis_97 : decode cX10_hypothesis 97 = .ok (.aload_n 0, 1) := by decide +kernel
theorem dX10_hypothesis_98 : decode cX10_hypothesis 98 = .ok (.getfield 7, 3) := by decide +kernel
theorem dX10_hypothesis_101 : decode cX10_hypothesis 101 = .ok (.sipush 521, 3) := by decide +kernel
theorem dX10_hypothesis_104 : decode cX10_hypothesis 104 = .ok (.iload_n 1, 1) := by decide +kernel
theorem dX10_hypothesis_105 : decode cX10_hypothesis 105 = .ok (.iadd, 1) := by decide +kernel
theorem dX10_hypothesis_106 : decode cX10_hypothesis 106 = .ok (.iaload, 1) := by decide +kernel
theorem dX10_hypothesis_107 : decode cX10_hypothesis 107 = .ok (.ireturn, 1) := by decide +kernel
set_option maxRecDepth 100000 in
theorem w_Mo_hypothesis_J25 {p : Program} {l : Launch} {e : Env} {s : State} {m : MethodId} {args : Array Value} {below : List Frame} {meth : Method} {c : Code} {Q : State → Prop} {A : Nat → Prop} {D : va_G} {cI cJ cZ cO : ClassId} {q_this q_m q_saved q_w q_savedWords q_isSaved q_text q_far q_queue q_parent q_by q_seen q_path q_row q_more q_stateOf : Nat} {v_textLength : Int32} {v_steps : Int32} {v_missing : Int64} {v_mores : Int32} {v_hash : Int64} {v_m : (Nat → Int32)} {x : Int32} {x1 : Int32} {x2 : Int32} (C0 : Cx p s m args c A D cI cJ cZ cO cX10_hypothesis 3 RX10) (hQ : RtI p l e rm_Mo_hypothesis s m args below meth c Q A D cX10_hypothesis .int (ws_Mo_hypothesis cI cJ cZ q_this q_m q_saved q_w q_savedWords q_isSaved q_text q_far q_queue q_parent q_by q_seen q_path q_row q_more q_stateOf v_textLength v_steps v_missing v_mores v_hash v_m) x) {H : Heap} {locs : List Loc} {ls : Array Slot} (h : f_Mo_hypothesis_J25 x1 x2 v_m = some x) (w : Wd s A D (ws_Mo_hypothesis cI cJ cZ q_this q_m q_saved q_w q_savedWords q_isSaved q_text q_far q_queue q_parent q_by q_seen q_path q_row q_more q_stateOf v_textLength v_steps v_missing v_mores v_hash v_m) H locs) (hl : lv_has ls 3 [(0, .ref q_this), (1, .int x1), (2, .int x2)]) : W p l e rm_Mo_hypothesis s m args below meth c H locs 0 0 Q (F0 m 25 ls []) := by
  obtain ⟨hx, hb, hml, hown, hts, -, -⟩ := id C0
  unfold f_Mo_hypothesis_J25 at h
  refine lv_aload_n hx hb dX10_hypothesis_25 rfl (lv_at hl 0 rfl) ?_
  refine r_get C0 w 0 rfl kf_Mo 0 (by decide) lf_RX10_7 rfl dX10_hypothesis_26 ?_
  refine lv_bipush (v := (40 : Int32)) hx hb dX10_hypothesis_29 (by decide) ?_
  refine r_iald C0 w 1 rfl (k := 40) (by decide) (inl (by decide)) dX10_hypothesis_31 ?_
  refine lv_if_ne (tgt := 38) hx hb dX10_hypothesis_32 (by decide) (fun hc => ?_) (fun hc => ?_)
  · have h := nf_h hc h
    refine lv_iload_n hx hb dX10_hypothesis_38 rfl (lv_at hl 1 rfl) ?_
    refine lv_iconst (v := (0 : Int32)) hx hb dX10_hypothesis_39 (by decide) ?_
    refine lv_aload_n hx hb dX10_hypothesis_40 rfl (lv_at hl 0 rfl) ?_
    refine r_get C0 w 0 rfl kf_Mo 0 (by decide) lf_RX10_7 rfl dX10_hypothesis_41 ?_
    refine lv_bipush (v := (40 : Int32)) hx hb dX10_hypothesis_44 (by decide) ?_
    refine r_iald C0 w 1 rfl (k := 40) (by decide) (inl (by decide)) dX10_hypothesis_46 ?_
    refine lv_iconst (v := (1 : Int32)) hx hb dX10_hypothesis_47 (by decide) ?_
    refine lv_isub hx hb dX10_hypothesis_48 ?_
    obtain ⟨r, hcall, h⟩ := bd1_h h
    obtain ⟨wr, hp, hp'⟩ := rd_of (ws := (ws_Mo_hypothesis cI cJ cZ q_this q_m q_saved q_w q_savedWords q_isSaved q_text q_far q_queue q_parent q_by q_seen q_path q_row q_more q_stateOf v_textLength v_steps v_missing v_mores v_hash v_m)) (wc := (ws_Mo_in cI cJ cZ)) [] rfl rfl
    refine r_SI (r := r) (As := [.int x1, .int (0 : Int32), .int ((v_m 40) - (1 : Int32))]) (rest := []) (wc' := (ws_Mo_in cI cJ cZ)) (ws' := (ws_Mo_hypothesis cI cJ cZ q_this q_m q_saved q_w q_savedWords q_isSaved q_text q_far q_queue q_parent q_by q_seen q_path q_row q_more q_stateOf v_textLength v_steps v_missing v_mores v_hash v_m)) C0 w (c_Mo_in hcall) hp hp' lm_RX10_76 ms_Mo_in ⟨rfl, rfl⟩ ⟨by decide, by decide⟩ ⟨Nat.zero_le _, Nat.zero_le _⟩ rfl hl rfl (Nat.le_of_ble_eq_true rfl) dX10_hypothesis_49 (fun H locs w => ?_)
    refine lv_if_ne (tgt := 57) hx hb dX10_hypothesis_52 (by decide) (fun hc => ?_) (fun hc => ?_)
    · have h := nf_h hc h
      refine lv_iload_n hx hb dX10_hypothesis_57 rfl (lv_at hl 2 rfl) ?_
      refine lv_iconst (v := (3 : Int32)) hx hb dX10_hypothesis_58 (by decide) ?_
      refine lv_icmp_ge (tgt := 79) hx hb dX10_hypothesis_59 (by decide) (fun hc => ?_) (fun hc => ?_)
      · have h := if_h hc h
        refine lv_iload_n hx hb dX10_hypothesis_79 rfl (lv_at hl 2 rfl) ?_
        refine lv_iconst (v := (3 : Int32)) hx hb dX10_hypothesis_80 (by decide) ?_
        refine lv_icmp_ne (tgt := 97) hx hb dX10_hypothesis_81 (by decide) (fun hc => ?_) (fun hc => ?_)
        · have h := nf_h hc h
          refine lv_aload_n hx hb dX10_hypothesis_97 rfl (lv_at hl 0 rfl) ?_
          refine r_get C0 w 0 rfl kf_Mo 0 (by decide) lf_RX10_7 rfl dX10_hypothesis_98 ?_
          refine lv_sipush (v := (521 : Int32)) hx hb dX10_hypothesis_101 (by decide) ?_
          refine lv_iload_n hx hb dX10_hypothesis_104 rfl (lv_at hl 1 rfl) ?_
          refine lv_iadd hx hb dX10_hypothesis_105 ?_
          obtain ⟨hi, h⟩ := gIn_h h
          refine r_iald C0 w 1 rfl rfl hi dX10_hypothesis_106 ?_
          cases h
          exact hQ _ _ _ _ dX10_hypothesis_107 rfl w
        · have h := if_h hc h
          refine lv_aload_n hx hb dX10_hypothesis_84 rfl (lv_at hl 0 rfl) ?_
          refine r_get C0 w 0 rfl kf_Mo 0 (by decide) lf_RX10_7 rfl dX10_hypothesis_85 ?_
          refine lv_sipush (v := (481 : Int32)) hx hb dX10_hypothesis_88 (by decide) ?_
          refine lv_iload_n hx hb dX10_hypothesis_91 rfl (lv_at hl 1 rfl) ?_
          refine lv_iadd hx hb dX10_hypothesis_92 ?_
          obtain ⟨hi, h⟩ := gIn_h h
          refine r_iald C0 w 1 rfl rfl hi dX10_hypothesis_93 ?_
          refine lv_goto (tgt := 107) hx hb dX10_hypothesis_94 (by decide) ?_
          cases h
          exact hQ _ _ _ _ dX10_hypothesis_107 rfl w
      · have h := nf_h hc h
        refine lv_aload_n hx hb dX10_hypothesis_62 rfl (lv_at hl 0 rfl) ?_
        refine r_get C0 w 0 rfl kf_Mo 0 (by decide) lf_RX10_7 rfl dX10_hypothesis_63 ?_
        refine lv_sipush (v := (361 : Int32)) hx hb dX10_hypothesis_66 (by decide) ?_
        refine lv_iconst (v := (3 : Int32)) hx hb dX10_hypothesis_69 (by decide) ?_
        refine lv_iload_n hx hb dX10_hypothesis_70 rfl (lv_at hl 1 rfl) ?_
        refine lv_imul hx hb dX10_hypothesis_71 ?_
        refine lv_iadd hx hb dX10_hypothesis_72 ?_
        refine lv_iload_n hx hb dX10_hypothesis_73 rfl (lv_at hl 2 rfl) ?_
        refine lv_iadd hx hb dX10_hypothesis_74 ?_
        obtain ⟨hi, h⟩ := gIn_h h
        refine r_iald C0 w 1 rfl rfl hi dX10_hypothesis_75 ?_
        refine lv_goto (tgt := 107) hx hb dX10_hypothesis_76 (by decide) ?_
        cases h
        exact hQ _ _ _ _ dX10_hypothesis_107 rfl w
    · have h := if_h hc h
      refine lv_iconst (v := (-1 : Int32)) hx hb dX10_hypothesis_55 (by decide) ?_
      cases h
      exact hQ _ _ _ _ dX10_hypothesis_56 rfl w
  · have h := if_h hc h
    refine lv_bipush (v := (-3 : Int32)) hx hb dX10_hypothesis_35 (by decide) ?_
    cases h
    exact hQ _ _ _ _ dX10_hypothesis_37 rfl w
set_option maxRecDepth 100000 in
theorem c_Mo_hypothesis {l : Launch} {D : va_G} {cI cJ cZ cO : ClassId} {q_this q_m q_saved q_w q_savedWords q_isSaved q_text q_far q_queue q_parent q_by q_seen q_path q_row q_more q_stateOf : Nat} {x1 : Int32} {x2 : Int32} {v_textLength : Int32} {v_steps : Int32} {v_missing : Int64} {v_mores : Int32} {v_hash : Int64} {v_m : (Nat → Int32)} {x : Int32} (h : f_Mo_hypothesis x1 x2 v_m = some x) : ctI l D cI cJ cZ cO yX10_hypothesis cX10_hypothesis 3 .int rm_Mo_hypothesis [.ref q_this, .int x1, .int x2] (ws_Mo_hypothesis cI cJ cZ q_this q_m q_saved q_w q_savedWords q_isSaved q_text q_far q_queue q_parent q_by q_seen q_path q_row q_more q_stateOf v_textLength v_steps v_missing v_mores v_hash v_m) (ws_Mo_hypothesis cI cJ cZ q_this q_m q_saved q_w q_savedWords q_isSaved q_text q_far q_queue q_parent q_by q_seen q_path q_row q_more q_stateOf v_textLength v_steps v_missing v_mores v_hash v_m) x := by
  refine ctI_of (by decide) (Nat.le_of_ble_eq_true rfl) ?_
  intro p e s m below meth c Q A ls C0 hQ w hl
  have hl : lv_has ls 3 [(0, .ref q_this), (1, .int x1), (2, .int x2)] := hl
  generalize List.toArray (α := Value) [.ref q_this, .int x1, .int x2] = args at C0 hQ ⊢
  obtain ⟨hx, hb, hml, hown, hts, -, -⟩ := id C0
  unfold f_Mo_hypothesis at h
  refine lv_iload_n hx hb dX10_hypothesis_0 rfl (lv_at hl 2 rfl) ?_
  refine lv_iconst (v := (0 : Int32)) hx hb dX10_hypothesis_1 (by decide) ?_
  refine lv_iconst (v := (4 : Int32)) hx hb dX10_hypothesis_2 (by decide) ?_
  obtain ⟨r, hcall, h⟩ := bd1_h h
  obtain ⟨wr, hp, hp'⟩ := rd_of (ws := (ws_Mo_hypothesis cI cJ cZ q_this q_m q_saved q_w q_savedWords q_isSaved q_text q_far q_queue q_parent q_by q_seen q_path q_row q_more q_stateOf v_textLength v_steps v_missing v_mores v_hash v_m)) (wc := (ws_Mo_in cI cJ cZ)) [] rfl rfl
  refine r_SI (r := r) (As := [.int x2, .int (0 : Int32), .int (4 : Int32)]) (rest := []) (wc' := (ws_Mo_in cI cJ cZ)) (ws' := (ws_Mo_hypothesis cI cJ cZ q_this q_m q_saved q_w q_savedWords q_isSaved q_text q_far q_queue q_parent q_by q_seen q_path q_row q_more q_stateOf v_textLength v_steps v_missing v_mores v_hash v_m)) C0 w (c_Mo_in hcall) hp hp' lm_RX10_76 ms_Mo_in ⟨rfl, rfl⟩ ⟨by decide, by decide⟩ ⟨Nat.zero_le _, Nat.zero_le _⟩ rfl hl rfl (Nat.le_of_ble_eq_true rfl) dX10_hypothesis_3 (fun H locs w => ?_)
  refine lv_if_eq (tgt := 22) hx hb dX10_hypothesis_6 (by decide) (fun hc => ?_) (fun hc => ?_)
  · have h := if_h hc h
    refine lv_bipush (v := (-2 : Int32)) hx hb dX10_hypothesis_22 (by decide) ?_
    cases h
    exact hQ _ _ _ _ dX10_hypothesis_24 rfl w
  · have h := nf_h hc h
    refine lv_iload_n hx hb dX10_hypothesis_9 rfl (lv_at hl 2 rfl) ?_
    refine lv_iconst (v := (3 : Int32)) hx hb dX10_hypothesis_10 (by decide) ?_
    refine lv_icmp_ge (tgt := 25) hx hb dX10_hypothesis_11 (by decide) (fun hc => ?_) (fun hc => ?_)
    · have h := if_h hc h
      exact w_Mo_hypothesis_J25 C0 hQ h w (lv_sub hl [0, 1, 2] rfl)
    · have h := nf_h hc h
      refine lv_aload_n hx hb dX10_hypothesis_14 rfl (lv_at hl 0 rfl) ?_
      refine lv_iload_n hx hb dX10_hypothesis_15 rfl (lv_at hl 2 rfl) ?_
      obtain ⟨r_1, hcall, h⟩ := bd1_h h
      obtain ⟨wr, hp, hp'⟩ := rd_of (ws := (ws_Mo_hypothesis cI cJ cZ q_this q_m q_saved q_w q_savedWords q_isSaved q_text q_far q_queue q_parent q_by q_seen q_path q_row q_more q_stateOf v_textLength v_steps v_missing v_mores v_hash v_m)) (wc := (ws_Mo_isLetter cI cJ cZ q_this q_m q_saved q_w q_savedWords q_isSaved q_text q_far q_queue q_parent q_by q_seen q_path q_row q_more q_stateOf v_textLength v_steps v_missing v_mores v_hash v_m)) [0, 1] rfl rfl
      refine r_VI (r := r_1) (As := [.int x2]) (rest := []) (wc' := (ws_Mo_isLetter cI cJ cZ q_this q_m q_saved q_w q_savedWords q_isSaved q_text q_far q_queue q_parent q_by q_seen q_path q_row q_more q_stateOf v_textLength v_steps v_missing v_mores v_hash v_m)) (ws' := (ws_Mo_hypothesis cI cJ cZ q_this q_m q_saved q_w q_savedWords q_isSaved q_text q_far q_queue q_parent q_by q_seen q_path q_row q_more q_stateOf v_textLength v_steps v_missing v_mores v_hash v_m)) C0 w (c_Mo_isLetter hcall) hp hp' lm_RX10_90 mv_Mo_isLetter ⟨rfl, rfl⟩ ⟨by decide, by decide⟩ ⟨Nat.zero_le _, Nat.zero_le _⟩ (q0 := 0) rfl rfl rfl rfl hl rfl (Nat.le_of_ble_eq_true rfl) dX10_hypothesis_16 (fun H locs w => ?_)
      refine lv_if_ne (tgt := 25) hx hb dX10_hypothesis_19 (by decide) (fun hc => ?_) (fun hc => ?_)
      · have h := nf_h hc h
        exact w_Mo_hypothesis_J25 C0 hQ h w (lv_sub hl [0, 1, 2] rfl)
      · have h := if_h hc h
        refine lv_bipush (v := (-2 : Int32)) hx hb dX10_hypothesis_22 (by decide) ?_
        cases h
        exact hQ _ _ _ _ dX10_hypothesis_24 rfl w
theorem dX10_guess_0 : decode cX10_guess 0 = .ok (.aload_n 0, 1) := by decide +kernel
theorem dX10_guess_1 : decode cX10_guess 1 = .ok (.invokevirtual 97, 3) := by decide +kernel
theorem dX10_guess_4 : decode cX10_guess 4 = .ok (.lstore_n 1, 1) := by decide +kernel
theorem dX10_guess_5 : decode cX10_guess 5 = .ok (.lload_n 1, 1) := by decide +kernel
theorem dX10_guess_6 : decode cX10_guess 6 = .ok (.lconst 0, 1) := by decide +kernel
theorem dX10_guess_7 : decode cX10_guess 7 = .ok (.lcmp, 1) := by decide +kernel
theorem dX10_guess_8 : decode cX10_guess 8 = .ok (.ifCond .ge 6, 3) := by decide +kernel
theorem dX10_guess_11 : decode cX10_guess 11 = .ok (.bipush (-2), 2) := by decide +kernel
theorem dX10_guess_13 : decode cX10_guess 13 = .ok (.ireturn, 1) := by decide +kernel
theorem dX10_guess_14 : decode cX10_guess 14 = .ok (.aload_n 0, 1) := by decide +kernel
theorem dX10_guess_15 : decode cX10_guess 15 = .ok (.getfield 7, 3) := by decide +kernel
theorem dX10_guess_18 : decode cX10_guess 18 = .ok (.bipush 40, 2) := by decide +kernel
theorem dX10_guess_20 : decode cX10_guess 20 = .ok (.iaload, 1) := by decide +kernel
theorem dX10_guess_21 : decode cX10_guess 21 = .ok (.ifCond .ne 6, 3) := by decide +kernel
theorem dX10_guess_24 : decode cX10_guess 24 = .ok (.bipush (-3), 2) := by decide +kernel
theorem dX10_guess_26 : decode cX10_guess 26 = .ok (.ireturn, 1) := by decide +kernel
theorem dX10_guess_27 : decode cX10_guess 27 = .ok (.iconst 0, 1) := by decide +kernel
theorem dX10_guess_28 : decode cX10_guess 28 = .ok (.istore_n 3, 1) := by decide +kernel
theorem dX10_guess_29 : decode cX10_guess 29 = .ok (.iconst 0, 1) := by decide +kernel
theorem dX10_guess_30 : decode cX10_guess 30 = .ok (.istore 4, 2) := by decide +kernel
theorem dX10_guess_32 : decode cX10_guess 32 = .ok (.iload 4, 2) := by decide +kernel
theorem dX10_guess_34 : decode cX10_guess 34 = .ok (.aload_n 0, 1) := by decide +kernel
theorem dX10_guess_35 : decode cX10_guess 35 = .ok (.getfield 72, 3) := by decide +kernel
theorem dX10_guess_38 : decode cX10_guess 38 = .ok (.if_icmp .ge 29, 3) := by decide +kernel
theorem dX10_guess_41 : decode cX10_guess 41 = .ok (.aload_n 0, 1) := by decide +kernel
theorem dX10_guess_42 : decode cX10_guess 42 = .ok (.getfield 7, 3) := by decide +kernel
theorem dX10_guess_45 : decode cX10_guess 45 = .ok (.sipush 361, 3) := by decide +kernel
theorem dX10_guess_48 : decode cX10_guess 48 = .ok (.iconst 3, 1) := by decide +kernel
theorem dX10_guess_49 : decode cX10_guess 49 = .ok (.iload_n 3, 1) := by decide +kernel
theorem dX10_guess_50 : decode cX10_guess 50 = .ok (.imul, 1) := by decide +kernel
theorem dX10_guess_51 : decode cX10_guess 51 = .ok (.iadd, 1) := by decide +kernel
theorem dX10_guess_52 : decode cX10_guess 52 = .ok (.lload_n 1, 1) := by decide +kernel
theorem dX10_guess_53 : decode cX10_guess 53 = .ok (.iload 4, 2) := by decide +kernel
theorem dX10_guess_55 : decode cX10_guess 55 = .ok (.invokestatic 68, 3) := by decide +kernel
theorem dX10_guess_58 : decode cX10_guess 58 = .ok (.iadd, 1) := by decide +kernel
theorem dX10_guess_59 : decode cX10_guess 59 = .ok (.iaload, 1) := by decide +kernel
theorem dX10_guess_60 : decode cX10_guess 60 = .ok (.istore_n 3, 1) := by decide +kernel
theorem dX10_guess_61 : decode cX10_guess 61 = .ok (.iinc 4 1, 3) := by decide +kernel
theorem dX10_guess_64 : decode cX10_guess 64 = .ok (.goto (-32), 3) := by decide +kernel
theorem dX10_guess_67 : decode cX10_guess 67 = .ok (.aload_n 0, 1) := by decide +kernel
theorem dX10_guess_68 : decode cX10_guess 68 = .ok (.getfield 7, 3) := by decide +kernel
theorem dX10_guess_71 : decode cX10_guess 71 = .ok (.sipush 481, 3) := by decide +kernel
theorem dX10_guess_74 : decode cX10_guess 74 = .ok (.iload_n 3, 1) := by decide +kernel
theorem dX10_guess_75 : decode cX10_guess 75 = .ok (.iadd, 1) := by decide +kernel
theorem dX10_guess_76 : decode cX10_guess 76 = .ok (.iaload, 1) := by decide +kernel
theorem dX10_guess_77 : decode cX10_guess 77 = .ok (.ireturn, 1) := by decide +kernel
set_option maxRecDepth 100000 in
theorem w_Mo_guess_L32 {p : Program} {l : Launch} {e : Env} {s : State} {m : MethodId} {args : Array Value} {below : List Frame} {meth : Method} {c : Code} {Q : State → Prop} {A : Nat → Prop} {D : va_G} {cI cJ cZ cO : ClassId} {q_this q_m q_saved q_w q_savedWords q_isSaved q_text q_far q_queue q_parent q_by q_seen q_path q_row q_more q_stateOf : Nat} {v_textLength : Int32} {v_steps : Int32} {v_missing : Int64} {v_mores : Int32} {v_hash : Int64} {v_m : (Nat → Int32)} {v_text : (Nat → Int32)} {x1 : Int64} {x : Int32} (C0 : Cx p s m args c A D cI cJ cZ cO cX10_guess 5 RX10) (hQ : RtI p l e rm_Mo_guess s m args below meth c Q A D cX10_guess .int (ws_Mo_guess cI cJ cZ q_this q_m q_saved q_w q_savedWords q_isSaved q_text q_far q_queue q_parent q_by q_seen q_path q_row q_more q_stateOf v_textLength v_steps v_missing v_mores v_hash v_m v_text) x) {K : Int32 → Int32 → Option (Int32)} (hK : ∀ (x3 : Int32) (x4 : Int32) (H : Heap) (locs : List Loc) (ls : Array Slot), K x3 x4 = some x → Wd s A D (ws_Mo_guess cI cJ cZ q_this q_m q_saved q_w q_savedWords q_isSaved q_text q_far q_queue q_parent q_by q_seen q_path q_row q_more q_stateOf v_textLength v_steps v_missing v_mores v_hash v_m v_text) H locs → lv_has ls 5 [(0, .ref q_this), (3, .int x3)] → W p l e rm_Mo_guess s m args below meth c H locs 0 0 Q (F0 m 67 ls [])) {rec : Int32 → Int32 → Option (Int32)} (hrec : ∀ (x3 : Int32) (x4 : Int32) (H : Heap) (locs : List Loc) (ls : Array Slot), rec x3 x4 = some x → Wd s A D (ws_Mo_guess cI cJ cZ q_this q_m q_saved q_w q_savedWords q_isSaved q_text q_far q_queue q_parent q_by q_seen q_path q_row q_more q_stateOf v_textLength v_steps v_missing v_mores v_hash v_m v_text) H locs → lv_has ls 5 [(0, .ref q_this), (1, .long x1), (3, .int x3), (4, .int x4)] → W p l e rm_Mo_guess s m args below meth c H locs 0 0 Q (F0 m 32 ls [])) (x3 : Int32) (x4 : Int32) {H : Heap} {locs : List Loc} {ls : Array Slot} (h : f_Mo_guess_L32 v_textLength v_m x1 K rec x3 x4 = some x) (w : Wd s A D (ws_Mo_guess cI cJ cZ q_this q_m q_saved q_w q_savedWords q_isSaved q_text q_far q_queue q_parent q_by q_seen q_path q_row q_more q_stateOf v_textLength v_steps v_missing v_mores v_hash v_m v_text) H locs) (hl : lv_has ls 5 [(0, .ref q_this), (1, .long x1), (3, .int x3), (4, .int x4)]) : W p l e rm_Mo_guess s m args below meth c H locs 0 0 Q (F0 m 32 ls []) := by
  obtain ⟨hx, hb, hml, hown, hts, -, -⟩ := id C0
  unfold f_Mo_guess_L32 at h
  refine lv_iload hx hb dX10_guess_32 (lv_at hl 3 rfl) ?_
  refine lv_aload_n hx hb dX10_guess_34 rfl (lv_at hl 0 rfl) ?_
  refine r_get C0 w 0 rfl kf_Mo 6 (by decide) lf_RX10_72 rfl dX10_guess_35 ?_
  refine lv_icmp_ge (tgt := 67) hx hb dX10_guess_38 (by decide) (fun hc => ?_) (fun hc => ?_)
  · have h := if_h hc h
    exact hK _ _ _ _ _ h w (lv_sub hl [0, 2] rfl)
  · have h := nf_h hc h
    refine lv_aload_n hx hb dX10_guess_41 rfl (lv_at hl 0 rfl) ?_
    refine r_get C0 w 0 rfl kf_Mo 0 (by decide) lf_RX10_7 rfl dX10_guess_42 ?_
    refine lv_sipush (v := (361 : Int32)) hx hb dX10_guess_45 (by decide) ?_
    refine lv_iconst (v := (3 : Int32)) hx hb dX10_guess_48 (by decide) ?_
    refine lv_iload_n hx hb dX10_guess_49 rfl (lv_at hl 2 rfl) ?_
    refine lv_imul hx hb dX10_guess_50 ?_
    refine lv_iadd hx hb dX10_guess_51 ?_
    refine lv_lload_n hx hb dX10_guess_52 rfl (lv_at hl 1 rfl) ?_
    refine lv_iload hx hb dX10_guess_53 (lv_at hl 3 rfl) ?_
    obtain ⟨r, hcall, h⟩ := bd1_h h
    obtain ⟨wr, hp, hp'⟩ := rd_of (ws := (ws_Mo_guess cI cJ cZ q_this q_m q_saved q_w q_savedWords q_isSaved q_text q_far q_queue q_parent q_by q_seen q_path q_row q_more q_stateOf v_textLength v_steps v_missing v_mores v_hash v_m v_text)) (wc := (ws_Mo_letterOf cI cJ cZ)) [] rfl rfl
    refine r_SI (r := r) (As := [.long x1, .int x4]) (rest := [.int ((361 : Int32) + ((3 : Int32) * x3)), .ref q_m]) (wc' := (ws_Mo_letterOf cI cJ cZ)) (ws' := (ws_Mo_guess cI cJ cZ q_this q_m q_saved q_w q_savedWords q_isSaved q_text q_far q_queue q_parent q_by q_seen q_path q_row q_more q_stateOf v_textLength v_steps v_missing v_mores v_hash v_m v_text)) C0 w (c_Mo_letterOf hcall) hp hp' lm_RX10_68 ms_Mo_letterOf ⟨rfl, rfl⟩ ⟨by decide, by decide⟩ ⟨Nat.zero_le _, Nat.zero_le _⟩ rfl hl rfl (Nat.le_of_ble_eq_true rfl) dX10_guess_55 (fun H locs w => ?_)
    refine lv_iadd hx hb dX10_guess_58 ?_
    obtain ⟨hi, h⟩ := gIn_h h
    refine r_iald C0 w 1 rfl rfl hi dX10_guess_59 ?_
    refine lv_topi (fun x3_1 ex3_1 => ?_)
    have h := bnd_at ex3_1 h
    refine lv_istore_n (lv' := [(3, .int x3_1), (0, .ref q_this), (1, .long x1), (4, .int x4)]) hx hb dX10_guess_60 rfl hl (by decide) rfl (fun ls hl => ?_)
    obtain ⟨x4_1, ex4_1⟩ : ∃ y : Int32, y = (x4 + 1) := ⟨_, rfl⟩
    have h := bnd_at ex4_1 h
    refine lv_iinc (v := x4_1) (lv' := [(4, .int x4_1), (3, .int x3_1), (0, .ref q_this), (1, .long x1)]) hx hb dX10_guess_61 hl (k := 3) rfl (by rw [ex4_1]; rfl) (by decide) rfl (fun ls hl => ?_)
    refine lv_goto (tgt := 32) hx hb dX10_guess_64 (by decide) ?_
    exact hrec _ _ _ _ _ h w (lv_sub hl [2, 3, 1, 0] rfl)
set_option maxRecDepth 100000 in
theorem wl_Mo_guess_L32 {p : Program} {l : Launch} {e : Env} {s : State} {m : MethodId} {args : Array Value} {below : List Frame} {meth : Method} {c : Code} {Q : State → Prop} {A : Nat → Prop} {D : va_G} {cI cJ cZ cO : ClassId} {q_this q_m q_saved q_w q_savedWords q_isSaved q_text q_far q_queue q_parent q_by q_seen q_path q_row q_more q_stateOf : Nat} {v_textLength : Int32} {v_steps : Int32} {v_missing : Int64} {v_mores : Int32} {v_hash : Int64} {v_m : (Nat → Int32)} {v_text : (Nat → Int32)} {x1 : Int64} {x : Int32} (C0 : Cx p s m args c A D cI cJ cZ cO cX10_guess 5 RX10) (hQ : RtI p l e rm_Mo_guess s m args below meth c Q A D cX10_guess .int (ws_Mo_guess cI cJ cZ q_this q_m q_saved q_w q_savedWords q_isSaved q_text q_far q_queue q_parent q_by q_seen q_path q_row q_more q_stateOf v_textLength v_steps v_missing v_mores v_hash v_m v_text) x) {K : Int32 → Int32 → Option (Int32)} (hK : ∀ (x3 : Int32) (x4 : Int32) (H : Heap) (locs : List Loc) (ls : Array Slot), K x3 x4 = some x → Wd s A D (ws_Mo_guess cI cJ cZ q_this q_m q_saved q_w q_savedWords q_isSaved q_text q_far q_queue q_parent q_by q_seen q_path q_row q_more q_stateOf v_textLength v_steps v_missing v_mores v_hash v_m v_text) H locs → lv_has ls 5 [(0, .ref q_this), (3, .int x3)] → W p l e rm_Mo_guess s m args below meth c H locs 0 0 Q (F0 m 67 ls [])) : ∀ (n : Nat) (x3 : Int32) (x4 : Int32) (H : Heap) (locs : List Loc) (ls : Array Slot), itr (fun _ _ => none) (f_Mo_guess_L32 v_textLength v_m x1 K) n x3 x4 = some x → Wd s A D (ws_Mo_guess cI cJ cZ q_this q_m q_saved q_w q_savedWords q_isSaved q_text q_far q_queue q_parent q_by q_seen q_path q_row q_more q_stateOf v_textLength v_steps v_missing v_mores v_hash v_m v_text) H locs → lv_has ls 5 [(0, .ref q_this), (1, .long x1), (3, .int x3), (4, .int x4)] → W p l e rm_Mo_guess s m args below meth c H locs 0 0 Q (F0 m 32 ls []) := by
  intro n
  induction n with
  | zero => intro _ _ _ _ _ h; cases (show none = some _ from h)
  | succ n ih => intro _ _ _ _ _ h w hl; exact w_Mo_guess_L32 C0 hQ hK ih _ _ h w hl
set_option maxRecDepth 100000 in
theorem c_Mo_guess {l : Launch} {D : va_G} {cI cJ cZ cO : ClassId} {q_this q_m q_saved q_w q_savedWords q_isSaved q_text q_far q_queue q_parent q_by q_seen q_path q_row q_more q_stateOf : Nat} {v_textLength : Int32} {v_steps : Int32} {v_missing : Int64} {v_mores : Int32} {v_hash : Int64} {v_m : (Nat → Int32)} {v_text : (Nat → Int32)} {x : Int32} (h : f_Mo_guess v_textLength v_m v_text = some x) : ctI l D cI cJ cZ cO yX10_guess cX10_guess 5 .int rm_Mo_guess [.ref q_this] (ws_Mo_guess cI cJ cZ q_this q_m q_saved q_w q_savedWords q_isSaved q_text q_far q_queue q_parent q_by q_seen q_path q_row q_more q_stateOf v_textLength v_steps v_missing v_mores v_hash v_m v_text) (ws_Mo_guess cI cJ cZ q_this q_m q_saved q_w q_savedWords q_isSaved q_text q_far q_queue q_parent q_by q_seen q_path q_row q_more q_stateOf v_textLength v_steps v_missing v_mores v_hash v_m v_text) x := by
  refine ctI_of (by decide) (Nat.le_of_ble_eq_true rfl) ?_
  intro p e s m below meth c Q A ls C0 hQ w hl
  have hl : lv_has ls 5 [(0, .ref q_this)] := hl
  generalize List.toArray (α := Value) [.ref q_this] = args at C0 hQ ⊢
  obtain ⟨hx, hb, hml, hown, hts, -, -⟩ := id C0
  unfold f_Mo_guess at h
  refine lv_aload_n hx hb dX10_guess_0 rfl (lv_at hl 0 rfl) ?_
  obtain ⟨r, hcall, h⟩ := bd1_h h
  obtain ⟨wr, hp, hp'⟩ := rd_of (ws := (ws_Mo_guess cI cJ cZ q_this q_m q_saved q_w q_savedWords q_isSaved q_text q_far q_queue q_parent q_by q_seen q_path q_row q_more q_stateOf v_textLength v_steps v_missing v_mores v_hash v_m v_text)) (wc := (ws_Mo_told cI cJ cZ q_this q_m q_saved q_w q_savedWords q_isSaved q_text q_far q_queue q_parent q_by q_seen q_path q_row q_more q_stateOf v_textLength v_steps v_missing v_mores v_hash v_m v_text)) [0, 1, 2] rfl rfl
  refine r_VJ (r := r) (As := []) (rest := []) (wc' := (ws_Mo_told cI cJ cZ q_this q_m q_saved q_w q_savedWords q_isSaved q_text q_far q_queue q_parent q_by q_seen q_path q_row q_more q_stateOf v_textLength v_steps v_missing v_mores v_hash v_m v_text)) (ws' := (ws_Mo_guess cI cJ cZ q_this q_m q_saved q_w q_savedWords q_isSaved q_text q_far q_queue q_parent q_by q_seen q_path q_row q_more q_stateOf v_textLength v_steps v_missing v_mores v_hash v_m v_text)) C0 w (c_Mo_told hcall) hp hp' lm_RX10_97 mv_Mo_told ⟨rfl, rfl⟩ ⟨by decide, by decide⟩ ⟨Nat.zero_le _, Nat.zero_le _⟩ (q0 := 0) rfl rfl rfl rfl hl rfl (Nat.le_of_ble_eq_true rfl) dX10_guess_1 (fun H locs w => ?_)
  refine lv_lstore_n (lv' := [(1, .long r), (0, .ref q_this)]) hx hb dX10_guess_4 rfl hl (by decide) rfl (fun ls hl => ?_)
  refine lv_lload_n hx hb dX10_guess_5 rfl (lv_at hl 0 rfl) ?_
  refine lv_lconst (v := (0 : Int64)) hx hb dX10_guess_6 (by decide) ?_
  refine r_lc_ge (tgt := 14) hx hb dX10_guess_7 dX10_guess_8 (by decide) (fun hc => ?_) (fun hc => ?_)
  · have h := nf_h hc h
    refine lv_aload_n hx hb dX10_guess_14 rfl (lv_at hl 1 rfl) ?_
    refine r_get C0 w 0 rfl kf_Mo 0 (by decide) lf_RX10_7 rfl dX10_guess_15 ?_
    refine lv_bipush (v := (40 : Int32)) hx hb dX10_guess_18 (by decide) ?_
    refine r_iald C0 w 1 rfl (k := 40) (by decide) (inl (by decide)) dX10_guess_20 ?_
    refine lv_if_ne (tgt := 27) hx hb dX10_guess_21 (by decide) (fun hc => ?_) (fun hc => ?_)
    · have h := nf_h hc h
      refine lv_iconst (v := (0 : Int32)) hx hb dX10_guess_27 (by decide) ?_
      refine lv_istore_n (lv' := [(3, .int (0 : Int32)), (1, .long r), (0, .ref q_this)]) hx hb dX10_guess_28 rfl hl (by decide) rfl (fun ls hl => ?_)
      refine lv_iconst (v := (0 : Int32)) hx hb dX10_guess_29 (by decide) ?_
      refine lv_istore (lv' := [(4, .int (0 : Int32)), (3, .int (0 : Int32)), (1, .long r), (0, .ref q_this)]) hx hb dX10_guess_30 hl (by decide) rfl (fun ls hl => ?_)
      refine wl_Mo_guess_L32 C0 hQ (fun x3 x4 H locs ls h w hl => ?_) _ _ _ _ _ _ h w (lv_sub hl [3, 2, 1, 0] rfl)
      refine lv_aload_n hx hb dX10_guess_67 rfl (lv_at hl 0 rfl) ?_
      refine r_get C0 w 0 rfl kf_Mo 0 (by decide) lf_RX10_7 rfl dX10_guess_68 ?_
      refine lv_sipush (v := (481 : Int32)) hx hb dX10_guess_71 (by decide) ?_
      refine lv_iload_n hx hb dX10_guess_74 rfl (lv_at hl 1 rfl) ?_
      refine lv_iadd hx hb dX10_guess_75 ?_
      obtain ⟨hi, h⟩ := gIn_h h
      refine r_iald C0 w 1 rfl rfl hi dX10_guess_76 ?_
      cases h
      exact hQ _ _ _ _ dX10_guess_77 rfl w
    · have h := if_h hc h
      refine lv_bipush (v := (-3 : Int32)) hx hb dX10_guess_24 (by decide) ?_
      cases h
      exact hQ _ _ _ _ dX10_guess_26 rfl w
  · have h := if_h hc h
    refine lv_bipush (v := (-2 : Int32)) hx hb dX10_guess_11 (by decide) ?_
    cases h
    exact hQ _ _ _ _ dX10_guess_13 rfl w
theorem dX10_difference_0 : decode cX10_difference 0 = .ok (.iload_n 1, 1) := by decide +kernel
theorem dX10_difference_1 : decode cX10_difference 1 = .ok (.iconst (-1), 1) := by decide +kernel
theorem dX10_difference_2 : decode cX10_difference 2 = .ok (.if_icmp .ge 6, 3) := by decide +kernel
theorem dX10_difference_5 : decode cX10_difference 5 = .ok (.bipush (-2), 2) := by decide +kernel
theorem dX10_difference_7 : decode cX10_difference 7 = .ok (.ireturn, 1) := by decide +kernel
theorem dX10_difference_8 : decode cX10_difference 8 = .ok (.aload_n 0, 1) := by decide +kernel
theorem dX10_difference_9 : decode cX10_difference 9 = .ok (.getfield 7, 3) := by decide +kernel
theorem dX10_difference_12 : decode cX10_difference 12 = .ok (.bipush 40, 2) := by decide +kernel
theorem dX10_difference_14 : decode cX10_difference 14 = .ok (.iaload, 1) := by decide +kernel
theorem dX10_difference_15 : decode cX10_difference 15 = .ok (.ifCond .ne 6, 3) := by decide +kernel
theorem dX10_difference_18 : decode cX10_difference 18 = .ok (.bipush (-3), 2) := by decide +kernel
theorem dX10_difference_20 : decode cX10_difference 20 = .ok (.ireturn, 1) := by decide +kernel
theorem dX10_difference_21 : decode cX10_difference 21 = .ok (.aload_n 0, 1) := by decide +kernel
theorem dX10_difference_22 : decode cX10_difference 22 = .ok (.iconst 0, 1) := by decide +kernel
theorem dX10_difference_23 : decode cX10_difference 23 = .ok (.iconst 0, 1) := by decide +kernel
theorem dX10_difference_24 : decode cX10_difference 24 = .ok (.iconst 1, 1) := by decide +kernel
theorem dX10_difference_25 : decode cX10_difference 25 = .ok (.invokevirtual 113, 3) := by decide +kernel
theorem dX10_difference_28 : decode cX10_difference 28 = .ok (.ifCond .eq 11, 3) := by decide +kernel
theorem dX10_difference_31 : decode cX10_difference 31 = .ok (.aload_n 0, 1) := by decide +kernel
theorem dX10_difference_32 : decode cX10_difference 32 = .ok (.iload_n 1, 1) := by decide +kernel
theorem dX10_difference_33 : decode cX10_difference 33 = .ok (.invokevirtual 117, 3) := by decide +kernel
theorem dX10_difference_36 : decode cX10_difference 36 = .ok (.goto 4, 3) := by decide +kernel
theorem dX10_difference_39 : decode cX10_difference 39 = .ok (.iconst (-1), 1) := by decide +kernel
theorem dX10_difference_40 : decode cX10_difference 40 = .ok (.ireturn, 1) := by decide +kernel
set_option maxRecDepth 100000 in
theorem c_Mo_difference {l : Launch} {D : va_G} {cI cJ cZ cO : ClassId} {q_this q_m q_saved q_w q_savedWords q_isSaved q_text q_far q_queue q_parent q_by q_seen q_path q_row q_more q_stateOf : Nat} {x1 : Int32} {v_textLength : Int32} {v_steps : Int32} {v_missing : Int64} {v_mores : Int32} {v_hash : Int64} {v_m : (Nat → Int32)} {v_queue : (Nat → Int32)} {v_parent : (Nat → Int32)} {v_by : (Nat → Int32)} {v_seen : (Nat → Int32)} {v_path : (Nat → Int32)} {x : Int32 × (Nat → Int32) × (Nat → Int32) × (Nat → Int32) × (Nat → Int32) × (Nat → Int32) × Int32} (h : f_Mo_difference x1 v_steps v_m v_queue v_parent v_by v_seen v_path = some x) : ctI l D cI cJ cZ cO yX10_difference cX10_difference 2 .int rm_Mo_difference [.ref q_this, .int x1] (ws_Mo_difference cI cJ cZ q_this q_m q_saved q_w q_savedWords q_isSaved q_text q_far q_queue q_parent q_by q_seen q_path q_row q_more q_stateOf v_textLength v_steps v_missing v_mores v_hash v_m v_queue v_parent v_by v_seen v_path) (ws_Mo_difference cI cJ cZ q_this q_m q_saved q_w q_savedWords q_isSaved q_text q_far q_queue q_parent q_by q_seen q_path q_row q_more q_stateOf v_textLength x.2.2.2.2.2.2 v_missing v_mores v_hash v_m x.2.1 x.2.2.1 x.2.2.2.1 x.2.2.2.2.1 x.2.2.2.2.2.1) x.1 := by
  refine ctI_of (by decide) (Nat.le_of_ble_eq_true rfl) ?_
  intro p e s m below meth c Q A ls C0 hQ w hl
  have hl : lv_has ls 2 [(0, .ref q_this), (1, .int x1)] := hl
  generalize List.toArray (α := Value) [.ref q_this, .int x1] = args at C0 hQ ⊢
  obtain ⟨hx, hb, hml, hown, hts, -, -⟩ := id C0
  unfold f_Mo_difference at h
  refine lv_iload_n hx hb dX10_difference_0 rfl (lv_at hl 1 rfl) ?_
  refine lv_iconst (v := (-1 : Int32)) hx hb dX10_difference_1 (by decide) ?_
  refine lv_icmp_ge (tgt := 8) hx hb dX10_difference_2 (by decide) (fun hc => ?_) (fun hc => ?_)
  · have h := if_h hc h
    refine lv_aload_n hx hb dX10_difference_8 rfl (lv_at hl 0 rfl) ?_
    refine r_get C0 w 0 rfl kf_Mo 0 (by decide) lf_RX10_7 rfl dX10_difference_9 ?_
    refine lv_bipush (v := (40 : Int32)) hx hb dX10_difference_12 (by decide) ?_
    refine r_iald C0 w 1 rfl (k := 40) (by decide) (inl (by decide)) dX10_difference_14 ?_
    refine lv_if_ne (tgt := 21) hx hb dX10_difference_15 (by decide) (fun hc => ?_) (fun hc => ?_)
    · have h := nf_h hc h
      refine lv_aload_n hx hb dX10_difference_21 rfl (lv_at hl 0 rfl) ?_
      refine lv_iconst (v := (0 : Int32)) hx hb dX10_difference_22 (by decide) ?_
      refine lv_iconst (v := (0 : Int32)) hx hb dX10_difference_23 (by decide) ?_
      refine lv_iconst (v := (1 : Int32)) hx hb dX10_difference_24 (by decide) ?_
      obtain ⟨r, v_queue_1, v_parent_1, v_by_1, v_seen_1, v_path_1, v_steps_1, hcall, h⟩ := bd7_h h
      have hp := sp_of (ws := (ws_Mo_difference cI cJ cZ q_this q_m q_saved q_w q_savedWords q_isSaved q_text q_far q_queue q_parent q_by q_seen q_path q_row q_more q_stateOf v_textLength v_steps v_missing v_mores v_hash v_m v_queue v_parent v_by v_seen v_path)) (wc := (ws_Mo_parts cI cJ cZ q_this q_m q_saved q_w q_savedWords q_isSaved q_text q_far q_queue q_parent q_by q_seen q_path q_row q_more q_stateOf v_textLength v_steps v_missing v_mores v_hash v_m v_queue v_parent v_by v_seen v_path)) [0, 1, 2, 3, 4, 5, 6] [] rfl rfl
      have hp' : Rp (pk (ws_Mo_difference cI cJ cZ q_this q_m q_saved q_w q_savedWords q_isSaved q_text q_far q_queue q_parent q_by q_seen q_path q_row q_more q_stateOf v_textLength v_steps v_missing v_mores v_hash v_m v_queue v_parent v_by v_seen v_path) [] ++ (ws_Mo_parts cI cJ cZ q_this q_m q_saved q_w q_savedWords q_isSaved q_text q_far q_queue q_parent q_by q_seen q_path q_row q_more q_stateOf v_textLength v_steps_1 v_missing v_mores v_hash v_m v_queue_1 v_parent_1 v_by_1 v_seen_1 v_path_1)) (ws_Mo_difference cI cJ cZ q_this q_m q_saved q_w q_savedWords q_isSaved q_text q_far q_queue q_parent q_by q_seen q_path q_row q_more q_stateOf v_textLength v_steps_1 v_missing v_mores v_hash v_m v_queue_1 v_parent_1 v_by_1 v_seen_1 v_path_1) := ⟨[0, 1, 2, 3, 4, 5, 6], rfl, rfl⟩
      refine r_VI (r := r) (As := [.int (0 : Int32), .int (0 : Int32), .int (1 : Int32)]) (rest := []) (wc' := (ws_Mo_parts cI cJ cZ q_this q_m q_saved q_w q_savedWords q_isSaved q_text q_far q_queue q_parent q_by q_seen q_path q_row q_more q_stateOf v_textLength v_steps_1 v_missing v_mores v_hash v_m v_queue_1 v_parent_1 v_by_1 v_seen_1 v_path_1)) (ws' := (ws_Mo_difference cI cJ cZ q_this q_m q_saved q_w q_savedWords q_isSaved q_text q_far q_queue q_parent q_by q_seen q_path q_row q_more q_stateOf v_textLength v_steps_1 v_missing v_mores v_hash v_m v_queue_1 v_parent_1 v_by_1 v_seen_1 v_path_1)) C0 w (c_Mo_parts hcall) hp hp' lm_RX10_113 mv_Mo_parts ⟨rfl, rfl⟩ ⟨by decide, by decide⟩ ⟨Nat.zero_le _, Nat.zero_le _⟩ (q0 := 0) rfl rfl rfl rfl hl rfl (Nat.le_of_ble_eq_true rfl) dX10_difference_25 (fun H locs w => ?_)
      refine lv_if_eq (tgt := 39) hx hb dX10_difference_28 (by decide) (fun hc => ?_) (fun hc => ?_)
      · have h := if_h hc h
        refine lv_iconst (v := (-1 : Int32)) hx hb dX10_difference_39 (by decide) ?_
        cases h
        exact hQ _ _ _ _ dX10_difference_40 rfl w
      · have h := nf_h hc h
        refine lv_aload_n hx hb dX10_difference_31 rfl (lv_at hl 0 rfl) ?_
        refine lv_iload_n hx hb dX10_difference_32 rfl (lv_at hl 1 rfl) ?_
        obtain ⟨r_1, hcall, h⟩ := bd1_h h
        obtain ⟨wr, hp, hp'⟩ := rd_of (ws := (ws_Mo_difference cI cJ cZ q_this q_m q_saved q_w q_savedWords q_isSaved q_text q_far q_queue q_parent q_by q_seen q_path q_row q_more q_stateOf v_textLength v_steps_1 v_missing v_mores v_hash v_m v_queue_1 v_parent_1 v_by_1 v_seen_1 v_path_1)) (wc := (ws_Mo_pathPart cI cJ cZ q_this q_m q_saved q_w q_savedWords q_isSaved q_text q_far q_queue q_parent q_by q_seen q_path q_row q_more q_stateOf v_textLength v_steps_1 v_missing v_mores v_hash v_path_1)) [0, 6] rfl rfl
        refine r_VI (r := r_1) (As := [.int x1]) (rest := []) (wc' := (ws_Mo_pathPart cI cJ cZ q_this q_m q_saved q_w q_savedWords q_isSaved q_text q_far q_queue q_parent q_by q_seen q_path q_row q_more q_stateOf v_textLength v_steps_1 v_missing v_mores v_hash v_path_1)) (ws' := (ws_Mo_difference cI cJ cZ q_this q_m q_saved q_w q_savedWords q_isSaved q_text q_far q_queue q_parent q_by q_seen q_path q_row q_more q_stateOf v_textLength v_steps_1 v_missing v_mores v_hash v_m v_queue_1 v_parent_1 v_by_1 v_seen_1 v_path_1)) C0 w (c_Mo_pathPart hcall) hp hp' lm_RX10_117 mv_Mo_pathPart ⟨rfl, rfl⟩ ⟨by decide, by decide⟩ ⟨Nat.zero_le _, Nat.zero_le _⟩ (q0 := 0) rfl rfl rfl rfl hl rfl (Nat.le_of_ble_eq_true rfl) dX10_difference_33 (fun H locs w => ?_)
        refine lv_goto (tgt := 40) hx hb dX10_difference_36 (by decide) ?_
        cases h
        exact hQ _ _ _ _ dX10_difference_40 rfl w
    · have h := if_h hc h
      refine lv_bipush (v := (-3 : Int32)) hx hb dX10_difference_18 (by decide) ?_
      cases h
      exact hQ _ _ _ _ dX10_difference_20 rfl w
  · have h := nf_h hc h
    refine lv_bipush (v := (-2 : Int32)) hx hb dX10_difference_5 (by decide) ?_
    cases h
    exact hQ _ _ _ _ dX10_difference_7 rfl w
theorem dX10_counterexample_0 : decode cX10_counterexample 0 = .ok (.iload_n 1, 1) := by decide +kernel
theorem dX10_counterexample_1 : decode cX10_counterexample 1 = .ok (.iconst (-1), 1) := by decide +kernel
theorem dX10_counterexample_2 : decode cX10_counterexample 2 = .ok (.if_icmp .ge 6, 3) := by decide +kernel
theorem dX10_counterexample_5 : decode cX10_counterexample 5 = .ok (.bipush (-2), 2) := by decide +kernel
theorem dX10_counterexample_7 : decode cX10_counterexample 7 = .ok (.ireturn, 1) := by decide +kernel
theorem dX10_counterexample_8 : decode cX10_counterexample 8 = .ok (.aload_n 0, 1) := by decide +kernel
theorem dX10_counterexample_9 : decode cX10_counterexample 9 = .ok (.getfield 7, 3) := by decide +kernel
theorem dX10_counterexample_12 : decode cX10_counterexample 12 = .ok (.bipush 44, 2) := by decide +kernel
theorem dX10_counterexample_14 : decode cX10_counterexample 14 = .ok (.iaload, 1) := by decide +kernel
theorem dX10_counterexample_15 : decode cX10_counterexample 15 = .ok (.iconst (-1), 1) := by decide +kernel
theorem dX10_counterexample_16 : decode cX10_counterexample 16 = .ok (.if_icmp .ne 6, 3) := by decide +kernel
theorem dX10_counterexample_19 : decode cX10_counterexample 19 = .ok (.bipush (-3), 2) := by decide +kernel
theorem dX10_counterexample_21 : decode cX10_counterexample 21 = .ok (.ireturn, 1) := by decide +kernel
theorem dX10_counterexample_22 : decode cX10_counterexample 22 = .ok (.iload_n 1, 1) := by decide +kernel
theorem dX10_counterexample_23 : decode cX10_counterexample 23 = .ok (.iconst (-1), 1) := by decide +kernel
theorem dX10_counterexample_24 : decode cX10_counterexample 24 = .ok (.if_icmp .ne 13, 3) := by decide +kernel
theorem dX10_counterexample_27 : decode cX10_counterexample 27 = .ok (.aload_n 0, 1) := by decide +kernel
theorem dX10_counterexample_28 : decode cX10_counterexample 28 = .ok (.getfield 7, 3) := by decide +kernel
theorem dX10_counterexample_31 : decode cX10_counterexample 31 = .ok (.bipush 44, 2) := by decide +kernel
theorem dX10_counterexample_33 : decode cX10_counterexample 33 = .ok (.iaload, 1) := by decide +kernel
theorem dX10_counterexample_34 : decode cX10_counterexample 34 = .ok (.goto 28, 3) := by decide +kernel
theorem dX10_counterexample_37 : decode cX10_counterexample 37 = .ok (.iload_n 1, 1) := by decide +kernel
theorem dX10_counterexample_38 : decode cX10_counterexample 38 = .ok (.aload_n 0, 1) := by decide +kernel
theorem dX10_counterexample_39 : decode cX10_counterexample 39 = .ok (.getfield 7, 3) := by decide +kernel
theorem dX10_counterexample_42 : decode cX10_counterexample 42 = .ok (.bipush 44, 2) := by decide +kernel
theorem dX10_counterexample_44 : decode cX10_counterexample 44 = .ok (.iaload, 1) := by decide +kernel
theorem dX10_counterexample_45 : decode cX10_counterexample 45 = .ok (.if_icmp .ge 16, 3) := by decide +kernel
theorem dX10_counterexample_48 : decode cX10_counterexample 48 = .ok (.aload_n 0, 1) := by decide +kernel
theorem dX10_counterexample_49 : decode cX10_counterexample 49 = .ok (.getfield 7, 3) := by decide +kernel
theorem dX10_counterexample_52 : decode cX10_counterexample 52 = .ok (.sipush 345, 3) := by decide +kernel
theorem dX10_counterexample_55 : decode cX10_counterexample 55 = .ok (.iload_n 1, 1) := by decide +kernel
theorem dX10_counterexample_56 : decode cX10_counterexample 56 = .ok (.iadd, 1) := by decide +kernel
theorem dX10_counterexample_57 : decode cX10_counterexample 57 = .ok (.iaload, 1) := by decide +kernel
theorem dX10_counterexample_58 : decode cX10_counterexample 58 = .ok (.goto 4, 3) := by decide +kernel
theorem dX10_counterexample_61 : decode cX10_counterexample 61 = .ok (.iconst (-1), 1) := by decide +kernel
theorem dX10_counterexample_62 : decode cX10_counterexample 62 = .ok (.ireturn, 1) := by decide +kernel
set_option maxRecDepth 100000 in
theorem c_Mo_counterexample {l : Launch} {D : va_G} {cI cJ cZ cO : ClassId} {q_this q_m q_saved q_w q_savedWords q_isSaved q_text q_far q_queue q_parent q_by q_seen q_path q_row q_more q_stateOf : Nat} {x1 : Int32} {v_textLength : Int32} {v_steps : Int32} {v_missing : Int64} {v_mores : Int32} {v_hash : Int64} {v_m : (Nat → Int32)} {x : Int32} (h : f_Mo_counterexample x1 v_m = some x) : ctI l D cI cJ cZ cO yX10_counterexample cX10_counterexample 2 .int rm_Mo_counterexample [.ref q_this, .int x1] (ws_Mo_counterexample cI cJ cZ q_this q_m q_saved q_w q_savedWords q_isSaved q_text q_far q_queue q_parent q_by q_seen q_path q_row q_more q_stateOf v_textLength v_steps v_missing v_mores v_hash v_m) (ws_Mo_counterexample cI cJ cZ q_this q_m q_saved q_w q_savedWords q_isSaved q_text q_far q_queue q_parent q_by q_seen q_path q_row q_more q_stateOf v_textLength v_steps v_missing v_mores v_hash v_m) x := by
  refine ctI_of (by decide) (Nat.le_of_ble_eq_true rfl) ?_
  intro p e s m below meth c Q A ls C0 hQ w hl
  have hl : lv_has ls 2 [(0, .ref q_this), (1, .int x1)] := hl
  generalize List.toArray (α := Value) [.ref q_this, .int x1] = args at C0 hQ ⊢
  obtain ⟨hx, hb, hml, hown, hts, -, -⟩ := id C0
  unfold f_Mo_counterexample at h
  refine lv_iload_n hx hb dX10_counterexample_0 rfl (lv_at hl 1 rfl) ?_
  refine lv_iconst (v := (-1 : Int32)) hx hb dX10_counterexample_1 (by decide) ?_
  refine lv_icmp_ge (tgt := 8) hx hb dX10_counterexample_2 (by decide) (fun hc => ?_) (fun hc => ?_)
  · have h := if_h hc h
    refine lv_aload_n hx hb dX10_counterexample_8 rfl (lv_at hl 0 rfl) ?_
    refine r_get C0 w 0 rfl kf_Mo 0 (by decide) lf_RX10_7 rfl dX10_counterexample_9 ?_
    refine lv_bipush (v := (44 : Int32)) hx hb dX10_counterexample_12 (by decide) ?_
    refine r_iald C0 w 1 rfl (k := 44) (by decide) (inl (by decide)) dX10_counterexample_14 ?_
    refine lv_iconst (v := (-1 : Int32)) hx hb dX10_counterexample_15 (by decide) ?_
    refine lv_icmp_ne (tgt := 22) hx hb dX10_counterexample_16 (by decide) (fun hc => ?_) (fun hc => ?_)
    · have h := nf_h hc h
      refine lv_iload_n hx hb dX10_counterexample_22 rfl (lv_at hl 1 rfl) ?_
      refine lv_iconst (v := (-1 : Int32)) hx hb dX10_counterexample_23 (by decide) ?_
      refine lv_icmp_ne (tgt := 37) hx hb dX10_counterexample_24 (by decide) (fun hc => ?_) (fun hc => ?_)
      · have h := nf_h hc h
        refine lv_iload_n hx hb dX10_counterexample_37 rfl (lv_at hl 1 rfl) ?_
        refine lv_aload_n hx hb dX10_counterexample_38 rfl (lv_at hl 0 rfl) ?_
        refine r_get C0 w 0 rfl kf_Mo 0 (by decide) lf_RX10_7 rfl dX10_counterexample_39 ?_
        refine lv_bipush (v := (44 : Int32)) hx hb dX10_counterexample_42 (by decide) ?_
        refine r_iald C0 w 1 rfl (k := 44) (by decide) (inl (by decide)) dX10_counterexample_44 ?_
        refine lv_icmp_ge (tgt := 61) hx hb dX10_counterexample_45 (by decide) (fun hc => ?_) (fun hc => ?_)
        · have h := if_h hc h
          refine lv_iconst (v := (-1 : Int32)) hx hb dX10_counterexample_61 (by decide) ?_
          cases h
          exact hQ _ _ _ _ dX10_counterexample_62 rfl w
        · have h := nf_h hc h
          refine lv_aload_n hx hb dX10_counterexample_48 rfl (lv_at hl 0 rfl) ?_
          refine r_get C0 w 0 rfl kf_Mo 0 (by decide) lf_RX10_7 rfl dX10_counterexample_49 ?_
          refine lv_sipush (v := (345 : Int32)) hx hb dX10_counterexample_52 (by decide) ?_
          refine lv_iload_n hx hb dX10_counterexample_55 rfl (lv_at hl 1 rfl) ?_
          refine lv_iadd hx hb dX10_counterexample_56 ?_
          obtain ⟨hi, h⟩ := gIn_h h
          refine r_iald C0 w 1 rfl rfl hi dX10_counterexample_57 ?_
          refine lv_goto (tgt := 62) hx hb dX10_counterexample_58 (by decide) ?_
          cases h
          exact hQ _ _ _ _ dX10_counterexample_62 rfl w
      · have h := if_h hc h
        refine lv_aload_n hx hb dX10_counterexample_27 rfl (lv_at hl 0 rfl) ?_
        refine r_get C0 w 0 rfl kf_Mo 0 (by decide) lf_RX10_7 rfl dX10_counterexample_28 ?_
        refine lv_bipush (v := (44 : Int32)) hx hb dX10_counterexample_31 (by decide) ?_
        refine r_iald C0 w 1 rfl (k := 44) (by decide) (inl (by decide)) dX10_counterexample_33 ?_
        refine lv_goto (tgt := 62) hx hb dX10_counterexample_34 (by decide) ?_
        cases h
        exact hQ _ _ _ _ dX10_counterexample_62 rfl w
    · have h := if_h hc h
      refine lv_bipush (v := (-3 : Int32)) hx hb dX10_counterexample_19 (by decide) ?_
      cases h
      exact hQ _ _ _ _ dX10_counterexample_21 rfl w
  · have h := nf_h hc h
    refine lv_bipush (v := (-2 : Int32)) hx hb dX10_counterexample_5 (by decide) ?_
    cases h
    exact hQ _ _ _ _ dX10_counterexample_7 rfl w
theorem dX10_save_0 : decode cX10_save 0 = .ok (.iload_n 1, 1) := by decide +kernel
theorem dX10_save_1 : decode cX10_save 1 = .ok (.iconst 0, 1) := by decide +kernel
theorem dX10_save_2 : decode cX10_save 2 = .ok (.iconst 1, 1) := by decide +kernel
theorem dX10_save_3 : decode cX10_save 3 = .ok (.invokestatic 76, 3) := by decide +kernel
theorem dX10_save_6 : decode cX10_save 6 = .ok (.ifCond .ne 6, 3) := by decide +kernel
theorem dX10_save_9 : decode cX10_save 9 = .ok (.bipush (-2), 2) := by decide +kernel
theorem dX10_save_11 : decode cX10_save 11 = .ok (.ireturn, 1) := by decide +kernel
theorem dX10_save_12 : decode cX10_save 12 = .ok (.iconst 0, 1) := by decide +kernel
theorem dX10_save_13 : decode cX10_save 13 = .ok (.istore_n 2, 1) := by decide +kernel
theorem dX10_save_14 : decode cX10_save 14 = .ok (.iload_n 2, 1) := by decide +kernel
theorem dX10_save_15 : decode cX10_save 15 = .ok (.sipush 561, 3) := by decide +kernel
theorem dX10_save_18 : decode cX10_save 18 = .ok (.if_icmp .ge 27, 3) := by decide +kernel
theorem dX10_save_21 : decode cX10_save 21 = .ok (.aload_n 0, 1) := by decide +kernel
theorem dX10_save_22 : decode cX10_save 22 = .ok (.getfield 13, 3) := by decide +kernel
theorem dX10_save_25 : decode cX10_save 25 = .ok (.sipush 561, 3) := by decide +kernel
theorem dX10_save_28 : decode cX10_save 28 = .ok (.iload_n 1, 1) := by decide +kernel
theorem dX10_save_29 : decode cX10_save 29 = .ok (.imul, 1) := by decide +kernel
theorem dX10_save_30 : decode cX10_save 30 = .ok (.iload_n 2, 1) := by decide +kernel
theorem dX10_save_31 : decode cX10_save 31 = .ok (.iadd, 1) := by decide +kernel
theorem dX10_save_32 : decode cX10_save 32 = .ok (.aload_n 0, 1) := by decide +kernel
theorem dX10_save_33 : decode cX10_save 33 = .ok (.getfield 7, 3) := by decide +kernel
theorem dX10_save_36 : decode cX10_save 36 = .ok (.iload_n 2, 1) := by decide +kernel
theorem dX10_save_37 : decode cX10_save 37 = .ok (.iaload, 1) := by decide +kernel
theorem dX10_save_38 : decode cX10_save 38 = .ok (.iastore, 1) := by decide +kernel
theorem dX10_save_39 : decode cX10_save 39 = .ok (.iinc 2 1, 3) := by decide +kernel
theorem dX10_save_42 : decode cX10_save 42 = .ok (.goto (-28), 3) := by decide +kernel
theorem dX10_save_45 : decode cX10_save 45 = .ok (.iconst 0, 1) := by decide +kernel
theorem dX10_save_46 : decode cX10_save 46 = .ok (.istore_n 2, 1) := by decide +kernel
theorem dX10_save_47 : decode cX10_save 47 = .ok (.iload_n 2, 1) := by decide +kernel
theorem dX10_save_48 : decode cX10_save 48 = .ok (.sipush 360, 3) := by decide +kernel
theorem dX10_save_51 : decode cX10_save 51 = .ok (.if_icmp .ge 27, 3) := by decide +kernel
theorem dX10_save_54 : decode cX10_save 54 = .ok (.aload_n 0, 1) := by decide +kernel
theorem dX10_save_55 : decode cX10_save 55 = .ok (.getfield 20, 3) := by decide +kernel
theorem dX10_save_58 : decode cX10_save 58 = .ok (.sipush 360, 3) := by decide +kernel
theorem dX10_save_61 : decode cX10_save 61 = .ok (.iload_n 1, 1) := by decide +kernel
theorem dX10_save_62 : decode cX10_save 62 = .ok (.imul, 1) := by decide +kernel
theorem dX10_save_63 : decode cX10_save 63 = .ok (.iload_n 2, 1) := by decide +kernel
theorem dX10_save_64 : decode cX10_save 64 = .ok (.iadd, 1) := by decide +kernel
theorem dX10_save_65 : decode cX10_save 65 = .ok (.aload_n 0, 1) := by decide +kernel
theorem dX10_save_66 : decode cX10_save 66 = .ok (.getfield 16, 3) := by decide +kernel
theorem dX10_save_69 : decode cX10_save 69 = .ok (.iload_n 2, 1) := by decide +kernel
theorem dX10_save_70 : decode cX10_save 70 = .ok (.laload, 1) := by decide +kernel
theorem dX10_save_71 : decode cX10_save 71 = .ok (.lastore, 1) := by decide +kernel
theorem dX10_save_72 : decode cX10_save 72 = .ok (.iinc 2 1, 3) := by decide +kernel
theorem dX10_save_75 : decode cX10_save 75 = .ok (.goto (-28), 3) := by decide +kernel
theorem dX10_save_78 : decode cX10_save 78 = .ok (.aload_n 0, 1) := by decide +kernel
theorem dX10_save_79 : decode cX10_save 79 = .ok (.getfield 23, 3) := by decide +kernel
theorem dX10_save_82 : decode cX10_save 82 = .ok (.iload_n 1, 1) := by decide +kernel
theorem dX10_save_83 : decode cX10_save 83 = .ok (.iconst 1, 1) := by decide +kernel
theorem dX10_save_84 : decode cX10_save 84 = .ok (.bastore, 1) := by decide +kernel
theorem dX10_save_85 : decode cX10_save 85 = .ok (.aload_n 0, 1) := by decide +kernel
theorem dX10_save_86 : decode cX10_save 86 = .ok (.getfield 7, 3) := by decide +kernel
theorem dX10_save_89 : decode cX10_save 89 = .ok (.bipush 37, 2) := by decide +kernel
theorem dX10_save_91 : decode cX10_save 91 = .ok (.iaload, 1) := by decide +kernel
theorem dX10_save_92 : decode cX10_save 92 = .ok (.ireturn, 1) := by decide +kernel
set_option maxRecDepth 100000 in
theorem w_Mo_save_L14 {p : Program} {l : Launch} {e : Env} {s : State} {m : MethodId} {args : Array Value} {below : List Frame} {meth : Method} {c : Code} {Q : State → Prop} {A : Nat → Prop} {D : va_G} {cI cJ cZ cO : ClassId} {q_this q_m q_saved q_w q_savedWords q_isSaved q_text q_far q_queue q_parent q_by q_seen q_path q_row q_more q_stateOf : Nat} {v_textLength : Int32} {v_steps : Int32} {v_missing : Int64} {v_mores : Int32} {v_hash : Int64} {v_m : (Nat → Int32)} {v_w : (Nat → Int64)} {v_savedWords : (Nat → Int64)} {v_isSaved : (Nat → Int32)} {x1 : Int32} {x : Int32 × (Nat → Int32) × (Nat → Int64) × (Nat → Int32)} (C0 : Cx p s m args c A D cI cJ cZ cO cX10_save 3 RX10) (hQ : RtI p l e rm_Mo_save s m args below meth c Q A D cX10_save .int (ws_Mo_save cI cJ cZ q_this q_m q_saved q_w q_savedWords q_isSaved q_text q_far q_queue q_parent q_by q_seen q_path q_row q_more q_stateOf v_textLength v_steps v_missing v_mores v_hash v_m x.2.1 v_w x.2.2.1 x.2.2.2) x.1) {K : Int32 → (Nat → Int32) → Option (Int32 × (Nat → Int32) × (Nat → Int64) × (Nat → Int32))} (hK : ∀ (x2 : Int32) (v_saved : (Nat → Int32)) (H : Heap) (locs : List Loc) (ls : Array Slot), K x2 v_saved = some x → Wd s A D (ws_Mo_save cI cJ cZ q_this q_m q_saved q_w q_savedWords q_isSaved q_text q_far q_queue q_parent q_by q_seen q_path q_row q_more q_stateOf v_textLength v_steps v_missing v_mores v_hash v_m v_saved v_w v_savedWords v_isSaved) H locs → lv_has ls 3 [(0, .ref q_this), (1, .int x1)] → W p l e rm_Mo_save s m args below meth c H locs 0 0 Q (F0 m 45 ls [])) {rec : Int32 → (Nat → Int32) → Option (Int32 × (Nat → Int32) × (Nat → Int64) × (Nat → Int32))} (hrec : ∀ (x2 : Int32) (v_saved : (Nat → Int32)) (H : Heap) (locs : List Loc) (ls : Array Slot), rec x2 v_saved = some x → Wd s A D (ws_Mo_save cI cJ cZ q_this q_m q_saved q_w q_savedWords q_isSaved q_text q_far q_queue q_parent q_by q_seen q_path q_row q_more q_stateOf v_textLength v_steps v_missing v_mores v_hash v_m v_saved v_w v_savedWords v_isSaved) H locs → lv_has ls 3 [(0, .ref q_this), (1, .int x1), (2, .int x2)] → W p l e rm_Mo_save s m args below meth c H locs 0 0 Q (F0 m 14 ls [])) (x2 : Int32) (v_saved : (Nat → Int32)) {H : Heap} {locs : List Loc} {ls : Array Slot} (h : f_Mo_save_L14 v_m x1 K rec x2 v_saved = some x) (w : Wd s A D (ws_Mo_save cI cJ cZ q_this q_m q_saved q_w q_savedWords q_isSaved q_text q_far q_queue q_parent q_by q_seen q_path q_row q_more q_stateOf v_textLength v_steps v_missing v_mores v_hash v_m v_saved v_w v_savedWords v_isSaved) H locs) (hl : lv_has ls 3 [(0, .ref q_this), (1, .int x1), (2, .int x2)]) : W p l e rm_Mo_save s m args below meth c H locs 0 0 Q (F0 m 14 ls []) := by
  obtain ⟨hx, hb, hml, hown, hts, -, -⟩ := id C0
  unfold f_Mo_save_L14 at h
  refine lv_iload_n hx hb dX10_save_14 rfl (lv_at hl 2 rfl) ?_
  refine lv_sipush (v := (561 : Int32)) hx hb dX10_save_15 (by decide) ?_
  refine lv_icmp_ge (tgt := 45) hx hb dX10_save_18 (by decide) (fun hc => ?_) (fun hc => ?_)
  · have h := if_h hc h
    exact hK _ _ _ _ _ h w (lv_sub hl [0, 1] rfl)
  · have h := nf_h hc h
    refine lv_aload_n hx hb dX10_save_21 rfl (lv_at hl 0 rfl) ?_
    refine r_get C0 w 0 rfl kf_Mo 1 (by decide) lf_RX10_13 rfl dX10_save_22 ?_
    refine lv_sipush (v := (561 : Int32)) hx hb dX10_save_25 (by decide) ?_
    refine lv_iload_n hx hb dX10_save_28 rfl (lv_at hl 1 rfl) ?_
    refine lv_imul hx hb dX10_save_29 ?_
    refine lv_iload_n hx hb dX10_save_30 rfl (lv_at hl 2 rfl) ?_
    refine lv_iadd hx hb dX10_save_31 ?_
    refine lv_aload_n hx hb dX10_save_32 rfl (lv_at hl 0 rfl) ?_
    refine r_get C0 w 0 rfl kf_Mo 0 (by decide) lf_RX10_7 rfl dX10_save_33 ?_
    refine lv_iload_n hx hb dX10_save_36 rfl (lv_at hl 2 rfl) ?_
    obtain ⟨hi, h⟩ := gIn_h h
    refine r_iald C0 w 1 rfl rfl hi dX10_save_37 ?_
    obtain ⟨hi, h⟩ := gIn_h h
    obtain ⟨v_saved_1, ev_saved_1⟩ : ∃ y, y = (upd v_saved (((561 : Int32) * x1) + x2).toNatClampNeg (v_m x2.toNatClampNeg)) := ⟨_, rfl⟩
    have h := bnd_at ev_saved_1 h
    refine r_iast C0 w 2 rfl (f' := v_saved_1) rfl hi ev_saved_1 dX10_save_38 (ws' := (ws_Mo_save cI cJ cZ q_this q_m q_saved q_w q_savedWords q_isSaved q_text q_far q_queue q_parent q_by q_seen q_path q_row q_more q_stateOf v_textLength v_steps v_missing v_mores v_hash v_m v_saved_1 v_w v_savedWords v_isSaved)) rfl (fun H locs w => ?_)
    obtain ⟨x2_1, ex2_1⟩ : ∃ y : Int32, y = (x2 + 1) := ⟨_, rfl⟩
    have h := bnd_at ex2_1 h
    refine lv_iinc (v := x2_1) (lv' := [(2, .int x2_1), (0, .ref q_this), (1, .int x1)]) hx hb dX10_save_39 hl (k := 2) rfl (by rw [ex2_1]; rfl) (by decide) rfl (fun ls hl => ?_)
    refine lv_goto (tgt := 14) hx hb dX10_save_42 (by decide) ?_
    exact hrec _ _ _ _ _ h w (lv_sub hl [1, 2, 0] rfl)
set_option maxRecDepth 100000 in
theorem wl_Mo_save_L14 {p : Program} {l : Launch} {e : Env} {s : State} {m : MethodId} {args : Array Value} {below : List Frame} {meth : Method} {c : Code} {Q : State → Prop} {A : Nat → Prop} {D : va_G} {cI cJ cZ cO : ClassId} {q_this q_m q_saved q_w q_savedWords q_isSaved q_text q_far q_queue q_parent q_by q_seen q_path q_row q_more q_stateOf : Nat} {v_textLength : Int32} {v_steps : Int32} {v_missing : Int64} {v_mores : Int32} {v_hash : Int64} {v_m : (Nat → Int32)} {v_w : (Nat → Int64)} {v_savedWords : (Nat → Int64)} {v_isSaved : (Nat → Int32)} {x1 : Int32} {x : Int32 × (Nat → Int32) × (Nat → Int64) × (Nat → Int32)} (C0 : Cx p s m args c A D cI cJ cZ cO cX10_save 3 RX10) (hQ : RtI p l e rm_Mo_save s m args below meth c Q A D cX10_save .int (ws_Mo_save cI cJ cZ q_this q_m q_saved q_w q_savedWords q_isSaved q_text q_far q_queue q_parent q_by q_seen q_path q_row q_more q_stateOf v_textLength v_steps v_missing v_mores v_hash v_m x.2.1 v_w x.2.2.1 x.2.2.2) x.1) {K : Int32 → (Nat → Int32) → Option (Int32 × (Nat → Int32) × (Nat → Int64) × (Nat → Int32))} (hK : ∀ (x2 : Int32) (v_saved : (Nat → Int32)) (H : Heap) (locs : List Loc) (ls : Array Slot), K x2 v_saved = some x → Wd s A D (ws_Mo_save cI cJ cZ q_this q_m q_saved q_w q_savedWords q_isSaved q_text q_far q_queue q_parent q_by q_seen q_path q_row q_more q_stateOf v_textLength v_steps v_missing v_mores v_hash v_m v_saved v_w v_savedWords v_isSaved) H locs → lv_has ls 3 [(0, .ref q_this), (1, .int x1)] → W p l e rm_Mo_save s m args below meth c H locs 0 0 Q (F0 m 45 ls [])) : ∀ (n : Nat) (x2 : Int32) (v_saved : (Nat → Int32)) (H : Heap) (locs : List Loc) (ls : Array Slot), itr (fun _ _ => none) (f_Mo_save_L14 v_m x1 K) n x2 v_saved = some x → Wd s A D (ws_Mo_save cI cJ cZ q_this q_m q_saved q_w q_savedWords q_isSaved q_text q_far q_queue q_parent q_by q_seen q_path q_row q_more q_stateOf v_textLength v_steps v_missing v_mores v_hash v_m v_saved v_w v_savedWords v_isSaved) H locs → lv_has ls 3 [(0, .ref q_this), (1, .int x1), (2, .int x2)] → W p l e rm_Mo_save s m args below meth c H locs 0 0 Q (F0 m 14 ls []) := by
  intro n
  induction n with
  | zero => intro _ _ _ _ _ h; cases (show none = some _ from h)
  | succ n ih => intro _ _ _ _ _ h w hl; exact w_Mo_save_L14 C0 hQ hK ih _ _ h w hl
set_option maxRecDepth 100000 in
theorem w_Mo_save_L47 {p : Program} {l : Launch} {e : Env} {s : State} {m : MethodId} {args : Array Value} {below : List Frame} {meth : Method} {c : Code} {Q : State → Prop} {A : Nat → Prop} {D : va_G} {cI cJ cZ cO : ClassId} {q_this q_m q_saved q_w q_savedWords q_isSaved q_text q_far q_queue q_parent q_by q_seen q_path q_row q_more q_stateOf : Nat} {v_textLength : Int32} {v_steps : Int32} {v_missing : Int64} {v_mores : Int32} {v_hash : Int64} {v_m : (Nat → Int32)} {v_saved : (Nat → Int32)} {v_w : (Nat → Int64)} {v_isSaved : (Nat → Int32)} {x1 : Int32} {x : Int32 × (Nat → Int32) × (Nat → Int64) × (Nat → Int32)} (C0 : Cx p s m args c A D cI cJ cZ cO cX10_save 3 RX10) (hQ : RtI p l e rm_Mo_save s m args below meth c Q A D cX10_save .int (ws_Mo_save cI cJ cZ q_this q_m q_saved q_w q_savedWords q_isSaved q_text q_far q_queue q_parent q_by q_seen q_path q_row q_more q_stateOf v_textLength v_steps v_missing v_mores v_hash v_m x.2.1 v_w x.2.2.1 x.2.2.2) x.1) {K : Int32 → (Nat → Int64) → Option (Int32 × (Nat → Int32) × (Nat → Int64) × (Nat → Int32))} (hK : ∀ (x2 : Int32) (v_savedWords : (Nat → Int64)) (H : Heap) (locs : List Loc) (ls : Array Slot), K x2 v_savedWords = some x → Wd s A D (ws_Mo_save cI cJ cZ q_this q_m q_saved q_w q_savedWords q_isSaved q_text q_far q_queue q_parent q_by q_seen q_path q_row q_more q_stateOf v_textLength v_steps v_missing v_mores v_hash v_m v_saved v_w v_savedWords v_isSaved) H locs → lv_has ls 3 [(0, .ref q_this), (1, .int x1)] → W p l e rm_Mo_save s m args below meth c H locs 0 0 Q (F0 m 78 ls [])) {rec : Int32 → (Nat → Int64) → Option (Int32 × (Nat → Int32) × (Nat → Int64) × (Nat → Int32))} (hrec : ∀ (x2 : Int32) (v_savedWords : (Nat → Int64)) (H : Heap) (locs : List Loc) (ls : Array Slot), rec x2 v_savedWords = some x → Wd s A D (ws_Mo_save cI cJ cZ q_this q_m q_saved q_w q_savedWords q_isSaved q_text q_far q_queue q_parent q_by q_seen q_path q_row q_more q_stateOf v_textLength v_steps v_missing v_mores v_hash v_m v_saved v_w v_savedWords v_isSaved) H locs → lv_has ls 3 [(0, .ref q_this), (1, .int x1), (2, .int x2)] → W p l e rm_Mo_save s m args below meth c H locs 0 0 Q (F0 m 47 ls [])) (x2 : Int32) (v_savedWords : (Nat → Int64)) {H : Heap} {locs : List Loc} {ls : Array Slot} (h : f_Mo_save_L47 v_w x1 K rec x2 v_savedWords = some x) (w : Wd s A D (ws_Mo_save cI cJ cZ q_this q_m q_saved q_w q_savedWords q_isSaved q_text q_far q_queue q_parent q_by q_seen q_path q_row q_more q_stateOf v_textLength v_steps v_missing v_mores v_hash v_m v_saved v_w v_savedWords v_isSaved) H locs) (hl : lv_has ls 3 [(0, .ref q_this), (1, .int x1), (2, .int x2)]) : W p l e rm_Mo_save s m args below meth c H locs 0 0 Q (F0 m 47 ls []) := by
  obtain ⟨hx, hb, hml, hown, hts, -, -⟩ := id C0
  unfold f_Mo_save_L47 at h
  refine lv_iload_n hx hb dX10_save_47 rfl (lv_at hl 2 rfl) ?_
  refine lv_sipush (v := (360 : Int32)) hx hb dX10_save_48 (by decide) ?_
  refine lv_icmp_ge (tgt := 78) hx hb dX10_save_51 (by decide) (fun hc => ?_) (fun hc => ?_)
  · have h := if_h hc h
    exact hK _ _ _ _ _ h w (lv_sub hl [0, 1] rfl)
  · have h := nf_h hc h
    refine lv_aload_n hx hb dX10_save_54 rfl (lv_at hl 0 rfl) ?_
    refine r_get C0 w 0 rfl kf_Mo 3 (by decide) lf_RX10_20 rfl dX10_save_55 ?_
    refine lv_sipush (v := (360 : Int32)) hx hb dX10_save_58 (by decide) ?_
    refine lv_iload_n hx hb dX10_save_61 rfl (lv_at hl 1 rfl) ?_
    refine lv_imul hx hb dX10_save_62 ?_
    refine lv_iload_n hx hb dX10_save_63 rfl (lv_at hl 2 rfl) ?_
    refine lv_iadd hx hb dX10_save_64 ?_
    refine lv_aload_n hx hb dX10_save_65 rfl (lv_at hl 0 rfl) ?_
    refine r_get C0 w 0 rfl kf_Mo 2 (by decide) lf_RX10_16 rfl dX10_save_66 ?_
    refine lv_iload_n hx hb dX10_save_69 rfl (lv_at hl 2 rfl) ?_
    obtain ⟨hi, h⟩ := gIn_h h
    refine r_lald C0 w 3 rfl rfl hi dX10_save_70 ?_
    obtain ⟨hi, h⟩ := gIn_h h
    obtain ⟨v_savedWords_1, ev_savedWords_1⟩ : ∃ y, y = (vp_updL v_savedWords (((360 : Int32) * x1) + x2).toNatClampNeg (v_w x2.toNatClampNeg)) := ⟨_, rfl⟩
    have h := bnd_at ev_savedWords_1 h
    refine r_last C0 w 4 rfl (f' := v_savedWords_1) rfl hi ev_savedWords_1 dX10_save_71 (ws' := (ws_Mo_save cI cJ cZ q_this q_m q_saved q_w q_savedWords q_isSaved q_text q_far q_queue q_parent q_by q_seen q_path q_row q_more q_stateOf v_textLength v_steps v_missing v_mores v_hash v_m v_saved v_w v_savedWords_1 v_isSaved)) rfl (fun H locs w => ?_)
    obtain ⟨x2_1, ex2_1⟩ : ∃ y : Int32, y = (x2 + 1) := ⟨_, rfl⟩
    have h := bnd_at ex2_1 h
    refine lv_iinc (v := x2_1) (lv' := [(2, .int x2_1), (0, .ref q_this), (1, .int x1)]) hx hb dX10_save_72 hl (k := 2) rfl (by rw [ex2_1]; rfl) (by decide) rfl (fun ls hl => ?_)
    refine lv_goto (tgt := 47) hx hb dX10_save_75 (by decide) ?_
    exact hrec _ _ _ _ _ h w (lv_sub hl [1, 2, 0] rfl)
set_option maxRecDepth 100000 in
theorem wl_Mo_save_L47 {p : Program} {l : Launch} {e : Env} {s : State} {m : MethodId} {args : Array Value} {below : List Frame} {meth : Method} {c : Code} {Q : State → Prop} {A : Nat → Prop} {D : va_G} {cI cJ cZ cO : ClassId} {q_this q_m q_saved q_w q_savedWords q_isSaved q_text q_far q_queue q_parent q_by q_seen q_path q_row q_more q_stateOf : Nat} {v_textLength : Int32} {v_steps : Int32} {v_missing : Int64} {v_mores : Int32} {v_hash : Int64} {v_m : (Nat → Int32)} {v_saved : (Nat → Int32)} {v_w : (Nat → Int64)} {v_isSaved : (Nat → Int32)} {x1 : Int32} {x : Int32 × (Nat → Int32) × (Nat → Int64) × (Nat → Int32)} (C0 : Cx p s m args c A D cI cJ cZ cO cX10_save 3 RX10) (hQ : RtI p l e rm_Mo_save s m args below meth c Q A D cX10_save .int (ws_Mo_save cI cJ cZ q_this q_m q_saved q_w q_savedWords q_isSaved q_text q_far q_queue q_parent q_by q_seen q_path q_row q_more q_stateOf v_textLength v_steps v_missing v_mores v_hash v_m x.2.1 v_w x.2.2.1 x.2.2.2) x.1) {K : Int32 → (Nat → Int64) → Option (Int32 × (Nat → Int32) × (Nat → Int64) × (Nat → Int32))} (hK : ∀ (x2 : Int32) (v_savedWords : (Nat → Int64)) (H : Heap) (locs : List Loc) (ls : Array Slot), K x2 v_savedWords = some x → Wd s A D (ws_Mo_save cI cJ cZ q_this q_m q_saved q_w q_savedWords q_isSaved q_text q_far q_queue q_parent q_by q_seen q_path q_row q_more q_stateOf v_textLength v_steps v_missing v_mores v_hash v_m v_saved v_w v_savedWords v_isSaved) H locs → lv_has ls 3 [(0, .ref q_this), (1, .int x1)] → W p l e rm_Mo_save s m args below meth c H locs 0 0 Q (F0 m 78 ls [])) : ∀ (n : Nat) (x2 : Int32) (v_savedWords : (Nat → Int64)) (H : Heap) (locs : List Loc) (ls : Array Slot), itr (fun _ _ => none) (f_Mo_save_L47 v_w x1 K) n x2 v_savedWords = some x → Wd s A D (ws_Mo_save cI cJ cZ q_this q_m q_saved q_w q_savedWords q_isSaved q_text q_far q_queue q_parent q_by q_seen q_path q_row q_more q_stateOf v_textLength v_steps v_missing v_mores v_hash v_m v_saved v_w v_savedWords v_isSaved) H locs → lv_has ls 3 [(0, .ref q_this), (1, .int x1), (2, .int x2)] → W p l e rm_Mo_save s m args below meth c H locs 0 0 Q (F0 m 47 ls []) := by
  intro n
  induction n with
  | zero => intro _ _ _ _ _ h; cases (show none = some _ from h)
  | succ n ih => intro _ _ _ _ _ h w hl; exact w_Mo_save_L47 C0 hQ hK ih _ _ h w hl
set_option maxRecDepth 100000 in
theorem c_Mo_save {l : Launch} {D : va_G} {cI cJ cZ cO : ClassId} {q_this q_m q_saved q_w q_savedWords q_isSaved q_text q_far q_queue q_parent q_by q_seen q_path q_row q_more q_stateOf : Nat} {x1 : Int32} {v_textLength : Int32} {v_steps : Int32} {v_missing : Int64} {v_mores : Int32} {v_hash : Int64} {v_m : (Nat → Int32)} {v_saved : (Nat → Int32)} {v_w : (Nat → Int64)} {v_savedWords : (Nat → Int64)} {v_isSaved : (Nat → Int32)} {x : Int32 × (Nat → Int32) × (Nat → Int64) × (Nat → Int32)} (h : f_Mo_save x1 v_m v_saved v_w v_savedWords v_isSaved = some x) : ctI l D cI cJ cZ cO yX10_save cX10_save 3 .int rm_Mo_save [.ref q_this, .int x1] (ws_Mo_save cI cJ cZ q_this q_m q_saved q_w q_savedWords q_isSaved q_text q_far q_queue q_parent q_by q_seen q_path q_row q_more q_stateOf v_textLength v_steps v_missing v_mores v_hash v_m v_saved v_w v_savedWords v_isSaved) (ws_Mo_save cI cJ cZ q_this q_m q_saved q_w q_savedWords q_isSaved q_text q_far q_queue q_parent q_by q_seen q_path q_row q_more q_stateOf v_textLength v_steps v_missing v_mores v_hash v_m x.2.1 v_w x.2.2.1 x.2.2.2) x.1 := by
  refine ctI_of (by decide) (Nat.le_of_ble_eq_true rfl) ?_
  intro p e s m below meth c Q A ls C0 hQ w hl
  have hl : lv_has ls 3 [(0, .ref q_this), (1, .int x1)] := hl
  generalize List.toArray (α := Value) [.ref q_this, .int x1] = args at C0 hQ ⊢
  obtain ⟨hx, hb, hml, hown, hts, -, -⟩ := id C0
  unfold f_Mo_save at h
  refine lv_iload_n hx hb dX10_save_0 rfl (lv_at hl 1 rfl) ?_
  refine lv_iconst (v := (0 : Int32)) hx hb dX10_save_1 (by decide) ?_
  refine lv_iconst (v := (1 : Int32)) hx hb dX10_save_2 (by decide) ?_
  obtain ⟨r, hcall, h⟩ := bd1_h h
  obtain ⟨wr, hp, hp'⟩ := rd_of (ws := (ws_Mo_save cI cJ cZ q_this q_m q_saved q_w q_savedWords q_isSaved q_text q_far q_queue q_parent q_by q_seen q_path q_row q_more q_stateOf v_textLength v_steps v_missing v_mores v_hash v_m v_saved v_w v_savedWords v_isSaved)) (wc := (ws_Mo_in cI cJ cZ)) [] rfl rfl
  refine r_SI (r := r) (As := [.int x1, .int (0 : Int32), .int (1 : Int32)]) (rest := []) (wc' := (ws_Mo_in cI cJ cZ)) (ws' := (ws_Mo_save cI cJ cZ q_this q_m q_saved q_w q_savedWords q_isSaved q_text q_far q_queue q_parent q_by q_seen q_path q_row q_more q_stateOf v_textLength v_steps v_missing v_mores v_hash v_m v_saved v_w v_savedWords v_isSaved)) C0 w (c_Mo_in hcall) hp hp' lm_RX10_76 ms_Mo_in ⟨rfl, rfl⟩ ⟨by decide, by decide⟩ ⟨Nat.zero_le _, Nat.zero_le _⟩ rfl hl rfl (Nat.le_of_ble_eq_true rfl) dX10_save_3 (fun H locs w => ?_)
  refine lv_if_ne (tgt := 12) hx hb dX10_save_6 (by decide) (fun hc => ?_) (fun hc => ?_)
  · have h := nf_h hc h
    refine lv_iconst (v := (0 : Int32)) hx hb dX10_save_12 (by decide) ?_
    refine lv_istore_n (lv' := [(2, .int (0 : Int32)), (0, .ref q_this), (1, .int x1)]) hx hb dX10_save_13 rfl hl (by decide) rfl (fun ls hl => ?_)
    refine wl_Mo_save_L14 C0 hQ (fun x2 v_saved_1 H locs ls h w hl => ?_) _ _ _ _ _ _ h w (lv_sub hl [1, 2, 0] rfl)
    refine lv_iconst (v := (0 : Int32)) hx hb dX10_save_45 (by decide) ?_
    refine lv_istore_n (lv' := [(2, .int (0 : Int32)), (0, .ref q_this), (1, .int x1)]) hx hb dX10_save_46 rfl hl (by decide) rfl (fun ls hl => ?_)
    refine wl_Mo_save_L47 C0 hQ (fun x2_1 v_savedWords_1 H locs ls h w hl => ?_) _ _ _ _ _ _ h w (lv_sub hl [1, 2, 0] rfl)
    refine lv_aload_n hx hb dX10_save_78 rfl (lv_at hl 0 rfl) ?_
    refine r_get C0 w 0 rfl kf_Mo 4 (by decide) lf_RX10_23 rfl dX10_save_79 ?_
    refine lv_iload_n hx hb dX10_save_82 rfl (lv_at hl 1 rfl) ?_
    refine lv_iconst (v := (1 : Int32)) hx hb dX10_save_83 (by decide) ?_
    obtain ⟨hi, h⟩ := gIn_h h
    obtain ⟨v_isSaved_1, ev_isSaved_1⟩ : ∃ y, y = (upd v_isSaved x1.toNatClampNeg (1 : Int32)) := ⟨_, rfl⟩
    have h := bnd_at ev_isSaved_1 h
    refine r_zast C0 w 5 rfl (f' := v_isSaved_1) rfl hi ev_isSaved_1 dX10_save_84 (ws' := (ws_Mo_save cI cJ cZ q_this q_m q_saved q_w q_savedWords q_isSaved q_text q_far q_queue q_parent q_by q_seen q_path q_row q_more q_stateOf v_textLength v_steps v_missing v_mores v_hash v_m v_saved_1 v_w v_savedWords_1 v_isSaved_1)) rfl (fun H locs w => ?_)
    refine lv_aload_n hx hb dX10_save_85 rfl (lv_at hl 0 rfl) ?_
    refine r_get C0 w 0 rfl kf_Mo 0 (by decide) lf_RX10_7 rfl dX10_save_86 ?_
    refine lv_bipush (v := (37 : Int32)) hx hb dX10_save_89 (by decide) ?_
    refine r_iald C0 w 1 rfl (k := 37) (by decide) (inl (by decide)) dX10_save_91 ?_
    cases h
    exact hQ _ _ _ _ dX10_save_92 rfl w
  · have h := if_h hc h
    refine lv_bipush (v := (-2 : Int32)) hx hb dX10_save_9 (by decide) ?_
    cases h
    exact hQ _ _ _ _ dX10_save_11 rfl w
theorem dX10_restore_0 : decode cX10_restore 0 = .ok (.iload_n 1, 1) := by decide +kernel
theorem dX10_restore_1 : decode cX10_restore 1 = .ok (.iconst 0, 1) := by decide +kernel
theorem dX10_restore_2 : decode cX10_restore 2 = .ok (.iconst 1, 1) := by decide +kernel
theorem dX10_restore_3 : decode cX10_restore 3 = .ok (.invokestatic 76, 3) := by decide +kernel
theorem dX10_restore_6 : decode cX10_restore 6 = .ok (.ifCond .ne 6, 3) := by decide +kernel
theorem dX10_restore_9 : decode cX10_restore 9 = .ok (.bipush (-2), 2) := by decide +kernel
theorem dX10_restore_11 : decode cX10_restore 11 = .ok (.ireturn, 1) := by decide +kernel
theorem dX10_restore_12 : decode cX10_restore 12 = .ok (.aload_n 0, 1) := by decide +kernel
theorem dX10_restore_13 : decode cX10_restore 13 = .ok (.getfield 23, 3) := by decide +kernel
theorem dX10_restore_16 : decode cX10_restore 16 = .ok (.iload_n 1, 1) := by decide +kernel
theorem dX10_restore_17 : decode cX10_restore 17 = .ok (.baload, 1) := by decide +kernel
theorem dX10_restore_18 : decode cX10_restore 18 = .ok (.ifCond .ne 6, 3) := by decide +kernel
theorem dX10_restore_21 : decode cX10_restore 21 = .ok (.bipush (-3), 2) := by decide +kernel
theorem dX10_restore_23 : decode cX10_restore 23 = .ok (.ireturn, 1) := by decide +kernel
theorem dX10_restore_24 : decode cX10_restore 24 = .ok (.iconst 0, 1) := by decide +kernel
theorem dX10_restore_25 : decode cX10_restore 25 = .ok (.istore_n 2, 1) := by decide +kernel
theorem dX10_restore_26 : decode cX10_restore 26 = .ok (.iload_n 2, 1) := by decide +kernel
theorem dX10_restore_27 : decode cX10_restore 27 = .ok (.sipush 561, 3) := by decide +kernel
theorem dX10_restore_30 : decode cX10_restore 30 = .ok (.if_icmp .ge 27, 3) := by decide +kernel
theorem dX10_restore_33 : decode cX10_restore 33 = .ok (.aload_n 0, 1) := by decide +kernel
theorem dX10_restore_34 : decode cX10_restore 34 = .ok (.getfield 7, 3) := by decide +kernel
theorem dX10_restore_37 : decode cX10_restore 37 = .ok (.iload_n 2, 1) := by decide +kernel
theorem dX10_restore_38 : decode cX10_restore 38 = .ok (.aload_n 0, 1) := by decide +kernel
theorem dX10_restore_39 : decode cX10_restore 39 = .ok (.getfield 13, 3) := by decide +kernel
theorem dX10_restore_42 : decode cX10_restore 42 = .ok (.sipush 561, 3) := by decide +kernel
theorem dX10_restore_45 : decode cX10_restore 45 = .ok (.iload_n 1, 1) := by decide +kernel
theorem dX10_restore_46 : decode cX10_restore 46 = .ok (.imul, 1) := by decide +kernel
theorem dX10_restore_47 : decode cX10_restore 47 = .ok (.iload_n 2, 1) := by decide +kernel
theorem dX10_restore_48 : decode cX10_restore 48 = .ok (.iadd, 1) := by decide +kernel
theorem dX10_restore_49 : decode cX10_restore 49 = .ok (.iaload, 1) := by decide +kernel
theorem dX10_restore_50 : decode cX10_restore 50 = .ok (.iastore, 1) := by decide +kernel
theorem dX10_restore_51 : decode cX10_restore 51 = .ok (.iinc 2 1, 3) := by decide +kernel
theorem dX10_restore_54 : decode cX10_restore 54 = .ok (.goto (-28), 3) := by decide +kernel
theorem dX10_restore_57 : decode cX10_restore 57 = .ok (.iconst 0, 1) := by decide +kernel
theorem dX10_restore_58 : decode cX10_restore 58 = .ok (.istore_n 2, 1) := by decide +kernel
theorem dX10_restore_59 : decode cX10_restore 59 = .ok (.iload_n 2, 1) := by decide +kernel
theorem dX10_restore_60 : decode cX10_restore 60 = .ok (.sipush 360, 3) := by decide +kernel
theorem dX10_restore_63 : decode cX10_restore 63 = .ok (.if_icmp .ge 27, 3) := by decide +kernel
theorem dX10_restore_66 : decode cX10_restore 66 = .ok (.aload_n 0, 1) := by decide +kernel
theorem dX10_restore_67 : decode cX10_restore 67 = .ok (.getfield 16, 3) := by decide +kernel
theorem dX10_restore_70 : decode cX10_restore 70 = .ok (.iload_n 2, 1) := by decide +kernel
theorem dX10_restore_71 : decode cX10_restore 71 = .ok (.aload_n 0, 1) := by decide +kernel
theorem dX10_restore_72 : decode cX10_restore 72 = .ok (.getfield 20, 3) := by decide +kernel
theorem dX10_restore_75 : decode cX10_restore 75 = .ok (.sipush 360, 3) := by decide +kernel
theorem dX10_restore_78 : decode cX10_restore 78 = .ok (.iload_n 1, 1) := by decide +kernel
theorem dX10_restore_79 : decode cX10_restore 79 = .ok (.imul, 1) := by decide +kernel
theorem dX10_restore_80 : decode cX10_restore 80 = .ok (.iload_n 2, 1) := by decide +kernel
theorem dX10_restore_81 : decode cX10_restore 81 = .ok (.iadd, 1) := by decide +kernel
theorem dX10_restore_82 : decode cX10_restore 82 = .ok (.laload, 1) := by decide +kernel
theorem dX10_restore_83 : decode cX10_restore 83 = .ok (.lastore, 1) := by decide +kernel
theorem dX10_restore_84 : decode cX10_restore 84 = .ok (.iinc 2 1, 3) := by decide +kernel
theorem dX10_restore_87 : decode cX10_restore 87 = .ok (.goto (-28), 3) := by decide +kernel
theorem dX10_restore_90 : decode cX10_restore 90 = .ok (.aload_n 0, 1) := by decide +kernel
theorem dX10_restore_91 : decode cX10_restore 91 = .ok (.getfield 7, 3) := by decide +kernel
theorem dX10_restore_94 : decode cX10_restore 94 = .ok (.bipush 37, 2) := by decide +kernel
theorem dX10_restore_96 : decode cX10_restore 96 = .ok (.iaload, 1) := by decide +kernel
theorem dX10_restore_97 : decode cX10_restore 97 = .ok (.ireturn, 1) := by decide +kernel
set_option maxRecDepth 100000 in
theorem w_Mo_restore_L26 {p : Program} {l : Launch} {e : Env} {s : State} {m : MethodId} {args : Array Value} {below : List Frame} {meth : Method} {c : Code} {Q : State → Prop} {A : Nat → Prop} {D : va_G} {cI cJ cZ cO : ClassId} {q_this q_m q_saved q_w q_savedWords q_isSaved q_text q_far q_queue q_parent q_by q_seen q_path q_row q_more q_stateOf : Nat} {v_textLength : Int32} {v_steps : Int32} {v_missing : Int64} {v_mores : Int32} {v_hash : Int64} {v_saved : (Nat → Int32)} {v_w : (Nat → Int64)} {v_savedWords : (Nat → Int64)} {v_isSaved : (Nat → Int32)} {x1 : Int32} {x : Int32 × (Nat → Int32) × (Nat → Int64)} (C0 : Cx p s m args c A D cI cJ cZ cO cX10_restore 3 RX10) (hQ : RtI p l e rm_Mo_restore s m args below meth c Q A D cX10_restore .int (ws_Mo_restore cI cJ cZ q_this q_m q_saved q_w q_savedWords q_isSaved q_text q_far q_queue q_parent q_by q_seen q_path q_row q_more q_stateOf v_textLength v_steps v_missing v_mores v_hash x.2.1 v_saved x.2.2 v_savedWords v_isSaved) x.1) {K : Int32 → (Nat → Int32) → Option (Int32 × (Nat → Int32) × (Nat → Int64))} (hK : ∀ (x2 : Int32) (v_m : (Nat → Int32)) (H : Heap) (locs : List Loc) (ls : Array Slot), K x2 v_m = some x → Wd s A D (ws_Mo_restore cI cJ cZ q_this q_m q_saved q_w q_savedWords q_isSaved q_text q_far q_queue q_parent q_by q_seen q_path q_row q_more q_stateOf v_textLength v_steps v_missing v_mores v_hash v_m v_saved v_w v_savedWords v_isSaved) H locs → lv_has ls 3 [(0, .ref q_this), (1, .int x1)] → W p l e rm_Mo_restore s m args below meth c H locs 0 0 Q (F0 m 57 ls [])) {rec : Int32 → (Nat → Int32) → Option (Int32 × (Nat → Int32) × (Nat → Int64))} (hrec : ∀ (x2 : Int32) (v_m : (Nat → Int32)) (H : Heap) (locs : List Loc) (ls : Array Slot), rec x2 v_m = some x → Wd s A D (ws_Mo_restore cI cJ cZ q_this q_m q_saved q_w q_savedWords q_isSaved q_text q_far q_queue q_parent q_by q_seen q_path q_row q_more q_stateOf v_textLength v_steps v_missing v_mores v_hash v_m v_saved v_w v_savedWords v_isSaved) H locs → lv_has ls 3 [(0, .ref q_this), (1, .int x1), (2, .int x2)] → W p l e rm_Mo_restore s m args below meth c H locs 0 0 Q (F0 m 26 ls [])) (x2 : Int32) (v_m : (Nat → Int32)) {H : Heap} {locs : List Loc} {ls : Array Slot} (h : f_Mo_restore_L26 v_saved x1 K rec x2 v_m = some x) (w : Wd s A D (ws_Mo_restore cI cJ cZ q_this q_m q_saved q_w q_savedWords q_isSaved q_text q_far q_queue q_parent q_by q_seen q_path q_row q_more q_stateOf v_textLength v_steps v_missing v_mores v_hash v_m v_saved v_w v_savedWords v_isSaved) H locs) (hl : lv_has ls 3 [(0, .ref q_this), (1, .int x1), (2, .int x2)]) : W p l e rm_Mo_restore s m args below meth c H locs 0 0 Q (F0 m 26 ls []) := by
  obtain ⟨hx, hb, hml, hown, hts, -, -⟩ := id C0
  unfold f_Mo_restore_L26 at h
  refine lv_iload_n hx hb dX10_restore_26 rfl (lv_at hl 2 rfl) ?_
  refine lv_sipush (v := (561 : Int32)) hx hb dX10_restore_27 (by decide) ?_
  refine lv_icmp_ge (tgt := 57) hx hb dX10_restore_30 (by decide) (fun hc => ?_) (fun hc => ?_)
  · have h := if_h hc h
    exact hK _ _ _ _ _ h w (lv_sub hl [0, 1] rfl)
  · have h := nf_h hc h
    refine lv_aload_n hx hb dX10_restore_33 rfl (lv_at hl 0 rfl) ?_
    refine r_get C0 w 0 rfl kf_Mo 0 (by decide) lf_RX10_7 rfl dX10_restore_34 ?_
    refine lv_iload_n hx hb dX10_restore_37 rfl (lv_at hl 2 rfl) ?_
    refine lv_aload_n hx hb dX10_restore_38 rfl (lv_at hl 0 rfl) ?_
    refine r_get C0 w 0 rfl kf_Mo 1 (by decide) lf_RX10_13 rfl dX10_restore_39 ?_
    refine lv_sipush (v := (561 : Int32)) hx hb dX10_restore_42 (by decide) ?_
    refine lv_iload_n hx hb dX10_restore_45 rfl (lv_at hl 1 rfl) ?_
    refine lv_imul hx hb dX10_restore_46 ?_
    refine lv_iload_n hx hb dX10_restore_47 rfl (lv_at hl 2 rfl) ?_
    refine lv_iadd hx hb dX10_restore_48 ?_
    obtain ⟨hi, h⟩ := gIn_h h
    refine r_iald C0 w 2 rfl rfl hi dX10_restore_49 ?_
    obtain ⟨hi, h⟩ := gIn_h h
    obtain ⟨v_m_1, ev_m_1⟩ : ∃ y, y = (upd v_m x2.toNatClampNeg (v_saved (((561 : Int32) * x1) + x2).toNatClampNeg)) := ⟨_, rfl⟩
    have h := bnd_at ev_m_1 h
    refine r_iast C0 w 1 rfl (f' := v_m_1) rfl hi ev_m_1 dX10_restore_50 (ws' := (ws_Mo_restore cI cJ cZ q_this q_m q_saved q_w q_savedWords q_isSaved q_text q_far q_queue q_parent q_by q_seen q_path q_row q_more q_stateOf v_textLength v_steps v_missing v_mores v_hash v_m_1 v_saved v_w v_savedWords v_isSaved)) rfl (fun H locs w => ?_)
    obtain ⟨x2_1, ex2_1⟩ : ∃ y : Int32, y = (x2 + 1) := ⟨_, rfl⟩
    have h := bnd_at ex2_1 h
    refine lv_iinc (v := x2_1) (lv' := [(2, .int x2_1), (0, .ref q_this), (1, .int x1)]) hx hb dX10_restore_51 hl (k := 2) rfl (by rw [ex2_1]; rfl) (by decide) rfl (fun ls hl => ?_)
    refine lv_goto (tgt := 26) hx hb dX10_restore_54 (by decide) ?_
    exact hrec _ _ _ _ _ h w (lv_sub hl [1, 2, 0] rfl)
set_option maxRecDepth 100000 in
theorem wl_Mo_restore_L26 {p : Program} {l : Launch} {e : Env} {s : State} {m : MethodId} {args : Array Value} {below : List Frame} {meth : Method} {c : Code} {Q : State → Prop} {A : Nat → Prop} {D : va_G} {cI cJ cZ cO : ClassId} {q_this q_m q_saved q_w q_savedWords q_isSaved q_text q_far q_queue q_parent q_by q_seen q_path q_row q_more q_stateOf : Nat} {v_textLength : Int32} {v_steps : Int32} {v_missing : Int64} {v_mores : Int32} {v_hash : Int64} {v_saved : (Nat → Int32)} {v_w : (Nat → Int64)} {v_savedWords : (Nat → Int64)} {v_isSaved : (Nat → Int32)} {x1 : Int32} {x : Int32 × (Nat → Int32) × (Nat → Int64)} (C0 : Cx p s m args c A D cI cJ cZ cO cX10_restore 3 RX10) (hQ : RtI p l e rm_Mo_restore s m args below meth c Q A D cX10_restore .int (ws_Mo_restore cI cJ cZ q_this q_m q_saved q_w q_savedWords q_isSaved q_text q_far q_queue q_parent q_by q_seen q_path q_row q_more q_stateOf v_textLength v_steps v_missing v_mores v_hash x.2.1 v_saved x.2.2 v_savedWords v_isSaved) x.1) {K : Int32 → (Nat → Int32) → Option (Int32 × (Nat → Int32) × (Nat → Int64))} (hK : ∀ (x2 : Int32) (v_m : (Nat → Int32)) (H : Heap) (locs : List Loc) (ls : Array Slot), K x2 v_m = some x → Wd s A D (ws_Mo_restore cI cJ cZ q_this q_m q_saved q_w q_savedWords q_isSaved q_text q_far q_queue q_parent q_by q_seen q_path q_row q_more q_stateOf v_textLength v_steps v_missing v_mores v_hash v_m v_saved v_w v_savedWords v_isSaved) H locs → lv_has ls 3 [(0, .ref q_this), (1, .int x1)] → W p l e rm_Mo_restore s m args below meth c H locs 0 0 Q (F0 m 57 ls [])) : ∀ (n : Nat) (x2 : Int32) (v_m : (Nat → Int32)) (H : Heap) (locs : List Loc) (ls : Array Slot), itr (fun _ _ => none) (f_Mo_restore_L26 v_saved x1 K) n x2 v_m = some x → Wd s A D (ws_Mo_restore cI cJ cZ q_this q_m q_saved q_w q_savedWords q_isSaved q_text q_far q_queue q_parent q_by q_seen q_path q_row q_more q_stateOf v_textLength v_steps v_missing v_mores v_hash v_m v_saved v_w v_savedWords v_isSaved) H locs → lv_has ls 3 [(0, .ref q_this), (1, .int x1), (2, .int x2)] → W p l e rm_Mo_restore s m args below meth c H locs 0 0 Q (F0 m 26 ls []) := by
  intro n
  induction n with
  | zero => intro _ _ _ _ _ h; cases (show none = some _ from h)
  | succ n ih => intro _ _ _ _ _ h w hl; exact w_Mo_restore_L26 C0 hQ hK ih _ _ h w hl
set_option maxRecDepth 100000 in
theorem w_Mo_restore_L59 {p : Program} {l : Launch} {e : Env} {s : State} {m : MethodId} {args : Array Value} {below : List Frame} {meth : Method} {c : Code} {Q : State → Prop} {A : Nat → Prop} {D : va_G} {cI cJ cZ cO : ClassId} {q_this q_m q_saved q_w q_savedWords q_isSaved q_text q_far q_queue q_parent q_by q_seen q_path q_row q_more q_stateOf : Nat} {v_textLength : Int32} {v_steps : Int32} {v_missing : Int64} {v_mores : Int32} {v_hash : Int64} {v_m : (Nat → Int32)} {v_saved : (Nat → Int32)} {v_savedWords : (Nat → Int64)} {v_isSaved : (Nat → Int32)} {x1 : Int32} {x : Int32 × (Nat → Int32) × (Nat → Int64)} (C0 : Cx p s m args c A D cI cJ cZ cO cX10_restore 3 RX10) (hQ : RtI p l e rm_Mo_restore s m args below meth c Q A D cX10_restore .int (ws_Mo_restore cI cJ cZ q_this q_m q_saved q_w q_savedWords q_isSaved q_text q_far q_queue q_parent q_by q_seen q_path q_row q_more q_stateOf v_textLength v_steps v_missing v_mores v_hash x.2.1 v_saved x.2.2 v_savedWords v_isSaved) x.1) {K : Int32 → (Nat → Int64) → Option (Int32 × (Nat → Int32) × (Nat → Int64))} (hK : ∀ (x2 : Int32) (v_w : (Nat → Int64)) (H : Heap) (locs : List Loc) (ls : Array Slot), K x2 v_w = some x → Wd s A D (ws_Mo_restore cI cJ cZ q_this q_m q_saved q_w q_savedWords q_isSaved q_text q_far q_queue q_parent q_by q_seen q_path q_row q_more q_stateOf v_textLength v_steps v_missing v_mores v_hash v_m v_saved v_w v_savedWords v_isSaved) H locs → lv_has ls 3 [(0, .ref q_this)] → W p l e rm_Mo_restore s m args below meth c H locs 0 0 Q (F0 m 90 ls [])) {rec : Int32 → (Nat → Int64) → Option (Int32 × (Nat → Int32) × (Nat → Int64))} (hrec : ∀ (x2 : Int32) (v_w : (Nat → Int64)) (H : Heap) (locs : List Loc) (ls : Array Slot), rec x2 v_w = some x → Wd s A D (ws_Mo_restore cI cJ cZ q_this q_m q_saved q_w q_savedWords q_isSaved q_text q_far q_queue q_parent q_by q_seen q_path q_row q_more q_stateOf v_textLength v_steps v_missing v_mores v_hash v_m v_saved v_w v_savedWords v_isSaved) H locs → lv_has ls 3 [(0, .ref q_this), (1, .int x1), (2, .int x2)] → W p l e rm_Mo_restore s m args below meth c H locs 0 0 Q (F0 m 59 ls [])) (x2 : Int32) (v_w : (Nat → Int64)) {H : Heap} {locs : List Loc} {ls : Array Slot} (h : f_Mo_restore_L59 v_savedWords x1 K rec x2 v_w = some x) (w : Wd s A D (ws_Mo_restore cI cJ cZ q_this q_m q_saved q_w q_savedWords q_isSaved q_text q_far q_queue q_parent q_by q_seen q_path q_row q_more q_stateOf v_textLength v_steps v_missing v_mores v_hash v_m v_saved v_w v_savedWords v_isSaved) H locs) (hl : lv_has ls 3 [(0, .ref q_this), (1, .int x1), (2, .int x2)]) : W p l e rm_Mo_restore s m args below meth c H locs 0 0 Q (F0 m 59 ls []) := by
  obtain ⟨hx, hb, hml, hown, hts, -, -⟩ := id C0
  unfold f_Mo_restore_L59 at h
  refine lv_iload_n hx hb dX10_restore_59 rfl (lv_at hl 2 rfl) ?_
  refine lv_sipush (v := (360 : Int32)) hx hb dX10_restore_60 (by decide) ?_
  refine lv_icmp_ge (tgt := 90) hx hb dX10_restore_63 (by decide) (fun hc => ?_) (fun hc => ?_)
  · have h := if_h hc h
    exact hK _ _ _ _ _ h w (lv_sub hl [0] rfl)
  · have h := nf_h hc h
    refine lv_aload_n hx hb dX10_restore_66 rfl (lv_at hl 0 rfl) ?_
    refine r_get C0 w 0 rfl kf_Mo 2 (by decide) lf_RX10_16 rfl dX10_restore_67 ?_
    refine lv_iload_n hx hb dX10_restore_70 rfl (lv_at hl 2 rfl) ?_
    refine lv_aload_n hx hb dX10_restore_71 rfl (lv_at hl 0 rfl) ?_
    refine r_get C0 w 0 rfl kf_Mo 3 (by decide) lf_RX10_20 rfl dX10_restore_72 ?_
    refine lv_sipush (v := (360 : Int32)) hx hb dX10_restore_75 (by decide) ?_
    refine lv_iload_n hx hb dX10_restore_78 rfl (lv_at hl 1 rfl) ?_
    refine lv_imul hx hb dX10_restore_79 ?_
    refine lv_iload_n hx hb dX10_restore_80 rfl (lv_at hl 2 rfl) ?_
    refine lv_iadd hx hb dX10_restore_81 ?_
    obtain ⟨hi, h⟩ := gIn_h h
    refine r_lald C0 w 4 rfl rfl hi dX10_restore_82 ?_
    obtain ⟨hi, h⟩ := gIn_h h
    obtain ⟨v_w_1, ev_w_1⟩ : ∃ y, y = (vp_updL v_w x2.toNatClampNeg (v_savedWords (((360 : Int32) * x1) + x2).toNatClampNeg)) := ⟨_, rfl⟩
    have h := bnd_at ev_w_1 h
    refine r_last C0 w 3 rfl (f' := v_w_1) rfl hi ev_w_1 dX10_restore_83 (ws' := (ws_Mo_restore cI cJ cZ q_this q_m q_saved q_w q_savedWords q_isSaved q_text q_far q_queue q_parent q_by q_seen q_path q_row q_more q_stateOf v_textLength v_steps v_missing v_mores v_hash v_m v_saved v_w_1 v_savedWords v_isSaved)) rfl (fun H locs w => ?_)
    obtain ⟨x2_1, ex2_1⟩ : ∃ y : Int32, y = (x2 + 1) := ⟨_, rfl⟩
    have h := bnd_at ex2_1 h
    refine lv_iinc (v := x2_1) (lv' := [(2, .int x2_1), (0, .ref q_this), (1, .int x1)]) hx hb dX10_restore_84 hl (k := 2) rfl (by rw [ex2_1]; rfl) (by decide) rfl (fun ls hl => ?_)
    refine lv_goto (tgt := 59) hx hb dX10_restore_87 (by decide) ?_
    exact hrec _ _ _ _ _ h w (lv_sub hl [1, 2, 0] rfl)
set_option maxRecDepth 100000 in
theorem wl_Mo_restore_L59 {p : Program} {l : Launch} {e : Env} {s : State} {m : MethodId} {args : Array Value} {below : List Frame} {meth : Method} {c : Code} {Q : State → Prop} {A : Nat → Prop} {D : va_G} {cI cJ cZ cO : ClassId} {q_this q_m q_saved q_w q_savedWords q_isSaved q_text q_far q_queue q_parent q_by q_seen q_path q_row q_more q_stateOf : Nat} {v_textLength : Int32} {v_steps : Int32} {v_missing : Int64} {v_mores : Int32} {v_hash : Int64} {v_m : (Nat → Int32)} {v_saved : (Nat → Int32)} {v_savedWords : (Nat → Int64)} {v_isSaved : (Nat → Int32)} {x1 : Int32} {x : Int32 × (Nat → Int32) × (Nat → Int64)} (C0 : Cx p s m args c A D cI cJ cZ cO cX10_restore 3 RX10) (hQ : RtI p l e rm_Mo_restore s m args below meth c Q A D cX10_restore .int (ws_Mo_restore cI cJ cZ q_this q_m q_saved q_w q_savedWords q_isSaved q_text q_far q_queue q_parent q_by q_seen q_path q_row q_more q_stateOf v_textLength v_steps v_missing v_mores v_hash x.2.1 v_saved x.2.2 v_savedWords v_isSaved) x.1) {K : Int32 → (Nat → Int64) → Option (Int32 × (Nat → Int32) × (Nat → Int64))} (hK : ∀ (x2 : Int32) (v_w : (Nat → Int64)) (H : Heap) (locs : List Loc) (ls : Array Slot), K x2 v_w = some x → Wd s A D (ws_Mo_restore cI cJ cZ q_this q_m q_saved q_w q_savedWords q_isSaved q_text q_far q_queue q_parent q_by q_seen q_path q_row q_more q_stateOf v_textLength v_steps v_missing v_mores v_hash v_m v_saved v_w v_savedWords v_isSaved) H locs → lv_has ls 3 [(0, .ref q_this)] → W p l e rm_Mo_restore s m args below meth c H locs 0 0 Q (F0 m 90 ls [])) : ∀ (n : Nat) (x2 : Int32) (v_w : (Nat → Int64)) (H : Heap) (locs : List Loc) (ls : Array Slot), itr (fun _ _ => none) (f_Mo_restore_L59 v_savedWords x1 K) n x2 v_w = some x → Wd s A D (ws_Mo_restore cI cJ cZ q_this q_m q_saved q_w q_savedWords q_isSaved q_text q_far q_queue q_parent q_by q_seen q_path q_row q_more q_stateOf v_textLength v_steps v_missing v_mores v_hash v_m v_saved v_w v_savedWords v_isSaved) H locs → lv_has ls 3 [(0, .ref q_this), (1, .int x1), (2, .int x2)] → W p l e rm_Mo_restore s m args below meth c H locs 0 0 Q (F0 m 59 ls []) := by
  intro n
  induction n with
  | zero => intro _ _ _ _ _ h; cases (show none = some _ from h)
  | succ n ih => intro _ _ _ _ _ h w hl; exact w_Mo_restore_L59 C0 hQ hK ih _ _ h w hl
set_option maxRecDepth 100000 in
theorem c_Mo_restore {l : Launch} {D : va_G} {cI cJ cZ cO : ClassId} {q_this q_m q_saved q_w q_savedWords q_isSaved q_text q_far q_queue q_parent q_by q_seen q_path q_row q_more q_stateOf : Nat} {x1 : Int32} {v_textLength : Int32} {v_steps : Int32} {v_missing : Int64} {v_mores : Int32} {v_hash : Int64} {v_m : (Nat → Int32)} {v_saved : (Nat → Int32)} {v_w : (Nat → Int64)} {v_savedWords : (Nat → Int64)} {v_isSaved : (Nat → Int32)} {x : Int32 × (Nat → Int32) × (Nat → Int64)} (h : f_Mo_restore x1 v_m v_saved v_w v_savedWords v_isSaved = some x) : ctI l D cI cJ cZ cO yX10_restore cX10_restore 3 .int rm_Mo_restore [.ref q_this, .int x1] (ws_Mo_restore cI cJ cZ q_this q_m q_saved q_w q_savedWords q_isSaved q_text q_far q_queue q_parent q_by q_seen q_path q_row q_more q_stateOf v_textLength v_steps v_missing v_mores v_hash v_m v_saved v_w v_savedWords v_isSaved) (ws_Mo_restore cI cJ cZ q_this q_m q_saved q_w q_savedWords q_isSaved q_text q_far q_queue q_parent q_by q_seen q_path q_row q_more q_stateOf v_textLength v_steps v_missing v_mores v_hash x.2.1 v_saved x.2.2 v_savedWords v_isSaved) x.1 := by
  refine ctI_of (by decide) (Nat.le_of_ble_eq_true rfl) ?_
  intro p e s m below meth c Q A ls C0 hQ w hl
  have hl : lv_has ls 3 [(0, .ref q_this), (1, .int x1)] := hl
  generalize List.toArray (α := Value) [.ref q_this, .int x1] = args at C0 hQ ⊢
  obtain ⟨hx, hb, hml, hown, hts, -, -⟩ := id C0
  unfold f_Mo_restore at h
  refine lv_iload_n hx hb dX10_restore_0 rfl (lv_at hl 1 rfl) ?_
  refine lv_iconst (v := (0 : Int32)) hx hb dX10_restore_1 (by decide) ?_
  refine lv_iconst (v := (1 : Int32)) hx hb dX10_restore_2 (by decide) ?_
  obtain ⟨r, hcall, h⟩ := bd1_h h
  obtain ⟨wr, hp, hp'⟩ := rd_of (ws := (ws_Mo_restore cI cJ cZ q_this q_m q_saved q_w q_savedWords q_isSaved q_text q_far q_queue q_parent q_by q_seen q_path q_row q_more q_stateOf v_textLength v_steps v_missing v_mores v_hash v_m v_saved v_w v_savedWords v_isSaved)) (wc := (ws_Mo_in cI cJ cZ)) [] rfl rfl
  refine r_SI (r := r) (As := [.int x1, .int (0 : Int32), .int (1 : Int32)]) (rest := []) (wc' := (ws_Mo_in cI cJ cZ)) (ws' := (ws_Mo_restore cI cJ cZ q_this q_m q_saved q_w q_savedWords q_isSaved q_text q_far q_queue q_parent q_by q_seen q_path q_row q_more q_stateOf v_textLength v_steps v_missing v_mores v_hash v_m v_saved v_w v_savedWords v_isSaved)) C0 w (c_Mo_in hcall) hp hp' lm_RX10_76 ms_Mo_in ⟨rfl, rfl⟩ ⟨by decide, by decide⟩ ⟨Nat.zero_le _, Nat.zero_le _⟩ rfl hl rfl (Nat.le_of_ble_eq_true rfl) dX10_restore_3 (fun H locs w => ?_)
  refine lv_if_ne (tgt := 12) hx hb dX10_restore_6 (by decide) (fun hc => ?_) (fun hc => ?_)
  · have h := nf_h hc h
    refine lv_aload_n hx hb dX10_restore_12 rfl (lv_at hl 0 rfl) ?_
    refine r_get C0 w 0 rfl kf_Mo 4 (by decide) lf_RX10_23 rfl dX10_restore_13 ?_
    refine lv_iload_n hx hb dX10_restore_16 rfl (lv_at hl 1 rfl) ?_
    obtain ⟨hi, h⟩ := gIn_h h
    refine r_zald C0 w 5 rfl rfl hi dX10_restore_17 ?_
    refine lv_if_ne (tgt := 24) hx hb dX10_restore_18 (by decide) (fun hc => ?_) (fun hc => ?_)
    · have h := nf_h hc h
      refine lv_iconst (v := (0 : Int32)) hx hb dX10_restore_24 (by decide) ?_
      refine lv_istore_n (lv' := [(2, .int (0 : Int32)), (0, .ref q_this), (1, .int x1)]) hx hb dX10_restore_25 rfl hl (by decide) rfl (fun ls hl => ?_)
      refine wl_Mo_restore_L26 C0 hQ (fun x2 v_m_1 H locs ls h w hl => ?_) _ _ _ _ _ _ h w (lv_sub hl [1, 2, 0] rfl)
      refine lv_iconst (v := (0 : Int32)) hx hb dX10_restore_57 (by decide) ?_
      refine lv_istore_n (lv' := [(2, .int (0 : Int32)), (0, .ref q_this), (1, .int x1)]) hx hb dX10_restore_58 rfl hl (by decide) rfl (fun ls hl => ?_)
      refine wl_Mo_restore_L59 C0 hQ (fun x2_1 v_w_1 H locs ls h w hl => ?_) _ _ _ _ _ _ h w (lv_sub hl [1, 2, 0] rfl)
      refine lv_aload_n hx hb dX10_restore_90 rfl (lv_at hl 0 rfl) ?_
      refine r_get C0 w 0 rfl kf_Mo 0 (by decide) lf_RX10_7 rfl dX10_restore_91 ?_
      refine lv_bipush (v := (37 : Int32)) hx hb dX10_restore_94 (by decide) ?_
      refine r_iald C0 w 1 rfl (k := 37) (by decide) (inl (by decide)) dX10_restore_96 ?_
      cases h
      exact hQ _ _ _ _ dX10_restore_97 rfl w
    · have h := if_h hc h
      refine lv_bipush (v := (-3 : Int32)) hx hb dX10_restore_21 (by decide) ?_
      cases h
      exact hQ _ _ _ _ dX10_restore_23 rfl w
  · have h := if_h hc h
    refine lv_bipush (v := (-2 : Int32)) hx hb dX10_restore_9 (by decide) ?_
    cases h
    exact hQ _ _ _ _ dX10_restore_11 rfl w
theorem dX10_count_0 : decode cX10_count 0 = .ok (.iload_n 1, 1) := by decide +kernel
theorem dX10_count_1 : decode cX10_count 1 = .ok (.tableswitch 163 0 12 #[67, 74, 81, 86, 94, 102, 110, 118, 126, 134, 142, 150, 158], 67) := by decide +kernel
theorem dX10_count_68 : decode cX10_count 68 = .ok (.aload_n 0, 1) := by decide +kernel
theorem dX10_count_69 : decode cX10_count 69 = .ok (.getfield 7, 3) := by decide +kernel
theorem dX10_count_72 : decode cX10_count 72 = .ok (.iconst 0, 1) := by decide +kernel
theorem dX10_count_73 : decode cX10_count 73 = .ok (.iaload, 1) := by decide +kernel
theorem dX10_count_74 : decode cX10_count 74 = .ok (.ireturn, 1) := by decide +kernel
theorem dX10_count_75 : decode cX10_count 75 = .ok (.aload_n 0, 1) := by decide +kernel
theorem dX10_count_76 : decode cX10_count 76 = .ok (.getfield 7, 3) := by decide +kernel
theorem dX10_count_79 : decode cX10_count 79 = .ok (.iconst 1, 1) := by decide +kernel
theorem dX10_count_80 : decode cX10_count 80 = .ok (.iaload, 1) := by decide +kernel
theorem dX10_count_81 : decode cX10_count 81 = .ok (.ireturn, 1) := by decide +kernel
theorem dX10_count_82 : decode cX10_count 82 = .ok (.aload_n 0, 1) := by decide +kernel
theorem dX10_count_83 : decode cX10_count 83 = .ok (.invokevirtual 93, 3) := by decide +kernel
theorem dX10_count_86 : decode cX10_count 86 = .ok (.ireturn, 1) := by decide +kernel
theorem dX10_count_87 : decode cX10_count 87 = .ok (.aload_n 0, 1) := by decide +kernel
theorem dX10_count_88 : decode cX10_count 88 = .ok (.getfield 7, 3) := by decide +kernel
theorem dX10_count_91 : decode cX10_count 91 = .ok (.bipush 34, 2) := by decide +kernel
theorem dX10_count_93 : decode cX10_count 93 = .ok (.iaload, 1) := by decide +kernel
theorem dX10_count_94 : decode cX10_count 94 = .ok (.ireturn, 1) := by decide +kernel
theorem dX10_count_95 : decode cX10_count 95 = .ok (.aload_n 0, 1) := by decide +kernel
theorem dX10_count_96 : decode cX10_count 96 = .ok (.getfield 7, 3) := by decide +kernel
theorem dX10_count_99 : decode cX10_count 99 = .ok (.bipush 35, 2) := by decide +kernel
theorem dX10_count_101 : decode cX10_count 101 = .ok (.iaload, 1) := by decide +kernel
theorem dX10_count_102 : decode cX10_count 102 = .ok (.ireturn, 1) := by decide +kernel
theorem dX10_count_103 : decode cX10_count 103 = .ok (.aload_n 0, 1) := by decide +kernel
theorem dX10_count_104 : decode cX10_count 104 = .ok (.getfield 7, 3) := by decide +kernel
theorem dX10_count_107 : decode cX10_count 107 = .ok (.bipush 36, 2) := by decide +kernel
theorem dX10_count_109 : decode cX10_count 109 = .ok (.iaload, 1) := by decide +kernel
theorem dX10_count_110 : decode cX10_count 110 = .ok (.ireturn, 1) := by decide +kernel
theorem dX10_count_111 : decode cX10_count 111 = .ok (.aload_n 0, 1) := by decide +kernel
theorem dX10_count_112 : decode cX10_count 112 = .ok (.getfield 7, 3) := by decide +kernel
theorem dX10_count_115 : decode cX10_count 115 = .ok (.bipush 37, 2) := by decide +kernel
theorem dX10_count_117 : decode cX10_count 117 = .ok (.iaload, 1) := by decide +kernel
theorem dX10_count_118 : decode cX10_count 118 = .ok (.ireturn, 1) := by decide +kernel
theorem dX10_count_119 : decode cX10_count 119 = .ok (.aload_n 0, 1) := by decide +kernel
theorem dX10_count_120 : decode cX10_count 120 = .ok (.getfield 7, 3) := by decide +kernel
theorem dX10_count_123 : decode cX10_count 123 = .ok (.bipush 38, 2) := by decide +kernel
theorem dX10_count_125 : decode cX10_count 125 = .ok (.iaload, 1) := by decide +kernel
theorem dX10_count_126 : decode cX10_count 126 = .ok (.ireturn, 1) := by decide +kernel
theorem dX10_count_127 : decode cX10_count 127 = .ok (.aload_n 0, 1) := by decide +kernel
theorem dX10_count_128 : decode cX10_count 128 = .ok (.getfield 7, 3) := by decide +kernel
theorem dX10_count_131 : decode cX10_count 131 = .ok (.bipush 39, 2) := by decide +kernel
theorem dX10_count_133 : decode cX10_count 133 = .ok (.iaload, 1) := by decide +kernel
theorem dX10_count_134 : decode cX10_count 134 = .ok (.ireturn, 1) := by decide +kernel
theorem dX10_count_135 : decode cX10_count 135 = .ok (.aload_n 0, 1) := by decide +kernel
theorem dX10_count_136 : decode cX10_count 136 = .ok (.getfield 7, 3) := by decide +kernel
theorem dX10_count_139 : decode cX10_count 139 = .ok (.bipush 40, 2) := by decide +kernel
theorem dX10_count_141 : decode cX10_count 141 = .ok (.iaload, 1) := by decide +kernel
theorem dX10_count_142 : decode cX10_count 142 = .ok (.ireturn, 1) := by decide +kernel
theorem dX10_count_143 : decode cX10_count 143 = .ok (.aload_n 0, 1) := by decide +kernel
theorem dX10_count_144 : decode cX10_count 144 = .ok (.getfield 7, 3) := by decide +kernel
theorem dX10_count_147 : decode cX10_count 147 = .ok (.bipush 42, 2) := by decide +kernel
theorem dX10_count_149 : decode cX10_count 149 = .ok (.iaload, 1) := by decide +kernel
theorem dX10_count_150 : decode cX10_count 150 = .ok (.ireturn, 1) := by decide +kernel
theorem dX10_count_151 : decode cX10_count 151 = .ok (.aload_n 0, 1) := by decide +kernel
theorem dX10_count_152 : decode cX10_count 152 = .ok (.getfield 7, 3) := by decide +kernel
theorem dX10_count_155 : decode cX10_count 155 = .ok (.bipush 43, 2) := by decide +kernel
theorem dX10_count_157 : decode cX10_count 157 = .ok (.iaload, 1) := by decide +kernel
theorem dX10_count_158 : decode cX10_count 158 = .ok (.ireturn, 1) := by decide +kernel
theorem dX10_count_159 : decode cX10_count 159 = .ok (.aload_n 0, 1) := by decide +kernel
theorem dX10_count_160 : decode cX10_count 160 = .ok (.getfield 72, 3) := by decide +kernel
theorem dX10_count_163 : decode cX10_count 163 = .ok (.ireturn, 1) := by decide +kernel
theorem dX10_count_164 : decode cX10_count 164 = .ok (.bipush (-2), 2) := by decide +kernel
theorem dX10_count_166 : decode cX10_count 166 = .ok (.ireturn, 1) := by decide +kernel
set_option maxRecDepth 100000 in
theorem c_Mo_count {l : Launch} {D : va_G} {cI cJ cZ cO : ClassId} {q_this q_m q_saved q_w q_savedWords q_isSaved q_text q_far q_queue q_parent q_by q_seen q_path q_row q_more q_stateOf : Nat} {x1 : Int32} {v_textLength : Int32} {v_steps : Int32} {v_missing : Int64} {v_mores : Int32} {v_hash : Int64} {v_m : (Nat → Int32)} {x : Int32} (h : f_Mo_count x1 v_textLength v_m = some x) : ctI l D cI cJ cZ cO yX10_count cX10_count 2 .int rm_Mo_count [.ref q_this, .int x1] (ws_Mo_count cI cJ cZ q_this q_m q_saved q_w q_savedWords q_isSaved q_text q_far q_queue q_parent q_by q_seen q_path q_row q_more q_stateOf v_textLength v_steps v_missing v_mores v_hash v_m) (ws_Mo_count cI cJ cZ q_this q_m q_saved q_w q_savedWords q_isSaved q_text q_far q_queue q_parent q_by q_seen q_path q_row q_more q_stateOf v_textLength v_steps v_missing v_mores v_hash v_m) x := by
  refine ctI_of (by decide) (Nat.le_of_ble_eq_true rfl) ?_
  intro p e s m below meth c Q A ls C0 hQ w hl
  have hl : lv_has ls 2 [(0, .ref q_this), (1, .int x1)] := hl
  generalize List.toArray (α := Value) [.ref q_this, .int x1] = args at C0 hQ ⊢
  obtain ⟨hx, hb, hml, hown, hts, -, -⟩ := id C0
  unfold f_Mo_count at h
  refine lv_iload_n hx hb dX10_count_0 rfl (lv_at hl 1 rfl) ?_
  by_cases e0 : x1 = (0 : Int32)
  · have h := if_h e0 h
    refine lv_tableIn (off := 67) (tgt := 68) hx hb dX10_count_1 (by rw [e0]; decide) (by rw [e0]; decide) (by rw [e0]; decide) (by decide) ?_
    refine lv_aload_n hx hb dX10_count_68 rfl (lv_at hl 0 rfl) ?_
    refine r_get C0 w 0 rfl kf_Mo 0 (by decide) lf_RX10_7 rfl dX10_count_69 ?_
    refine lv_iconst (v := (0 : Int32)) hx hb dX10_count_72 (by decide) ?_
    refine r_iald C0 w 1 rfl (k := 0) (by decide) (inl (by decide)) dX10_count_73 ?_
    cases h
    exact hQ _ _ _ _ dX10_count_74 rfl w
  have h := nf_h e0 h
  by_cases e1 : x1 = (1 : Int32)
  · have h := if_h e1 h
    refine lv_tableIn (off := 74) (tgt := 75) hx hb dX10_count_1 (by rw [e1]; decide) (by rw [e1]; decide) (by rw [e1]; decide) (by decide) ?_
    refine lv_aload_n hx hb dX10_count_75 rfl (lv_at hl 0 rfl) ?_
    refine r_get C0 w 0 rfl kf_Mo 0 (by decide) lf_RX10_7 rfl dX10_count_76 ?_
    refine lv_iconst (v := (1 : Int32)) hx hb dX10_count_79 (by decide) ?_
    refine r_iald C0 w 1 rfl (k := 1) (by decide) (inl (by decide)) dX10_count_80 ?_
    cases h
    exact hQ _ _ _ _ dX10_count_81 rfl w
  have h := nf_h e1 h
  by_cases e2 : x1 = (2 : Int32)
  · have h := if_h e2 h
    refine lv_tableIn (off := 81) (tgt := 82) hx hb dX10_count_1 (by rw [e2]; decide) (by rw [e2]; decide) (by rw [e2]; decide) (by decide) ?_
    refine lv_aload_n hx hb dX10_count_82 rfl (lv_at hl 0 rfl) ?_
    obtain ⟨r, hcall, h⟩ := bd1_h h
    obtain ⟨wr, hp, hp'⟩ := rd_of (ws := (ws_Mo_count cI cJ cZ q_this q_m q_saved q_w q_savedWords q_isSaved q_text q_far q_queue q_parent q_by q_seen q_path q_row q_more q_stateOf v_textLength v_steps v_missing v_mores v_hash v_m)) (wc := (ws_Mo_finals cI cJ cZ q_this q_m q_saved q_w q_savedWords q_isSaved q_text q_far q_queue q_parent q_by q_seen q_path q_row q_more q_stateOf v_textLength v_steps v_missing v_mores v_hash v_m)) [0, 1] rfl rfl
    refine r_VI (r := r) (As := []) (rest := []) (wc' := (ws_Mo_finals cI cJ cZ q_this q_m q_saved q_w q_savedWords q_isSaved q_text q_far q_queue q_parent q_by q_seen q_path q_row q_more q_stateOf v_textLength v_steps v_missing v_mores v_hash v_m)) (ws' := (ws_Mo_count cI cJ cZ q_this q_m q_saved q_w q_savedWords q_isSaved q_text q_far q_queue q_parent q_by q_seen q_path q_row q_more q_stateOf v_textLength v_steps v_missing v_mores v_hash v_m)) C0 w (c_Mo_finals hcall) hp hp' lm_RX10_93 mv_Mo_finals ⟨rfl, rfl⟩ ⟨by decide, by decide⟩ ⟨Nat.zero_le _, Nat.zero_le _⟩ (q0 := 0) rfl rfl rfl rfl hl rfl (Nat.le_of_ble_eq_true rfl) dX10_count_83 (fun H locs w => ?_)
    cases h
    exact hQ _ _ _ _ dX10_count_86 rfl w
  have h := nf_h e2 h
  by_cases e3 : x1 = (3 : Int32)
  · have h := if_h e3 h
    refine lv_tableIn (off := 86) (tgt := 87) hx hb dX10_count_1 (by rw [e3]; decide) (by rw [e3]; decide) (by rw [e3]; decide) (by decide) ?_
    refine lv_aload_n hx hb dX10_count_87 rfl (lv_at hl 0 rfl) ?_
    refine r_get C0 w 0 rfl kf_Mo 0 (by decide) lf_RX10_7 rfl dX10_count_88 ?_
    refine lv_bipush (v := (34 : Int32)) hx hb dX10_count_91 (by decide) ?_
    refine r_iald C0 w 1 rfl (k := 34) (by decide) (inl (by decide)) dX10_count_93 ?_
    cases h
    exact hQ _ _ _ _ dX10_count_94 rfl w
  have h := nf_h e3 h
  by_cases e4 : x1 = (4 : Int32)
  · have h := if_h e4 h
    refine lv_tableIn (off := 94) (tgt := 95) hx hb dX10_count_1 (by rw [e4]; decide) (by rw [e4]; decide) (by rw [e4]; decide) (by decide) ?_
    refine lv_aload_n hx hb dX10_count_95 rfl (lv_at hl 0 rfl) ?_
    refine r_get C0 w 0 rfl kf_Mo 0 (by decide) lf_RX10_7 rfl dX10_count_96 ?_
    refine lv_bipush (v := (35 : Int32)) hx hb dX10_count_99 (by decide) ?_
    refine r_iald C0 w 1 rfl (k := 35) (by decide) (inl (by decide)) dX10_count_101 ?_
    cases h
    exact hQ _ _ _ _ dX10_count_102 rfl w
  have h := nf_h e4 h
  by_cases e5 : x1 = (5 : Int32)
  · have h := if_h e5 h
    refine lv_tableIn (off := 102) (tgt := 103) hx hb dX10_count_1 (by rw [e5]; decide) (by rw [e5]; decide) (by rw [e5]; decide) (by decide) ?_
    refine lv_aload_n hx hb dX10_count_103 rfl (lv_at hl 0 rfl) ?_
    refine r_get C0 w 0 rfl kf_Mo 0 (by decide) lf_RX10_7 rfl dX10_count_104 ?_
    refine lv_bipush (v := (36 : Int32)) hx hb dX10_count_107 (by decide) ?_
    refine r_iald C0 w 1 rfl (k := 36) (by decide) (inl (by decide)) dX10_count_109 ?_
    cases h
    exact hQ _ _ _ _ dX10_count_110 rfl w
  have h := nf_h e5 h
  by_cases e6 : x1 = (6 : Int32)
  · have h := if_h e6 h
    refine lv_tableIn (off := 110) (tgt := 111) hx hb dX10_count_1 (by rw [e6]; decide) (by rw [e6]; decide) (by rw [e6]; decide) (by decide) ?_
    refine lv_aload_n hx hb dX10_count_111 rfl (lv_at hl 0 rfl) ?_
    refine r_get C0 w 0 rfl kf_Mo 0 (by decide) lf_RX10_7 rfl dX10_count_112 ?_
    refine lv_bipush (v := (37 : Int32)) hx hb dX10_count_115 (by decide) ?_
    refine r_iald C0 w 1 rfl (k := 37) (by decide) (inl (by decide)) dX10_count_117 ?_
    cases h
    exact hQ _ _ _ _ dX10_count_118 rfl w
  have h := nf_h e6 h
  by_cases e7 : x1 = (7 : Int32)
  · have h := if_h e7 h
    refine lv_tableIn (off := 118) (tgt := 119) hx hb dX10_count_1 (by rw [e7]; decide) (by rw [e7]; decide) (by rw [e7]; decide) (by decide) ?_
    refine lv_aload_n hx hb dX10_count_119 rfl (lv_at hl 0 rfl) ?_
    refine r_get C0 w 0 rfl kf_Mo 0 (by decide) lf_RX10_7 rfl dX10_count_120 ?_
    refine lv_bipush (v := (38 : Int32)) hx hb dX10_count_123 (by decide) ?_
    refine r_iald C0 w 1 rfl (k := 38) (by decide) (inl (by decide)) dX10_count_125 ?_
    cases h
    exact hQ _ _ _ _ dX10_count_126 rfl w
  have h := nf_h e7 h
  by_cases e8 : x1 = (8 : Int32)
  · have h := if_h e8 h
    refine lv_tableIn (off := 126) (tgt := 127) hx hb dX10_count_1 (by rw [e8]; decide) (by rw [e8]; decide) (by rw [e8]; decide) (by decide) ?_
    refine lv_aload_n hx hb dX10_count_127 rfl (lv_at hl 0 rfl) ?_
    refine r_get C0 w 0 rfl kf_Mo 0 (by decide) lf_RX10_7 rfl dX10_count_128 ?_
    refine lv_bipush (v := (39 : Int32)) hx hb dX10_count_131 (by decide) ?_
    refine r_iald C0 w 1 rfl (k := 39) (by decide) (inl (by decide)) dX10_count_133 ?_
    cases h
    exact hQ _ _ _ _ dX10_count_134 rfl w
  have h := nf_h e8 h
  by_cases e9 : x1 = (9 : Int32)
  · have h := if_h e9 h
    refine lv_tableIn (off := 134) (tgt := 135) hx hb dX10_count_1 (by rw [e9]; decide) (by rw [e9]; decide) (by rw [e9]; decide) (by decide) ?_
    refine lv_aload_n hx hb dX10_count_135 rfl (lv_at hl 0 rfl) ?_
    refine r_get C0 w 0 rfl kf_Mo 0 (by decide) lf_RX10_7 rfl dX10_count_136 ?_
    refine lv_bipush (v := (40 : Int32)) hx hb dX10_count_139 (by decide) ?_
    refine r_iald C0 w 1 rfl (k := 40) (by decide) (inl (by decide)) dX10_count_141 ?_
    cases h
    exact hQ _ _ _ _ dX10_count_142 rfl w
  have h := nf_h e9 h
  by_cases e10 : x1 = (10 : Int32)
  · have h := if_h e10 h
    refine lv_tableIn (off := 142) (tgt := 143) hx hb dX10_count_1 (by rw [e10]; decide) (by rw [e10]; decide) (by rw [e10]; decide) (by decide) ?_
    refine lv_aload_n hx hb dX10_count_143 rfl (lv_at hl 0 rfl) ?_
    refine r_get C0 w 0 rfl kf_Mo 0 (by decide) lf_RX10_7 rfl dX10_count_144 ?_
    refine lv_bipush (v := (42 : Int32)) hx hb dX10_count_147 (by decide) ?_
    refine r_iald C0 w 1 rfl (k := 42) (by decide) (inl (by decide)) dX10_count_149 ?_
    cases h
    exact hQ _ _ _ _ dX10_count_150 rfl w
  have h := nf_h e10 h
  by_cases e11 : x1 = (11 : Int32)
  · have h := if_h e11 h
    refine lv_tableIn (off := 150) (tgt := 151) hx hb dX10_count_1 (by rw [e11]; decide) (by rw [e11]; decide) (by rw [e11]; decide) (by decide) ?_
    refine lv_aload_n hx hb dX10_count_151 rfl (lv_at hl 0 rfl) ?_
    refine r_get C0 w 0 rfl kf_Mo 0 (by decide) lf_RX10_7 rfl dX10_count_152 ?_
    refine lv_bipush (v := (43 : Int32)) hx hb dX10_count_155 (by decide) ?_
    refine r_iald C0 w 1 rfl (k := 43) (by decide) (inl (by decide)) dX10_count_157 ?_
    cases h
    exact hQ _ _ _ _ dX10_count_158 rfl w
  have h := nf_h e11 h
  by_cases e12 : x1 = (12 : Int32)
  · have h := if_h e12 h
    refine lv_tableIn (off := 158) (tgt := 159) hx hb dX10_count_1 (by rw [e12]; decide) (by rw [e12]; decide) (by rw [e12]; decide) (by decide) ?_
    refine lv_aload_n hx hb dX10_count_159 rfl (lv_at hl 0 rfl) ?_
    refine r_get C0 w 0 rfl kf_Mo 6 (by decide) lf_RX10_72 rfl dX10_count_160 ?_
    cases h
    exact hQ _ _ _ _ dX10_count_163 rfl w
  have h := nf_h e12 h
  refine lv_tableOut (tgt := 164) hx hb dX10_count_1 (tsw13 e0 e1 e2 e3 e4 e5 e6 e7 e8 e9 e10 e11 e12) (by decide) ?_
  refine lv_bipush (v := (-2 : Int32)) hx hb dX10_count_164 (by decide) ?_
  cases h
  exact hQ _ _ _ _ dX10_count_166 rfl w
theorem dX10_mixes_0 : decode cX10_mixes 0 = .ok (.aload_n 0, 1) := by decide +kernel
theorem dX10_mixes_1 : decode cX10_mixes 1 = .ok (.ldc2_w 208, 3) := by decide +kernel
theorem dX10_mixes_4 : decode cX10_mixes 4 = .ok (.aload_n 0, 1) := by decide +kernel
theorem dX10_mixes_5 : decode cX10_mixes 5 = .ok (.getfield 210, 3) := by decide +kernel
theorem dX10_mixes_8 : decode cX10_mixes 8 = .ok (.lmul, 1) := by decide +kernel
theorem dX10_mixes_9 : decode cX10_mixes 9 = .ok (.iload_n 1, 1) := by decide +kernel
theorem dX10_mixes_10 : decode cX10_mixes 10 = .ok (.i2l, 1) := by decide +kernel
theorem dX10_mixes_11 : decode cX10_mixes 11 = .ok (.ladd, 1) := by decide +kernel
theorem dX10_mixes_12 : decode cX10_mixes 12 = .ok (.putfield 210, 3) := by decide +kernel
theorem dX10_mixes_15 : decode cX10_mixes 15 = .ok (.return_, 1) := by decide +kernel
set_option maxRecDepth 100000 in
theorem c_Mo_mixes {l : Launch} {D : va_G} {cI cJ cZ cO : ClassId} {q_this q_m q_saved q_w q_savedWords q_isSaved q_text q_far q_queue q_parent q_by q_seen q_path q_row q_more q_stateOf : Nat} {x1 : Int32} {v_textLength : Int32} {v_steps : Int32} {v_missing : Int64} {v_mores : Int32} {v_hash : Int64} {x : Int64} (h : f_Mo_mixes x1 v_hash = some x) : ctV l D cI cJ cZ cO yX10_mixes cX10_mixes 2 rm_Mo_mixes [.ref q_this, .int x1] (ws_Mo_mixes cI cJ cZ q_this q_m q_saved q_w q_savedWords q_isSaved q_text q_far q_queue q_parent q_by q_seen q_path q_row q_more q_stateOf v_textLength v_steps v_missing v_mores v_hash) (ws_Mo_mixes cI cJ cZ q_this q_m q_saved q_w q_savedWords q_isSaved q_text q_far q_queue q_parent q_by q_seen q_path q_row q_more q_stateOf v_textLength v_steps v_missing v_mores x) := by
  refine ctV_of (by decide) (Nat.le_of_ble_eq_true rfl) ?_
  intro p e s m below meth c Q A ls C0 hQ w hl
  have hl : lv_has ls 2 [(0, .ref q_this), (1, .int x1)] := hl
  generalize List.toArray (α := Value) [.ref q_this, .int x1] = args at C0 hQ ⊢
  obtain ⟨hx, hb, hml, hown, hts, -, -⟩ := id C0
  unfold f_Mo_mixes at h
  refine lv_aload_n hx hb dX10_mixes_0 rfl (lv_at hl 0 rfl) ?_
  refine lv_ldc2 (v := (31 : Int64)) hx hb hown (hts _ ll_RX10_208) dX10_mixes_1 ?_
  refine lv_aload_n hx hb dX10_mixes_4 rfl (lv_at hl 0 rfl) ?_
  refine r_get C0 w 0 rfl kf_Mo 19 (by decide) lf_RX10_210 rfl dX10_mixes_5 ?_
  refine lv_lmul hx hb dX10_mixes_8 ?_
  refine lv_iload_n hx hb dX10_mixes_9 rfl (lv_at hl 1 rfl) ?_
  refine lv_i2l hx hb dX10_mixes_10 rfl ?_
  refine lv_ladd hx hb dX10_mixes_11 ?_
  refine lv_topl (fun v_hash_1 ev_hash_1 => ?_)
  have h := bnd_at ev_hash_1 h
  refine r_put C0 w 0 rfl kf_Mo 19 (by decide) lf_RX10_210 rfl rfl rfl (Nat.le_of_ble_eq_true rfl) dX10_mixes_12 (ws' := (ws_Mo_mixes cI cJ cZ q_this q_m q_saved q_w q_savedWords q_isSaved q_text q_far q_queue q_parent q_by q_seen q_path q_row q_more q_stateOf v_textLength v_steps v_missing v_mores v_hash_1)) rfl (fun H locs w => ?_)
  cases h
  exact hQ _ _ _ _ dX10_mixes_15 w
theorem dX10_mixesWord_0 : decode cX10_mixesWord 0 = .ok (.lload_n 1, 1) := by decide +kernel
theorem dX10_mixesWord_1 : decode cX10_mixesWord 1 = .ok (.invokestatic 62, 3) := by decide +kernel
theorem dX10_mixesWord_4 : decode cX10_mixesWord 4 = .ok (.istore_n 3, 1) := by decide +kernel
theorem dX10_mixesWord_5 : decode cX10_mixesWord 5 = .ok (.aload_n 0, 1) := by decide +kernel
theorem dX10_mixesWord_6 : decode cX10_mixesWord 6 = .ok (.iload_n 3, 1) := by decide +kernel
theorem dX10_mixesWord_7 : decode cX10_mixesWord 7 = .ok (.invokevirtual 213, 3) := by decide +kernel
theorem dX10_mixesWord_10 : decode cX10_mixesWord 10 = .ok (.iconst 0, 1) := by decide +kernel
theorem dX10_mixesWord_11 : decode cX10_mixesWord 11 = .ok (.istore 4, 2) := by decide +kernel
theorem dX10_mixesWord_13 : decode cX10_mixesWord 13 = .ok (.iload 4, 2) := by decide +kernel
theorem dX10_mixesWord_15 : decode cX10_mixesWord 15 = .ok (.iload_n 3, 1) := by decide +kernel
theorem dX10_mixesWord_16 : decode cX10_mixesWord 16 = .ok (.if_icmp .ge 19, 3) := by decide +kernel
theorem dX10_mixesWord_19 : decode cX10_mixesWord 19 = .ok (.aload_n 0, 1) := by decide +kernel
theorem dX10_mixesWord_20 : decode cX10_mixesWord 20 = .ok (.lload_n 1, 1) := by decide +kernel
theorem dX10_mixesWord_21 : decode cX10_mixesWord 21 = .ok (.iload 4, 2) := by decide +kernel
theorem dX10_mixesWord_23 : decode cX10_mixesWord 23 = .ok (.invokestatic 68, 3) := by decide +kernel
theorem dX10_mixesWord_26 : decode cX10_mixesWord 26 = .ok (.invokevirtual 213, 3) := by decide +kernel
theorem dX10_mixesWord_29 : decode cX10_mixesWord 29 = .ok (.iinc 4 1, 3) := by decide +kernel
theorem dX10_mixesWord_32 : decode cX10_mixesWord 32 = .ok (.goto (-19), 3) := by decide +kernel
theorem dX10_mixesWord_35 : decode cX10_mixesWord 35 = .ok (.return_, 1) := by decide +kernel
set_option maxRecDepth 100000 in
theorem w_Mo_mixesWord_L13 {p : Program} {l : Launch} {e : Env} {s : State} {m : MethodId} {args : Array Value} {below : List Frame} {meth : Method} {c : Code} {Q : State → Prop} {A : Nat → Prop} {D : va_G} {cI cJ cZ cO : ClassId} {q_this q_m q_saved q_w q_savedWords q_isSaved q_text q_far q_queue q_parent q_by q_seen q_path q_row q_more q_stateOf : Nat} {v_textLength : Int32} {v_steps : Int32} {v_missing : Int64} {v_mores : Int32} {x1 : Int64} {x3 : Int32} {x : Int64} (C0 : Cx p s m args c A D cI cJ cZ cO cX10_mixesWord 5 RX10) (hQ : RtV p l e rm_Mo_mixesWord s m args below meth c Q A D cX10_mixesWord (ws_Mo_mixesWord cI cJ cZ q_this q_m q_saved q_w q_savedWords q_isSaved q_text q_far q_queue q_parent q_by q_seen q_path q_row q_more q_stateOf v_textLength v_steps v_missing v_mores x)) {K : Int32 → Int64 → Option (Int64)} (hK : ∀ (x4 : Int32) (v_hash : Int64) (H : Heap) (locs : List Loc) (ls : Array Slot), K x4 v_hash = some x → Wd s A D (ws_Mo_mixesWord cI cJ cZ q_this q_m q_saved q_w q_savedWords q_isSaved q_text q_far q_queue q_parent q_by q_seen q_path q_row q_more q_stateOf v_textLength v_steps v_missing v_mores v_hash) H locs → lv_has ls 5 [] → W p l e rm_Mo_mixesWord s m args below meth c H locs 0 0 Q (F0 m 35 ls [])) {rec : Int32 → Int64 → Option (Int64)} (hrec : ∀ (x4 : Int32) (v_hash : Int64) (H : Heap) (locs : List Loc) (ls : Array Slot), rec x4 v_hash = some x → Wd s A D (ws_Mo_mixesWord cI cJ cZ q_this q_m q_saved q_w q_savedWords q_isSaved q_text q_far q_queue q_parent q_by q_seen q_path q_row q_more q_stateOf v_textLength v_steps v_missing v_mores v_hash) H locs → lv_has ls 5 [(0, .ref q_this), (1, .long x1), (3, .int x3), (4, .int x4)] → W p l e rm_Mo_mixesWord s m args below meth c H locs 0 0 Q (F0 m 13 ls [])) (x4 : Int32) (v_hash : Int64) {H : Heap} {locs : List Loc} {ls : Array Slot} (h : f_Mo_mixesWord_L13 x1 x3 K rec x4 v_hash = some x) (w : Wd s A D (ws_Mo_mixesWord cI cJ cZ q_this q_m q_saved q_w q_savedWords q_isSaved q_text q_far q_queue q_parent q_by q_seen q_path q_row q_more q_stateOf v_textLength v_steps v_missing v_mores v_hash) H locs) (hl : lv_has ls 5 [(0, .ref q_this), (1, .long x1), (3, .int x3), (4, .int x4)]) : W p l e rm_Mo_mixesWord s m args below meth c H locs 0 0 Q (F0 m 13 ls []) := by
  obtain ⟨hx, hb, hml, hown, hts, -, -⟩ := id C0
  unfold f_Mo_mixesWord_L13 at h
  refine lv_iload hx hb dX10_mixesWord_13 (lv_at hl 3 rfl) ?_
  refine lv_iload_n hx hb dX10_mixesWord_15 rfl (lv_at hl 2 rfl) ?_
  refine lv_icmp_ge (tgt := 35) hx hb dX10_mixesWord_16 (by decide) (fun hc => ?_) (fun hc => ?_)
  · have h := if_h hc h
    exact hK _ _ _ _ _ h w (lv_sub hl [] rfl)
  · have h := nf_h hc h
    refine lv_aload_n hx hb dX10_mixesWord_19 rfl (lv_at hl 0 rfl) ?_
    refine lv_lload_n hx hb dX10_mixesWord_20 rfl (lv_at hl 1 rfl) ?_
    refine lv_iload hx hb dX10_mixesWord_21 (lv_at hl 3 rfl) ?_
    obtain ⟨r, hcall, h⟩ := bd1_h h
    obtain ⟨wr, hp, hp'⟩ := rd_of (ws := (ws_Mo_mixesWord cI cJ cZ q_this q_m q_saved q_w q_savedWords q_isSaved q_text q_far q_queue q_parent q_by q_seen q_path q_row q_more q_stateOf v_textLength v_steps v_missing v_mores v_hash)) (wc := (ws_Mo_letterOf cI cJ cZ)) [] rfl rfl
    refine r_SI (r := r) (As := [.long x1, .int x4]) (rest := [.ref q_this]) (wc' := (ws_Mo_letterOf cI cJ cZ)) (ws' := (ws_Mo_mixesWord cI cJ cZ q_this q_m q_saved q_w q_savedWords q_isSaved q_text q_far q_queue q_parent q_by q_seen q_path q_row q_more q_stateOf v_textLength v_steps v_missing v_mores v_hash)) C0 w (c_Mo_letterOf hcall) hp hp' lm_RX10_68 ms_Mo_letterOf ⟨rfl, rfl⟩ ⟨by decide, by decide⟩ ⟨Nat.zero_le _, Nat.zero_le _⟩ rfl hl rfl (Nat.le_of_ble_eq_true rfl) dX10_mixesWord_23 (fun H locs w => ?_)
    obtain ⟨v_hash_1, hcall, h⟩ := bd1_h h
    have hp := sp_of (ws := (ws_Mo_mixesWord cI cJ cZ q_this q_m q_saved q_w q_savedWords q_isSaved q_text q_far q_queue q_parent q_by q_seen q_path q_row q_more q_stateOf v_textLength v_steps v_missing v_mores v_hash)) (wc := (ws_Mo_mixes cI cJ cZ q_this q_m q_saved q_w q_savedWords q_isSaved q_text q_far q_queue q_parent q_by q_seen q_path q_row q_more q_stateOf v_textLength v_steps v_missing v_mores v_hash)) [0] [] rfl rfl
    have hp' : Rp (pk (ws_Mo_mixesWord cI cJ cZ q_this q_m q_saved q_w q_savedWords q_isSaved q_text q_far q_queue q_parent q_by q_seen q_path q_row q_more q_stateOf v_textLength v_steps v_missing v_mores v_hash) [] ++ (ws_Mo_mixes cI cJ cZ q_this q_m q_saved q_w q_savedWords q_isSaved q_text q_far q_queue q_parent q_by q_seen q_path q_row q_more q_stateOf v_textLength v_steps v_missing v_mores v_hash_1)) (ws_Mo_mixesWord cI cJ cZ q_this q_m q_saved q_w q_savedWords q_isSaved q_text q_far q_queue q_parent q_by q_seen q_path q_row q_more q_stateOf v_textLength v_steps v_missing v_mores v_hash_1) := ⟨[0], rfl, rfl⟩
    refine r_VV (As := [.int r]) (rest := []) (wc' := (ws_Mo_mixes cI cJ cZ q_this q_m q_saved q_w q_savedWords q_isSaved q_text q_far q_queue q_parent q_by q_seen q_path q_row q_more q_stateOf v_textLength v_steps v_missing v_mores v_hash_1)) (ws' := (ws_Mo_mixesWord cI cJ cZ q_this q_m q_saved q_w q_savedWords q_isSaved q_text q_far q_queue q_parent q_by q_seen q_path q_row q_more q_stateOf v_textLength v_steps v_missing v_mores v_hash_1)) C0 w (c_Mo_mixes hcall) hp hp' lm_RX10_213 mv_Mo_mixes ⟨rfl, rfl⟩ ⟨by decide, by decide⟩ ⟨Nat.zero_le _, Nat.zero_le _⟩ (q0 := 0) rfl rfl rfl rfl hl rfl (Nat.le_of_ble_eq_true rfl) dX10_mixesWord_26 (fun H locs w => ?_)
    obtain ⟨x4_1, ex4_1⟩ : ∃ y : Int32, y = (x4 + 1) := ⟨_, rfl⟩
    have h := bnd_at ex4_1 h
    refine lv_iinc (v := x4_1) (lv' := [(4, .int x4_1), (0, .ref q_this), (1, .long x1), (3, .int x3)]) hx hb dX10_mixesWord_29 hl (k := 3) rfl (by rw [ex4_1]; rfl) (by decide) rfl (fun ls hl => ?_)
    refine lv_goto (tgt := 13) hx hb dX10_mixesWord_32 (by decide) ?_
    exact hrec _ _ _ _ _ h w (lv_sub hl [1, 2, 3, 0] rfl)
set_option maxRecDepth 100000 in
theorem wl_Mo_mixesWord_L13 {p : Program} {l : Launch} {e : Env} {s : State} {m : MethodId} {args : Array Value} {below : List Frame} {meth : Method} {c : Code} {Q : State → Prop} {A : Nat → Prop} {D : va_G} {cI cJ cZ cO : ClassId} {q_this q_m q_saved q_w q_savedWords q_isSaved q_text q_far q_queue q_parent q_by q_seen q_path q_row q_more q_stateOf : Nat} {v_textLength : Int32} {v_steps : Int32} {v_missing : Int64} {v_mores : Int32} {x1 : Int64} {x3 : Int32} {x : Int64} (C0 : Cx p s m args c A D cI cJ cZ cO cX10_mixesWord 5 RX10) (hQ : RtV p l e rm_Mo_mixesWord s m args below meth c Q A D cX10_mixesWord (ws_Mo_mixesWord cI cJ cZ q_this q_m q_saved q_w q_savedWords q_isSaved q_text q_far q_queue q_parent q_by q_seen q_path q_row q_more q_stateOf v_textLength v_steps v_missing v_mores x)) {K : Int32 → Int64 → Option (Int64)} (hK : ∀ (x4 : Int32) (v_hash : Int64) (H : Heap) (locs : List Loc) (ls : Array Slot), K x4 v_hash = some x → Wd s A D (ws_Mo_mixesWord cI cJ cZ q_this q_m q_saved q_w q_savedWords q_isSaved q_text q_far q_queue q_parent q_by q_seen q_path q_row q_more q_stateOf v_textLength v_steps v_missing v_mores v_hash) H locs → lv_has ls 5 [] → W p l e rm_Mo_mixesWord s m args below meth c H locs 0 0 Q (F0 m 35 ls [])) : ∀ (n : Nat) (x4 : Int32) (v_hash : Int64) (H : Heap) (locs : List Loc) (ls : Array Slot), itr (fun _ _ => none) (f_Mo_mixesWord_L13 x1 x3 K) n x4 v_hash = some x → Wd s A D (ws_Mo_mixesWord cI cJ cZ q_this q_m q_saved q_w q_savedWords q_isSaved q_text q_far q_queue q_parent q_by q_seen q_path q_row q_more q_stateOf v_textLength v_steps v_missing v_mores v_hash) H locs → lv_has ls 5 [(0, .ref q_this), (1, .long x1), (3, .int x3), (4, .int x4)] → W p l e rm_Mo_mixesWord s m args below meth c H locs 0 0 Q (F0 m 13 ls []) := by
  intro n
  induction n with
  | zero => intro _ _ _ _ _ h; cases (show none = some _ from h)
  | succ n ih => intro _ _ _ _ _ h w hl; exact w_Mo_mixesWord_L13 C0 hQ hK ih _ _ h w hl
set_option maxRecDepth 100000 in
theorem c_Mo_mixesWord {l : Launch} {D : va_G} {cI cJ cZ cO : ClassId} {q_this q_m q_saved q_w q_savedWords q_isSaved q_text q_far q_queue q_parent q_by q_seen q_path q_row q_more q_stateOf : Nat} {x1 : Int64} {v_textLength : Int32} {v_steps : Int32} {v_missing : Int64} {v_mores : Int32} {v_hash : Int64} {x : Int64} (h : f_Mo_mixesWord x1 v_hash = some x) : ctV l D cI cJ cZ cO yX10_mixesWord cX10_mixesWord 5 rm_Mo_mixesWord [.ref q_this, .long x1] (ws_Mo_mixesWord cI cJ cZ q_this q_m q_saved q_w q_savedWords q_isSaved q_text q_far q_queue q_parent q_by q_seen q_path q_row q_more q_stateOf v_textLength v_steps v_missing v_mores v_hash) (ws_Mo_mixesWord cI cJ cZ q_this q_m q_saved q_w q_savedWords q_isSaved q_text q_far q_queue q_parent q_by q_seen q_path q_row q_more q_stateOf v_textLength v_steps v_missing v_mores x) := by
  refine ctV_of (by decide) (Nat.le_of_ble_eq_true rfl) ?_
  intro p e s m below meth c Q A ls C0 hQ w hl
  have hl : lv_has ls 5 [(0, .ref q_this), (1, .long x1)] := hl
  generalize List.toArray (α := Value) [.ref q_this, .long x1] = args at C0 hQ ⊢
  obtain ⟨hx, hb, hml, hown, hts, -, -⟩ := id C0
  unfold f_Mo_mixesWord at h
  refine lv_lload_n hx hb dX10_mixesWord_0 rfl (lv_at hl 1 rfl) ?_
  obtain ⟨r, hcall, h⟩ := bd1_h h
  obtain ⟨wr, hp, hp'⟩ := rd_of (ws := (ws_Mo_mixesWord cI cJ cZ q_this q_m q_saved q_w q_savedWords q_isSaved q_text q_far q_queue q_parent q_by q_seen q_path q_row q_more q_stateOf v_textLength v_steps v_missing v_mores v_hash)) (wc := (ws_Mo_lengthOf cI cJ cZ)) [] rfl rfl
  refine r_SI (r := r) (As := [.long x1]) (rest := []) (wc' := (ws_Mo_lengthOf cI cJ cZ)) (ws' := (ws_Mo_mixesWord cI cJ cZ q_this q_m q_saved q_w q_savedWords q_isSaved q_text q_far q_queue q_parent q_by q_seen q_path q_row q_more q_stateOf v_textLength v_steps v_missing v_mores v_hash)) C0 w (c_Mo_lengthOf hcall) hp hp' lm_RX10_62 ms_Mo_lengthOf ⟨rfl, rfl⟩ ⟨by decide, by decide⟩ ⟨Nat.zero_le _, Nat.zero_le _⟩ rfl hl rfl (Nat.le_of_ble_eq_true rfl) dX10_mixesWord_1 (fun H locs w => ?_)
  refine lv_istore_n (lv' := [(3, .int r), (0, .ref q_this), (1, .long x1)]) hx hb dX10_mixesWord_4 rfl hl (by decide) rfl (fun ls hl => ?_)
  refine lv_aload_n hx hb dX10_mixesWord_5 rfl (lv_at hl 1 rfl) ?_
  refine lv_iload_n hx hb dX10_mixesWord_6 rfl (lv_at hl 0 rfl) ?_
  obtain ⟨v_hash_1, hcall, h⟩ := bd1_h h
  have hp := sp_of (ws := (ws_Mo_mixesWord cI cJ cZ q_this q_m q_saved q_w q_savedWords q_isSaved q_text q_far q_queue q_parent q_by q_seen q_path q_row q_more q_stateOf v_textLength v_steps v_missing v_mores v_hash)) (wc := (ws_Mo_mixes cI cJ cZ q_this q_m q_saved q_w q_savedWords q_isSaved q_text q_far q_queue q_parent q_by q_seen q_path q_row q_more q_stateOf v_textLength v_steps v_missing v_mores v_hash)) [0] [] rfl rfl
  have hp' : Rp (pk (ws_Mo_mixesWord cI cJ cZ q_this q_m q_saved q_w q_savedWords q_isSaved q_text q_far q_queue q_parent q_by q_seen q_path q_row q_more q_stateOf v_textLength v_steps v_missing v_mores v_hash) [] ++ (ws_Mo_mixes cI cJ cZ q_this q_m q_saved q_w q_savedWords q_isSaved q_text q_far q_queue q_parent q_by q_seen q_path q_row q_more q_stateOf v_textLength v_steps v_missing v_mores v_hash_1)) (ws_Mo_mixesWord cI cJ cZ q_this q_m q_saved q_w q_savedWords q_isSaved q_text q_far q_queue q_parent q_by q_seen q_path q_row q_more q_stateOf v_textLength v_steps v_missing v_mores v_hash_1) := ⟨[0], rfl, rfl⟩
  refine r_VV (As := [.int r]) (rest := []) (wc' := (ws_Mo_mixes cI cJ cZ q_this q_m q_saved q_w q_savedWords q_isSaved q_text q_far q_queue q_parent q_by q_seen q_path q_row q_more q_stateOf v_textLength v_steps v_missing v_mores v_hash_1)) (ws' := (ws_Mo_mixesWord cI cJ cZ q_this q_m q_saved q_w q_savedWords q_isSaved q_text q_far q_queue q_parent q_by q_seen q_path q_row q_more q_stateOf v_textLength v_steps v_missing v_mores v_hash_1)) C0 w (c_Mo_mixes hcall) hp hp' lm_RX10_213 mv_Mo_mixes ⟨rfl, rfl⟩ ⟨by decide, by decide⟩ ⟨Nat.zero_le _, Nat.zero_le _⟩ (q0 := 0) rfl rfl rfl rfl hl rfl (Nat.le_of_ble_eq_true rfl) dX10_mixesWord_7 (fun H locs w => ?_)
  refine lv_iconst (v := (0 : Int32)) hx hb dX10_mixesWord_10 (by decide) ?_
  refine lv_istore (lv' := [(4, .int (0 : Int32)), (3, .int r), (0, .ref q_this), (1, .long x1)]) hx hb dX10_mixesWord_11 hl (by decide) rfl (fun ls hl => ?_)
  refine wl_Mo_mixesWord_L13 C0 hQ (fun x4 v_hash_2 H locs ls h w hl => ?_) _ _ _ _ _ _ h w (lv_sub hl [2, 3, 1, 0] rfl)
  cases h
  exact hQ _ _ _ _ dX10_mixesWord_35 w
theorem dX10_mixesRow_0 : decode cX10_mixesRow 0 = .ok (.iconst 0, 1) := by decide +kernel
theorem dX10_mixesRow_1 : decode cX10_mixesRow 1 = .ok (.istore_n 3, 1) := by decide +kernel
theorem dX10_mixesRow_2 : decode cX10_mixesRow 2 = .ok (.iload_n 3, 1) := by decide +kernel
theorem dX10_mixesRow_3 : decode cX10_mixesRow 3 = .ok (.aload_n 0, 1) := by decide +kernel
theorem dX10_mixesRow_4 : decode cX10_mixesRow 4 = .ok (.getfield 7, 3) := by decide +kernel
theorem dX10_mixesRow_7 : decode cX10_mixesRow 7 = .ok (.bipush 39, 2) := by decide +kernel
theorem dX10_mixesRow_9 : decode cX10_mixesRow 9 = .ok (.iaload, 1) := by decide +kernel
theorem dX10_mixesRow_10 : decode cX10_mixesRow 10 = .ok (.if_icmp .ge 20, 3) := by decide +kernel
theorem dX10_mixesRow_13 : decode cX10_mixesRow 13 = .ok (.aload_n 0, 1) := by decide +kernel
theorem dX10_mixesRow_14 : decode cX10_mixesRow 14 = .ok (.aload_n 0, 1) := by decide +kernel
theorem dX10_mixesRow_15 : decode cX10_mixesRow 15 = .ok (.iload_n 1, 1) := by decide +kernel
theorem dX10_mixesRow_16 : decode cX10_mixesRow 16 = .ok (.iload_n 2, 1) := by decide +kernel
theorem dX10_mixesRow_17 : decode cX10_mixesRow 17 = .ok (.iload_n 3, 1) := by decide +kernel
theorem dX10_mixesRow_18 : decode cX10_mixesRow 18 = .ok (.invokevirtual 217, 3) := by decide +kernel
theorem dX10_mixesRow_21 : decode cX10_mixesRow 21 = .ok (.invokevirtual 213, 3) := by decide +kernel
theorem dX10_mixesRow_24 : decode cX10_mixesRow 24 = .ok (.iinc 3 1, 3) := by decide +kernel
theorem dX10_mixesRow_27 : decode cX10_mixesRow 27 = .ok (.goto (-25), 3) := by decide +kernel
theorem dX10_mixesRow_30 : decode cX10_mixesRow 30 = .ok (.return_, 1) := by decide +kernel
set_option maxRecDepth 100000 in
theorem w_Mo_mixesRow_L2 {p : Program} {l : Launch} {e : Env} {s : State} {m : MethodId} {args : Array Value} {below : List Frame} {meth : Method} {c : Code} {Q : State → Prop} {A : Nat → Prop} {D : va_G} {cI cJ cZ cO : ClassId} {q_this q_m q_saved q_w q_savedWords q_isSaved q_text q_far q_queue q_parent q_by q_seen q_path q_row q_more q_stateOf : Nat} {v_textLength : Int32} {v_steps : Int32} {v_missing : Int64} {v_mores : Int32} {v_m : (Nat → Int32)} {v_w : (Nat → Int64)} {x1 : Int32} {x2 : Int32} {x : Int64} (C0 : Cx p s m args c A D cI cJ cZ cO cX10_mixesRow 4 RX10) (hQ : RtV p l e rm_Mo_mixesRow s m args below meth c Q A D cX10_mixesRow (ws_Mo_mixesRow cI cJ cZ q_this q_m q_saved q_w q_savedWords q_isSaved q_text q_far q_queue q_parent q_by q_seen q_path q_row q_more q_stateOf v_textLength v_steps v_missing v_mores x v_m v_w)) {K : Int32 → Int64 → Option (Int64)} (hK : ∀ (x3 : Int32) (v_hash : Int64) (H : Heap) (locs : List Loc) (ls : Array Slot), K x3 v_hash = some x → Wd s A D (ws_Mo_mixesRow cI cJ cZ q_this q_m q_saved q_w q_savedWords q_isSaved q_text q_far q_queue q_parent q_by q_seen q_path q_row q_more q_stateOf v_textLength v_steps v_missing v_mores v_hash v_m v_w) H locs → lv_has ls 4 [] → W p l e rm_Mo_mixesRow s m args below meth c H locs 0 0 Q (F0 m 30 ls [])) {rec : Int32 → Int64 → Option (Int64)} (hrec : ∀ (x3 : Int32) (v_hash : Int64) (H : Heap) (locs : List Loc) (ls : Array Slot), rec x3 v_hash = some x → Wd s A D (ws_Mo_mixesRow cI cJ cZ q_this q_m q_saved q_w q_savedWords q_isSaved q_text q_far q_queue q_parent q_by q_seen q_path q_row q_more q_stateOf v_textLength v_steps v_missing v_mores v_hash v_m v_w) H locs → lv_has ls 4 [(0, .ref q_this), (1, .int x1), (2, .int x2), (3, .int x3)] → W p l e rm_Mo_mixesRow s m args below meth c H locs 0 0 Q (F0 m 2 ls [])) (x3 : Int32) (v_hash : Int64) {H : Heap} {locs : List Loc} {ls : Array Slot} (h : f_Mo_mixesRow_L2 v_m v_w x1 x2 K rec x3 v_hash = some x) (w : Wd s A D (ws_Mo_mixesRow cI cJ cZ q_this q_m q_saved q_w q_savedWords q_isSaved q_text q_far q_queue q_parent q_by q_seen q_path q_row q_more q_stateOf v_textLength v_steps v_missing v_mores v_hash v_m v_w) H locs) (hl : lv_has ls 4 [(0, .ref q_this), (1, .int x1), (2, .int x2), (3, .int x3)]) : W p l e rm_Mo_mixesRow s m args below meth c H locs 0 0 Q (F0 m 2 ls []) := by
  obtain ⟨hx, hb, hml, hown, hts, -, -⟩ := id C0
  unfold f_Mo_mixesRow_L2 at h
  refine lv_iload_n hx hb dX10_mixesRow_2 rfl (lv_at hl 3 rfl) ?_
  refine lv_aload_n hx hb dX10_mixesRow_3 rfl (lv_at hl 0 rfl) ?_
  refine r_get C0 w 0 rfl kf_Mo 0 (by decide) lf_RX10_7 rfl dX10_mixesRow_4 ?_
  refine lv_bipush (v := (39 : Int32)) hx hb dX10_mixesRow_7 (by decide) ?_
  refine r_iald C0 w 1 rfl (k := 39) (by decide) (inl (by decide)) dX10_mixesRow_9 ?_
  refine lv_icmp_ge (tgt := 30) hx hb dX10_mixesRow_10 (by decide) (fun hc => ?_) (fun hc => ?_)
  · have h := if_h hc h
    exact hK _ _ _ _ _ h w (lv_sub hl [] rfl)
  · have h := nf_h hc h
    refine lv_aload_n hx hb dX10_mixesRow_13 rfl (lv_at hl 0 rfl) ?_
    refine lv_aload_n hx hb dX10_mixesRow_14 rfl (lv_at hl 0 rfl) ?_
    refine lv_iload_n hx hb dX10_mixesRow_15 rfl (lv_at hl 1 rfl) ?_
    refine lv_iload_n hx hb dX10_mixesRow_16 rfl (lv_at hl 2 rfl) ?_
    refine lv_iload_n hx hb dX10_mixesRow_17 rfl (lv_at hl 3 rfl) ?_
    obtain ⟨r, hcall, h⟩ := bd1_h h
    obtain ⟨wr, hp, hp'⟩ := rd_of (ws := (ws_Mo_mixesRow cI cJ cZ q_this q_m q_saved q_w q_savedWords q_isSaved q_text q_far q_queue q_parent q_by q_seen q_path q_row q_more q_stateOf v_textLength v_steps v_missing v_mores v_hash v_m v_w)) (wc := (ws_Mo_cell cI cJ cZ q_this q_m q_saved q_w q_savedWords q_isSaved q_text q_far q_queue q_parent q_by q_seen q_path q_row q_more q_stateOf v_textLength v_steps v_missing v_mores v_hash v_m v_w)) [0, 1, 2] rfl rfl
    refine r_VI (r := r) (As := [.int x1, .int x2, .int x3]) (rest := [.ref q_this]) (wc' := (ws_Mo_cell cI cJ cZ q_this q_m q_saved q_w q_savedWords q_isSaved q_text q_far q_queue q_parent q_by q_seen q_path q_row q_more q_stateOf v_textLength v_steps v_missing v_mores v_hash v_m v_w)) (ws' := (ws_Mo_mixesRow cI cJ cZ q_this q_m q_saved q_w q_savedWords q_isSaved q_text q_far q_queue q_parent q_by q_seen q_path q_row q_more q_stateOf v_textLength v_steps v_missing v_mores v_hash v_m v_w)) C0 w (c_Mo_cell hcall) hp hp' lm_RX10_217 mv_Mo_cell ⟨rfl, rfl⟩ ⟨by decide, by decide⟩ ⟨Nat.zero_le _, Nat.zero_le _⟩ (q0 := 0) rfl rfl rfl rfl hl rfl (Nat.le_of_ble_eq_true rfl) dX10_mixesRow_18 (fun H locs w => ?_)
    obtain ⟨v_hash_1, hcall, h⟩ := bd1_h h
    have hp := sp_of (ws := (ws_Mo_mixesRow cI cJ cZ q_this q_m q_saved q_w q_savedWords q_isSaved q_text q_far q_queue q_parent q_by q_seen q_path q_row q_more q_stateOf v_textLength v_steps v_missing v_mores v_hash v_m v_w)) (wc := (ws_Mo_mixes cI cJ cZ q_this q_m q_saved q_w q_savedWords q_isSaved q_text q_far q_queue q_parent q_by q_seen q_path q_row q_more q_stateOf v_textLength v_steps v_missing v_mores v_hash)) [0] [1, 2] rfl rfl
    have hp' : Rp (pk (ws_Mo_mixesRow cI cJ cZ q_this q_m q_saved q_w q_savedWords q_isSaved q_text q_far q_queue q_parent q_by q_seen q_path q_row q_more q_stateOf v_textLength v_steps v_missing v_mores v_hash v_m v_w) [1, 2] ++ (ws_Mo_mixes cI cJ cZ q_this q_m q_saved q_w q_savedWords q_isSaved q_text q_far q_queue q_parent q_by q_seen q_path q_row q_more q_stateOf v_textLength v_steps v_missing v_mores v_hash_1)) (ws_Mo_mixesRow cI cJ cZ q_this q_m q_saved q_w q_savedWords q_isSaved q_text q_far q_queue q_parent q_by q_seen q_path q_row q_more q_stateOf v_textLength v_steps v_missing v_mores v_hash_1 v_m v_w) := ⟨[2, 0, 1], rfl, rfl⟩
    refine r_VV (As := [.int r]) (rest := []) (wc' := (ws_Mo_mixes cI cJ cZ q_this q_m q_saved q_w q_savedWords q_isSaved q_text q_far q_queue q_parent q_by q_seen q_path q_row q_more q_stateOf v_textLength v_steps v_missing v_mores v_hash_1)) (ws' := (ws_Mo_mixesRow cI cJ cZ q_this q_m q_saved q_w q_savedWords q_isSaved q_text q_far q_queue q_parent q_by q_seen q_path q_row q_more q_stateOf v_textLength v_steps v_missing v_mores v_hash_1 v_m v_w)) C0 w (c_Mo_mixes hcall) hp hp' lm_RX10_213 mv_Mo_mixes ⟨rfl, rfl⟩ ⟨by decide, by decide⟩ ⟨Nat.zero_le _, Nat.zero_le _⟩ (q0 := 0) rfl rfl rfl rfl hl rfl (Nat.le_of_ble_eq_true rfl) dX10_mixesRow_21 (fun H locs w => ?_)
    obtain ⟨x3_1, ex3_1⟩ : ∃ y : Int32, y = (x3 + 1) := ⟨_, rfl⟩
    have h := bnd_at ex3_1 h
    refine lv_iinc (v := x3_1) (lv' := [(3, .int x3_1), (0, .ref q_this), (1, .int x1), (2, .int x2)]) hx hb dX10_mixesRow_24 hl (k := 3) rfl (by rw [ex3_1]; rfl) (by decide) rfl (fun ls hl => ?_)
    refine lv_goto (tgt := 2) hx hb dX10_mixesRow_27 (by decide) ?_
    exact hrec _ _ _ _ _ h w (lv_sub hl [1, 2, 3, 0] rfl)
set_option maxRecDepth 100000 in
theorem wl_Mo_mixesRow_L2 {p : Program} {l : Launch} {e : Env} {s : State} {m : MethodId} {args : Array Value} {below : List Frame} {meth : Method} {c : Code} {Q : State → Prop} {A : Nat → Prop} {D : va_G} {cI cJ cZ cO : ClassId} {q_this q_m q_saved q_w q_savedWords q_isSaved q_text q_far q_queue q_parent q_by q_seen q_path q_row q_more q_stateOf : Nat} {v_textLength : Int32} {v_steps : Int32} {v_missing : Int64} {v_mores : Int32} {v_m : (Nat → Int32)} {v_w : (Nat → Int64)} {x1 : Int32} {x2 : Int32} {x : Int64} (C0 : Cx p s m args c A D cI cJ cZ cO cX10_mixesRow 4 RX10) (hQ : RtV p l e rm_Mo_mixesRow s m args below meth c Q A D cX10_mixesRow (ws_Mo_mixesRow cI cJ cZ q_this q_m q_saved q_w q_savedWords q_isSaved q_text q_far q_queue q_parent q_by q_seen q_path q_row q_more q_stateOf v_textLength v_steps v_missing v_mores x v_m v_w)) {K : Int32 → Int64 → Option (Int64)} (hK : ∀ (x3 : Int32) (v_hash : Int64) (H : Heap) (locs : List Loc) (ls : Array Slot), K x3 v_hash = some x → Wd s A D (ws_Mo_mixesRow cI cJ cZ q_this q_m q_saved q_w q_savedWords q_isSaved q_text q_far q_queue q_parent q_by q_seen q_path q_row q_more q_stateOf v_textLength v_steps v_missing v_mores v_hash v_m v_w) H locs → lv_has ls 4 [] → W p l e rm_Mo_mixesRow s m args below meth c H locs 0 0 Q (F0 m 30 ls [])) : ∀ (n : Nat) (x3 : Int32) (v_hash : Int64) (H : Heap) (locs : List Loc) (ls : Array Slot), itr (fun _ _ => none) (f_Mo_mixesRow_L2 v_m v_w x1 x2 K) n x3 v_hash = some x → Wd s A D (ws_Mo_mixesRow cI cJ cZ q_this q_m q_saved q_w q_savedWords q_isSaved q_text q_far q_queue q_parent q_by q_seen q_path q_row q_more q_stateOf v_textLength v_steps v_missing v_mores v_hash v_m v_w) H locs → lv_has ls 4 [(0, .ref q_this), (1, .int x1), (2, .int x2), (3, .int x3)] → W p l e rm_Mo_mixesRow s m args below meth c H locs 0 0 Q (F0 m 2 ls []) := by
  intro n
  induction n with
  | zero => intro _ _ _ _ _ h; cases (show none = some _ from h)
  | succ n ih => intro _ _ _ _ _ h w hl; exact w_Mo_mixesRow_L2 C0 hQ hK ih _ _ h w hl
set_option maxRecDepth 100000 in
theorem c_Mo_mixesRow {l : Launch} {D : va_G} {cI cJ cZ cO : ClassId} {q_this q_m q_saved q_w q_savedWords q_isSaved q_text q_far q_queue q_parent q_by q_seen q_path q_row q_more q_stateOf : Nat} {x1 : Int32} {x2 : Int32} {v_textLength : Int32} {v_steps : Int32} {v_missing : Int64} {v_mores : Int32} {v_hash : Int64} {v_m : (Nat → Int32)} {v_w : (Nat → Int64)} {x : Int64} (h : f_Mo_mixesRow x1 x2 v_hash v_m v_w = some x) : ctV l D cI cJ cZ cO yX10_mixesRow cX10_mixesRow 4 rm_Mo_mixesRow [.ref q_this, .int x1, .int x2] (ws_Mo_mixesRow cI cJ cZ q_this q_m q_saved q_w q_savedWords q_isSaved q_text q_far q_queue q_parent q_by q_seen q_path q_row q_more q_stateOf v_textLength v_steps v_missing v_mores v_hash v_m v_w) (ws_Mo_mixesRow cI cJ cZ q_this q_m q_saved q_w q_savedWords q_isSaved q_text q_far q_queue q_parent q_by q_seen q_path q_row q_more q_stateOf v_textLength v_steps v_missing v_mores x v_m v_w) := by
  refine ctV_of (by decide) (Nat.le_of_ble_eq_true rfl) ?_
  intro p e s m below meth c Q A ls C0 hQ w hl
  have hl : lv_has ls 4 [(0, .ref q_this), (1, .int x1), (2, .int x2)] := hl
  generalize List.toArray (α := Value) [.ref q_this, .int x1, .int x2] = args at C0 hQ ⊢
  obtain ⟨hx, hb, hml, hown, hts, -, -⟩ := id C0
  unfold f_Mo_mixesRow at h
  refine lv_iconst (v := (0 : Int32)) hx hb dX10_mixesRow_0 (by decide) ?_
  refine lv_istore_n (lv' := [(3, .int (0 : Int32)), (0, .ref q_this), (1, .int x1), (2, .int x2)]) hx hb dX10_mixesRow_1 rfl hl (by decide) rfl (fun ls hl => ?_)
  refine wl_Mo_mixesRow_L2 C0 hQ (fun x3 v_hash_1 H locs ls h w hl => ?_) _ _ _ _ _ _ h w (lv_sub hl [1, 2, 3, 0] rfl)
  cases h
  exact hQ _ _ _ _ dX10_mixesRow_30 w
theorem dX10_digest_0 : decode cX10_digest 0 = .ok (.aload_n 0, 1) := by decide +kernel
theorem dX10_digest_1 : decode cX10_digest 1 = .ok (.ldc2_w 221, 3) := by decide +kernel
theorem dX10_digest_4 : decode cX10_digest 4 = .ok (.putfield 210, 3) := by decide +kernel
theorem dX10_digest_7 : decode cX10_digest 7 = .ok (.iconst 0, 1) := by decide +kernel
theorem dX10_digest_8 : decode cX10_digest 8 = .ok (.istore_n 1, 1) := by decide +kernel
theorem dX10_digest_9 : decode cX10_digest 9 = .ok (.iload_n 1, 1) := by decide +kernel
theorem dX10_digest_10 : decode cX10_digest 10 = .ok (.bipush 13, 2) := by decide +kernel
theorem dX10_digest_12 : decode cX10_digest 12 = .ok (.if_icmp .ge 18, 3) := by decide +kernel
theorem dX10_digest_15 : decode cX10_digest 15 = .ok (.aload_n 0, 1) := by decide +kernel
theorem dX10_digest_16 : decode cX10_digest 16 = .ok (.aload_n 0, 1) := by decide +kernel
theorem dX10_digest_17 : decode cX10_digest 17 = .ok (.iload_n 1, 1) := by decide +kernel
theorem dX10_digest_18 : decode cX10_digest 18 = .ok (.invokevirtual 223, 3) := by decide +kernel
theorem dX10_digest_21 : decode cX10_digest 21 = .ok (.invokevirtual 213, 3) := by decide +kernel
theorem dX10_digest_24 : decode cX10_digest 24 = .ok (.iinc 1 1, 3) := by decide +kernel
theorem dX10_digest_27 : decode cX10_digest 27 = .ok (.goto (-18), 3) := by decide +kernel
theorem dX10_digest_30 : decode cX10_digest 30 = .ok (.iconst 0, 1) := by decide +kernel
theorem dX10_digest_31 : decode cX10_digest 31 = .ok (.istore_n 1, 1) := by decide +kernel
theorem dX10_digest_32 : decode cX10_digest 32 = .ok (.iload_n 1, 1) := by decide +kernel
theorem dX10_digest_33 : decode cX10_digest 33 = .ok (.aload_n 0, 1) := by decide +kernel
theorem dX10_digest_34 : decode cX10_digest 34 = .ok (.getfield 7, 3) := by decide +kernel
theorem dX10_digest_37 : decode cX10_digest 37 = .ok (.iconst 0, 1) := by decide +kernel
theorem dX10_digest_38 : decode cX10_digest 38 = .ok (.iaload, 1) := by decide +kernel
theorem dX10_digest_39 : decode cX10_digest 39 = .ok (.if_icmp .ge 56, 3) := by decide +kernel
theorem dX10_digest_42 : decode cX10_digest 42 = .ok (.iconst 0, 1) := by decide +kernel
theorem dX10_digest_43 : decode cX10_digest 43 = .ok (.istore_n 2, 1) := by decide +kernel
theorem dX10_digest_44 : decode cX10_digest 44 = .ok (.iload_n 2, 1) := by decide +kernel
theorem dX10_digest_45 : decode cX10_digest 45 = .ok (.aload_n 0, 1) := by decide +kernel
theorem dX10_digest_46 : decode cX10_digest 46 = .ok (.getfield 7, 3) := by decide +kernel
theorem dX10_digest_49 : decode cX10_digest 49 = .ok (.iconst 1, 1) := by decide +kernel
theorem dX10_digest_50 : decode cX10_digest 50 = .ok (.iaload, 1) := by decide +kernel
theorem dX10_digest_51 : decode cX10_digest 51 = .ok (.if_icmp .ge 25, 3) := by decide +kernel
theorem dX10_digest_54 : decode cX10_digest 54 = .ok (.aload_n 0, 1) := by decide +kernel
theorem dX10_digest_55 : decode cX10_digest 55 = .ok (.aload_n 0, 1) := by decide +kernel
theorem dX10_digest_56 : decode cX10_digest 56 = .ok (.getfield 7, 3) := by decide +kernel
theorem dX10_digest_59 : decode cX10_digest 59 = .ok (.iconst 2, 1) := by decide +kernel
theorem dX10_digest_60 : decode cX10_digest 60 = .ok (.iconst 3, 1) := by decide +kernel
theorem dX10_digest_61 : decode cX10_digest 61 = .ok (.iload_n 1, 1) := by decide +kernel
theorem dX10_digest_62 : decode cX10_digest 62 = .ok (.imul, 1) := by decide +kernel
theorem dX10_digest_63 : decode cX10_digest 63 = .ok (.iadd, 1) := by decide +kernel
theorem dX10_digest_64 : decode cX10_digest 64 = .ok (.iload_n 2, 1) := by decide +kernel
theorem dX10_digest_65 : decode cX10_digest 65 = .ok (.iadd, 1) := by decide +kernel
theorem dX10_digest_66 : decode cX10_digest 66 = .ok (.iaload, 1) := by decide +kernel
theorem dX10_digest_67 : decode cX10_digest 67 = .ok (.invokevirtual 213, 3) := by decide +kernel
theorem dX10_digest_70 : decode cX10_digest 70 = .ok (.iinc 2 1, 3) := by decide +kernel
theorem dX10_digest_73 : decode cX10_digest 73 = .ok (.goto (-29), 3) := by decide +kernel
theorem dX10_digest_76 : decode cX10_digest 76 = .ok (.aload_n 0, 1) := by decide +kernel
theorem dX10_digest_77 : decode cX10_digest 77 = .ok (.aload_n 0, 1) := by decide +kernel
theorem dX10_digest_78 : decode cX10_digest 78 = .ok (.getfield 7, 3) := by decide +kernel
theorem dX10_digest_81 : decode cX10_digest 81 = .ok (.bipush 26, 2) := by decide +kernel
theorem dX10_digest_83 : decode cX10_digest 83 = .ok (.iload_n 1, 1) := by decide +kernel
theorem dX10_digest_84 : decode cX10_digest 84 = .ok (.iadd, 1) := by decide +kernel
theorem dX10_digest_85 : decode cX10_digest 85 = .ok (.iaload, 1) := by decide +kernel
theorem dX10_digest_86 : decode cX10_digest 86 = .ok (.invokevirtual 213, 3) := by decide +kernel
theorem dX10_digest_89 : decode cX10_digest 89 = .ok (.iinc 1 1, 3) := by decide +kernel
theorem dX10_digest_92 : decode cX10_digest 92 = .ok (.goto (-60), 3) := by decide +kernel
theorem dX10_digest_95 : decode cX10_digest 95 = .ok (.aload_n 0, 1) := by decide +kernel
theorem dX10_digest_96 : decode cX10_digest 96 = .ok (.aload_n 0, 1) := by decide +kernel
theorem dX10_digest_97 : decode cX10_digest 97 = .ok (.invokevirtual 226, 3) := by decide +kernel
theorem dX10_digest_100 : decode cX10_digest 100 = .ok (.invokevirtual 213, 3) := by decide +kernel
theorem dX10_digest_103 : decode cX10_digest 103 = .ok (.iconst 0, 1) := by decide +kernel
theorem dX10_digest_104 : decode cX10_digest 104 = .ok (.istore_n 1, 1) := by decide +kernel
theorem dX10_digest_105 : decode cX10_digest 105 = .ok (.iload_n 1, 1) := by decide +kernel
theorem dX10_digest_106 : decode cX10_digest 106 = .ok (.aload_n 0, 1) := by decide +kernel
theorem dX10_digest_107 : decode cX10_digest 107 = .ok (.getfield 7, 3) := by decide +kernel
theorem dX10_digest_110 : decode cX10_digest 110 = .ok (.bipush 38, 2) := by decide +kernel
theorem dX10_digest_112 : decode cX10_digest 112 = .ok (.iaload, 1) := by decide +kernel
theorem dX10_digest_113 : decode cX10_digest 113 = .ok (.if_icmp .ge 29, 3) := by decide +kernel
theorem dX10_digest_116 : decode cX10_digest 116 = .ok (.aload_n 0, 1) := by decide +kernel
theorem dX10_digest_117 : decode cX10_digest 117 = .ok (.aload_n 0, 1) := by decide +kernel
theorem dX10_digest_118 : decode cX10_digest 118 = .ok (.getfield 16, 3) := by decide +kernel
theorem dX10_digest_121 : decode cX10_digest 121 = .ok (.sipush 304, 3) := by decide +kernel
theorem dX10_digest_124 : decode cX10_digest 124 = .ok (.iload_n 1, 1) := by decide +kernel
theorem dX10_digest_125 : decode cX10_digest 125 = .ok (.iadd, 1) := by decide +kernel
theorem dX10_digest_126 : decode cX10_digest 126 = .ok (.laload, 1) := by decide +kernel
theorem dX10_digest_127 : decode cX10_digest 127 = .ok (.invokevirtual 229, 3) := by decide +kernel
theorem dX10_digest_130 : decode cX10_digest 130 = .ok (.aload_n 0, 1) := by decide +kernel
theorem dX10_digest_131 : decode cX10_digest 131 = .ok (.iload_n 1, 1) := by decide +kernel
theorem dX10_digest_132 : decode cX10_digest 132 = .ok (.iconst (-1), 1) := by decide +kernel
theorem dX10_digest_133 : decode cX10_digest 133 = .ok (.invokevirtual 233, 3) := by decide +kernel
theorem dX10_digest_136 : decode cX10_digest 136 = .ok (.iinc 1 1, 3) := by decide +kernel
theorem dX10_digest_139 : decode cX10_digest 139 = .ok (.goto (-34), 3) := by decide +kernel
theorem dX10_digest_142 : decode cX10_digest 142 = .ok (.iconst 0, 1) := by decide +kernel
theorem dX10_digest_143 : decode cX10_digest 143 = .ok (.istore_n 1, 1) := by decide +kernel
theorem dX10_digest_144 : decode cX10_digest 144 = .ok (.iload_n 1, 1) := by decide +kernel
theorem dX10_digest_145 : decode cX10_digest 145 = .ok (.aload_n 0, 1) := by decide +kernel
theorem dX10_digest_146 : decode cX10_digest 146 = .ok (.getfield 7, 3) := by decide +kernel
theorem dX10_digest_149 : decode cX10_digest 149 = .ok (.bipush 38, 2) := by decide +kernel
theorem dX10_digest_151 : decode cX10_digest 151 = .ok (.iaload, 1) := by decide +kernel
theorem dX10_digest_152 : decode cX10_digest 152 = .ok (.aload_n 0, 1) := by decide +kernel
theorem dX10_digest_153 : decode cX10_digest 153 = .ok (.getfield 7, 3) := by decide +kernel
theorem dX10_digest_156 : decode cX10_digest 156 = .ok (.iconst 1, 1) := by decide +kernel
theorem dX10_digest_157 : decode cX10_digest 157 = .ok (.iaload, 1) := by decide +kernel
theorem dX10_digest_158 : decode cX10_digest 158 = .ok (.imul, 1) := by decide +kernel
theorem dX10_digest_159 : decode cX10_digest 159 = .ok (.if_icmp .ge 29, 3) := by decide +kernel
theorem dX10_digest_162 : decode cX10_digest 162 = .ok (.aload_n 0, 1) := by decide +kernel
theorem dX10_digest_163 : decode cX10_digest 163 = .ok (.iload_n 1, 1) := by decide +kernel
theorem dX10_digest_164 : decode cX10_digest 164 = .ok (.aload_n 0, 1) := by decide +kernel
theorem dX10_digest_165 : decode cX10_digest 165 = .ok (.getfield 7, 3) := by decide +kernel
theorem dX10_digest_168 : decode cX10_digest 168 = .ok (.iconst 1, 1) := by decide +kernel
theorem dX10_digest_169 : decode cX10_digest 169 = .ok (.iaload, 1) := by decide +kernel
theorem dX10_digest_170 : decode cX10_digest 170 = .ok (.idiv, 1) := by decide +kernel
theorem dX10_digest_171 : decode cX10_digest 171 = .ok (.iload_n 1, 1) := by decide +kernel
theorem dX10_digest_172 : decode cX10_digest 172 = .ok (.aload_n 0, 1) := by decide +kernel
theorem dX10_digest_173 : decode cX10_digest 173 = .ok (.getfield 7, 3) := by decide +kernel
theorem dX10_digest_176 : decode cX10_digest 176 = .ok (.iconst 1, 1) := by decide +kernel
theorem dX10_digest_177 : decode cX10_digest 177 = .ok (.iaload, 1) := by decide +kernel
theorem dX10_digest_178 : decode cX10_digest 178 = .ok (.irem, 1) := by decide +kernel
theorem dX10_digest_179 : decode cX10_digest 179 = .ok (.invokevirtual 233, 3) := by decide +kernel
theorem dX10_digest_182 : decode cX10_digest 182 = .ok (.iinc 1 1, 3) := by decide +kernel
theorem dX10_digest_185 : decode cX10_digest 185 = .ok (.goto (-41), 3) := by decide +kernel
theorem dX10_digest_188 : decode cX10_digest 188 = .ok (.iconst 0, 1) := by decide +kernel
theorem dX10_digest_189 : decode cX10_digest 189 = .ok (.istore_n 1, 1) := by decide +kernel
theorem dX10_digest_190 : decode cX10_digest 190 = .ok (.iload_n 1, 1) := by decide +kernel
theorem dX10_digest_191 : decode cX10_digest 191 = .ok (.aload_n 0, 1) := by decide +kernel
theorem dX10_digest_192 : decode cX10_digest 192 = .ok (.getfield 7, 3) := by decide +kernel
theorem dX10_digest_195 : decode cX10_digest 195 = .ok (.bipush 39, 2) := by decide +kernel
theorem dX10_digest_197 : decode cX10_digest 197 = .ok (.iaload, 1) := by decide +kernel
theorem dX10_digest_198 : decode cX10_digest 198 = .ok (.if_icmp .ge 23, 3) := by decide +kernel
theorem dX10_digest_201 : decode cX10_digest 201 = .ok (.aload_n 0, 1) := by decide +kernel
theorem dX10_digest_202 : decode cX10_digest 202 = .ok (.aload_n 0, 1) := by decide +kernel
theorem dX10_digest_203 : decode cX10_digest 203 = .ok (.getfield 16, 3) := by decide +kernel
theorem dX10_digest_206 : decode cX10_digest 206 = .ok (.sipush 344, 3) := by decide +kernel
theorem dX10_digest_209 : decode cX10_digest 209 = .ok (.iload_n 1, 1) := by decide +kernel
theorem dX10_digest_210 : decode cX10_digest 210 = .ok (.iadd, 1) := by decide +kernel
theorem dX10_digest_211 : decode cX10_digest 211 = .ok (.laload, 1) := by decide +kernel
theorem dX10_digest_212 : decode cX10_digest 212 = .ok (.invokevirtual 229, 3) := by decide +kernel
theorem dX10_digest_215 : decode cX10_digest 215 = .ok (.iinc 1 1, 3) := by decide +kernel
theorem dX10_digest_218 : decode cX10_digest 218 = .ok (.goto (-28), 3) := by decide +kernel
theorem dX10_digest_221 : decode cX10_digest 221 = .ok (.iconst 0, 1) := by decide +kernel
theorem dX10_digest_222 : decode cX10_digest 222 = .ok (.istore_n 1, 1) := by decide +kernel
theorem dX10_digest_223 : decode cX10_digest 223 = .ok (.iload_n 1, 1) := by decide +kernel
theorem dX10_digest_224 : decode cX10_digest 224 = .ok (.aload_n 0, 1) := by decide +kernel
theorem dX10_digest_225 : decode cX10_digest 225 = .ok (.getfield 7, 3) := by decide +kernel
theorem dX10_digest_228 : decode cX10_digest 228 = .ok (.bipush 40, 2) := by decide +kernel
theorem dX10_digest_230 : decode cX10_digest 230 = .ok (.iaload, 1) := by decide +kernel
theorem dX10_digest_231 : decode cX10_digest 231 = .ok (.if_icmp .ge 59, 3) := by decide +kernel
theorem dX10_digest_234 : decode cX10_digest 234 = .ok (.iconst 0, 1) := by decide +kernel
theorem dX10_digest_235 : decode cX10_digest 235 = .ok (.istore_n 2, 1) := by decide +kernel
theorem dX10_digest_236 : decode cX10_digest 236 = .ok (.iload_n 2, 1) := by decide +kernel
theorem dX10_digest_237 : decode cX10_digest 237 = .ok (.aload_n 0, 1) := by decide +kernel
theorem dX10_digest_238 : decode cX10_digest 238 = .ok (.getfield 7, 3) := by decide +kernel
theorem dX10_digest_241 : decode cX10_digest 241 = .ok (.iconst 1, 1) := by decide +kernel
theorem dX10_digest_242 : decode cX10_digest 242 = .ok (.iaload, 1) := by decide +kernel
theorem dX10_digest_243 : decode cX10_digest 243 = .ok (.if_icmp .ge 27, 3) := by decide +kernel
theorem dX10_digest_246 : decode cX10_digest 246 = .ok (.aload_n 0, 1) := by decide +kernel
theorem dX10_digest_247 : decode cX10_digest 247 = .ok (.aload_n 0, 1) := by decide +kernel
theorem dX10_digest_248 : decode cX10_digest 248 = .ok (.getfield 7, 3) := by decide +kernel
theorem dX10_digest_251 : decode cX10_digest 251 = .ok (.sipush 361, 3) := by decide +kernel
theorem dX10_digest_254 : decode cX10_digest 254 = .ok (.iconst 3, 1) := by decide +kernel
theorem dX10_digest_255 : decode cX10_digest 255 = .ok (.iload_n 1, 1) := by decide +kernel
theorem dX10_digest_256 : decode cX10_digest 256 = .ok (.imul, 1) := by decide +kernel
theorem dX10_digest_257 : decode cX10_digest 257 = .ok (.iadd, 1) := by decide +kernel
theorem dX10_digest_258 : decode cX10_digest 258 = .ok (.iload_n 2, 1) := by decide +kernel
theorem dX10_digest_259 : decode cX10_digest 259 = .ok (.iadd, 1) := by decide +kernel
theorem dX10_digest_260 : decode cX10_digest 260 = .ok (.iaload, 1) := by decide +kernel
theorem dX10_digest_261 : decode cX10_digest 261 = .ok (.invokevirtual 213, 3) := by decide +kernel
theorem dX10_digest_264 : decode cX10_digest 264 = .ok (.iinc 2 1, 3) := by decide +kernel
theorem dX10_digest_267 : decode cX10_digest 267 = .ok (.goto (-31), 3) := by decide +kernel
theorem dX10_digest_270 : decode cX10_digest 270 = .ok (.aload_n 0, 1) := by decide +kernel
theorem dX10_digest_271 : decode cX10_digest 271 = .ok (.aload_n 0, 1) := by decide +kernel
theorem dX10_digest_272 : decode cX10_digest 272 = .ok (.getfield 7, 3) := by decide +kernel
theorem dX10_digest_275 : decode cX10_digest 275 = .ok (.sipush 481, 3) := by decide +kernel
theorem dX10_digest_278 : decode cX10_digest 278 = .ok (.iload_n 1, 1) := by decide +kernel
theorem dX10_digest_279 : decode cX10_digest 279 = .ok (.iadd, 1) := by decide +kernel
theorem dX10_digest_280 : decode cX10_digest 280 = .ok (.iaload, 1) := by decide +kernel
theorem dX10_digest_281 : decode cX10_digest 281 = .ok (.invokevirtual 213, 3) := by decide +kernel
theorem dX10_digest_284 : decode cX10_digest 284 = .ok (.iinc 1 1, 3) := by decide +kernel
theorem dX10_digest_287 : decode cX10_digest 287 = .ok (.goto (-64), 3) := by decide +kernel
theorem dX10_digest_290 : decode cX10_digest 290 = .ok (.iconst 0, 1) := by decide +kernel
theorem dX10_digest_291 : decode cX10_digest 291 = .ok (.istore_n 1, 1) := by decide +kernel
theorem dX10_digest_292 : decode cX10_digest 292 = .ok (.iload_n 1, 1) := by decide +kernel
theorem dX10_digest_293 : decode cX10_digest 293 = .ok (.aload_n 0, 1) := by decide +kernel
theorem dX10_digest_294 : decode cX10_digest 294 = .ok (.getfield 7, 3) := by decide +kernel
theorem dX10_digest_297 : decode cX10_digest 297 = .ok (.bipush 44, 2) := by decide +kernel
theorem dX10_digest_299 : decode cX10_digest 299 = .ok (.iaload, 1) := by decide +kernel
theorem dX10_digest_300 : decode cX10_digest 300 = .ok (.if_icmp .ge 23, 3) := by decide +kernel
theorem dX10_digest_303 : decode cX10_digest 303 = .ok (.aload_n 0, 1) := by decide +kernel
theorem dX10_digest_304 : decode cX10_digest 304 = .ok (.aload_n 0, 1) := by decide +kernel
theorem dX10_digest_305 : decode cX10_digest 305 = .ok (.getfield 7, 3) := by decide +kernel
theorem dX10_digest_308 : decode cX10_digest 308 = .ok (.sipush 345, 3) := by decide +kernel
theorem dX10_digest_311 : decode cX10_digest 311 = .ok (.iload_n 1, 1) := by decide +kernel
theorem dX10_digest_312 : decode cX10_digest 312 = .ok (.iadd, 1) := by decide +kernel
theorem dX10_digest_313 : decode cX10_digest 313 = .ok (.iaload, 1) := by decide +kernel
theorem dX10_digest_314 : decode cX10_digest 314 = .ok (.invokevirtual 213, 3) := by decide +kernel
theorem dX10_digest_317 : decode cX10_digest 317 = .ok (.iinc 1 1, 3) := by decide +kernel
theorem dX10_digest_320 : decode cX10_digest 320 = .ok (.goto (-28), 3) := by decide +kernel
theorem dX10_digest_323 : decode cX10_digest 323 = .ok (.iconst 0, 1) := by decide +kernel
theorem dX10_digest_324 : decode cX10_digest 324 = .ok (.istore_n 1, 1) := by decide +kernel
theorem dX10_digest_325 : decode cX10_digest 325 = .ok (.iload_n 1, 1) := by decide +kernel
theorem dX10_digest_326 : decode cX10_digest 326 = .ok (.aload_n 0, 1) := by decide +kernel
theorem dX10_digest_327 : decode cX10_digest 327 = .ok (.getfield 72, 3) := by decide +kernel
theorem dX10_digest_330 : decode cX10_digest 330 = .ok (.if_icmp .ge 19, 3) := by decide +kernel
theorem dX10_digest_333 : decode cX10_digest 333 = .ok (.aload_n 0, 1) := by decide +kernel
theorem dX10_digest_334 : decode cX10_digest 334 = .ok (.aload_n 0, 1) := by decide +kernel
theorem dX10_digest_335 : decode cX10_digest 335 = .ok (.getfield 27, 3) := by decide +kernel
theorem dX10_digest_338 : decode cX10_digest 338 = .ok (.iload_n 1, 1) := by decide +kernel
theorem dX10_digest_339 : decode cX10_digest 339 = .ok (.iaload, 1) := by decide +kernel
theorem dX10_digest_340 : decode cX10_digest 340 = .ok (.invokevirtual 213, 3) := by decide +kernel
theorem dX10_digest_343 : decode cX10_digest 343 = .ok (.iinc 1 1, 3) := by decide +kernel
theorem dX10_digest_346 : decode cX10_digest 346 = .ok (.goto (-21), 3) := by decide +kernel
theorem dX10_digest_349 : decode cX10_digest 349 = .ok (.aload_n 0, 1) := by decide +kernel
theorem dX10_digest_350 : decode cX10_digest 350 = .ok (.getfield 210, 3) := by decide +kernel
theorem dX10_digest_353 : decode cX10_digest 353 = .ok (.lreturn, 1) := by decide +kernel
set_option maxRecDepth 100000 in
theorem w_Mo_digest_L9 {p : Program} {l : Launch} {e : Env} {s : State} {m : MethodId} {args : Array Value} {below : List Frame} {meth : Method} {c : Code} {Q : State → Prop} {A : Nat → Prop} {D : va_G} {cI cJ cZ cO : ClassId} {q_this q_m q_saved q_w q_savedWords q_isSaved q_text q_far q_queue q_parent q_by q_seen q_path q_row q_more q_stateOf : Nat} {v_textLength : Int32} {v_steps : Int32} {v_missing : Int64} {v_mores : Int32} {v_m : (Nat → Int32)} {v_w : (Nat → Int64)} {v_text : (Nat → Int32)} {v_far : (Nat → Int32)} {v_queue : (Nat → Int32)} {v_parent : (Nat → Int32)} {v_by : (Nat → Int32)} {v_seen : (Nat → Int32)} {v_path : (Nat → Int32)} {x : Int64 × (Nat → Int32) × (Nat → Int32) × (Nat → Int32) × (Nat → Int32) × (Nat → Int32) × (Nat → Int32) × Int32 × Int64} (C0 : Cx p s m args c A D cI cJ cZ cO cX10_digest 3 RX10) (hQ : RtJ p l e rm_Mo_digest s m args below meth c Q A D cX10_digest (ws_Mo_digest cI cJ cZ q_this q_m q_saved q_w q_savedWords q_isSaved q_text q_far q_queue q_parent q_by q_seen q_path q_row q_more q_stateOf v_textLength x.2.2.2.2.2.2.2.1 v_missing v_mores x.2.2.2.2.2.2.2.2 v_m v_w v_text x.2.1 x.2.2.1 x.2.2.2.1 x.2.2.2.2.1 x.2.2.2.2.2.1 x.2.2.2.2.2.2.1) x.1) {K : Int32 → Int64 → Option (Int64 × (Nat → Int32) × (Nat → Int32) × (Nat → Int32) × (Nat → Int32) × (Nat → Int32) × (Nat → Int32) × Int32 × Int64)} (hK : ∀ (x1 : Int32) (v_hash : Int64) (H : Heap) (locs : List Loc) (ls : Array Slot), K x1 v_hash = some x → Wd s A D (ws_Mo_digest cI cJ cZ q_this q_m q_saved q_w q_savedWords q_isSaved q_text q_far q_queue q_parent q_by q_seen q_path q_row q_more q_stateOf v_textLength v_steps v_missing v_mores v_hash v_m v_w v_text v_far v_queue v_parent v_by v_seen v_path) H locs → lv_has ls 3 [(0, .ref q_this)] → W p l e rm_Mo_digest s m args below meth c H locs 0 0 Q (F0 m 30 ls [])) {rec : Int32 → Int64 → Option (Int64 × (Nat → Int32) × (Nat → Int32) × (Nat → Int32) × (Nat → Int32) × (Nat → Int32) × (Nat → Int32) × Int32 × Int64)} (hrec : ∀ (x1 : Int32) (v_hash : Int64) (H : Heap) (locs : List Loc) (ls : Array Slot), rec x1 v_hash = some x → Wd s A D (ws_Mo_digest cI cJ cZ q_this q_m q_saved q_w q_savedWords q_isSaved q_text q_far q_queue q_parent q_by q_seen q_path q_row q_more q_stateOf v_textLength v_steps v_missing v_mores v_hash v_m v_w v_text v_far v_queue v_parent v_by v_seen v_path) H locs → lv_has ls 3 [(0, .ref q_this), (1, .int x1)] → W p l e rm_Mo_digest s m args below meth c H locs 0 0 Q (F0 m 9 ls [])) (x1 : Int32) (v_hash : Int64) {H : Heap} {locs : List Loc} {ls : Array Slot} (h : f_Mo_digest_L9 v_textLength v_m K rec x1 v_hash = some x) (w : Wd s A D (ws_Mo_digest cI cJ cZ q_this q_m q_saved q_w q_savedWords q_isSaved q_text q_far q_queue q_parent q_by q_seen q_path q_row q_more q_stateOf v_textLength v_steps v_missing v_mores v_hash v_m v_w v_text v_far v_queue v_parent v_by v_seen v_path) H locs) (hl : lv_has ls 3 [(0, .ref q_this), (1, .int x1)]) : W p l e rm_Mo_digest s m args below meth c H locs 0 0 Q (F0 m 9 ls []) := by
  obtain ⟨hx, hb, hml, hown, hts, -, -⟩ := id C0
  unfold f_Mo_digest_L9 at h
  refine lv_iload_n hx hb dX10_digest_9 rfl (lv_at hl 1 rfl) ?_
  refine lv_bipush (v := (13 : Int32)) hx hb dX10_digest_10 (by decide) ?_
  refine lv_icmp_ge (tgt := 30) hx hb dX10_digest_12 (by decide) (fun hc => ?_) (fun hc => ?_)
  · have h := if_h hc h
    exact hK _ _ _ _ _ h w (lv_sub hl [0] rfl)
  · have h := nf_h hc h
    refine lv_aload_n hx hb dX10_digest_15 rfl (lv_at hl 0 rfl) ?_
    refine lv_aload_n hx hb dX10_digest_16 rfl (lv_at hl 0 rfl) ?_
    refine lv_iload_n hx hb dX10_digest_17 rfl (lv_at hl 1 rfl) ?_
    obtain ⟨r, hcall, h⟩ := bd1_h h
    obtain ⟨wr, hp, hp'⟩ := rd_of (ws := (ws_Mo_digest cI cJ cZ q_this q_m q_saved q_w q_savedWords q_isSaved q_text q_far q_queue q_parent q_by q_seen q_path q_row q_more q_stateOf v_textLength v_steps v_missing v_mores v_hash v_m v_w v_text v_far v_queue v_parent v_by v_seen v_path)) (wc := (ws_Mo_count cI cJ cZ q_this q_m q_saved q_w q_savedWords q_isSaved q_text q_far q_queue q_parent q_by q_seen q_path q_row q_more q_stateOf v_textLength v_steps v_missing v_mores v_hash v_m)) [0, 1] rfl rfl
    refine r_VI (r := r) (As := [.int x1]) (rest := [.ref q_this]) (wc' := (ws_Mo_count cI cJ cZ q_this q_m q_saved q_w q_savedWords q_isSaved q_text q_far q_queue q_parent q_by q_seen q_path q_row q_more q_stateOf v_textLength v_steps v_missing v_mores v_hash v_m)) (ws' := (ws_Mo_digest cI cJ cZ q_this q_m q_saved q_w q_savedWords q_isSaved q_text q_far q_queue q_parent q_by q_seen q_path q_row q_more q_stateOf v_textLength v_steps v_missing v_mores v_hash v_m v_w v_text v_far v_queue v_parent v_by v_seen v_path)) C0 w (c_Mo_count hcall) hp hp' lm_RX10_223 mv_Mo_count ⟨rfl, rfl⟩ ⟨by decide, by decide⟩ ⟨Nat.zero_le _, Nat.zero_le _⟩ (q0 := 0) rfl rfl rfl rfl hl rfl (Nat.le_of_ble_eq_true rfl) dX10_digest_18 (fun H locs w => ?_)
    obtain ⟨v_hash_1, hcall, h⟩ := bd1_h h
    have hp := sp_of (ws := (ws_Mo_digest cI cJ cZ q_this q_m q_saved q_w q_savedWords q_isSaved q_text q_far q_queue q_parent q_by q_seen q_path q_row q_more q_stateOf v_textLength v_steps v_missing v_mores v_hash v_m v_w v_text v_far v_queue v_parent v_by v_seen v_path)) (wc := (ws_Mo_mixes cI cJ cZ q_this q_m q_saved q_w q_savedWords q_isSaved q_text q_far q_queue q_parent q_by q_seen q_path q_row q_more q_stateOf v_textLength v_steps v_missing v_mores v_hash)) [0] [1, 2, 3, 4, 5, 6, 7, 8, 9] rfl rfl
    have hp' : Rp (pk (ws_Mo_digest cI cJ cZ q_this q_m q_saved q_w q_savedWords q_isSaved q_text q_far q_queue q_parent q_by q_seen q_path q_row q_more q_stateOf v_textLength v_steps v_missing v_mores v_hash v_m v_w v_text v_far v_queue v_parent v_by v_seen v_path) [1, 2, 3, 4, 5, 6, 7, 8, 9] ++ (ws_Mo_mixes cI cJ cZ q_this q_m q_saved q_w q_savedWords q_isSaved q_text q_far q_queue q_parent q_by q_seen q_path q_row q_more q_stateOf v_textLength v_steps v_missing v_mores v_hash_1)) (ws_Mo_digest cI cJ cZ q_this q_m q_saved q_w q_savedWords q_isSaved q_text q_far q_queue q_parent q_by q_seen q_path q_row q_more q_stateOf v_textLength v_steps v_missing v_mores v_hash_1 v_m v_w v_text v_far v_queue v_parent v_by v_seen v_path) := ⟨[9, 0, 1, 2, 3, 4, 5, 6, 7, 8], rfl, rfl⟩
    refine r_VV (As := [.int r]) (rest := []) (wc' := (ws_Mo_mixes cI cJ cZ q_this q_m q_saved q_w q_savedWords q_isSaved q_text q_far q_queue q_parent q_by q_seen q_path q_row q_more q_stateOf v_textLength v_steps v_missing v_mores v_hash_1)) (ws' := (ws_Mo_digest cI cJ cZ q_this q_m q_saved q_w q_savedWords q_isSaved q_text q_far q_queue q_parent q_by q_seen q_path q_row q_more q_stateOf v_textLength v_steps v_missing v_mores v_hash_1 v_m v_w v_text v_far v_queue v_parent v_by v_seen v_path)) C0 w (c_Mo_mixes hcall) hp hp' lm_RX10_213 mv_Mo_mixes ⟨rfl, rfl⟩ ⟨by decide, by decide⟩ ⟨Nat.zero_le _, Nat.zero_le _⟩ (q0 := 0) rfl rfl rfl rfl hl rfl (Nat.le_of_ble_eq_true rfl) dX10_digest_21 (fun H locs w => ?_)
    obtain ⟨x1_1, ex1_1⟩ : ∃ y : Int32, y = (x1 + 1) := ⟨_, rfl⟩
    have h := bnd_at ex1_1 h
    refine lv_iinc (v := x1_1) (lv' := [(1, .int x1_1), (0, .ref q_this)]) hx hb dX10_digest_24 hl (k := 1) rfl (by rw [ex1_1]; rfl) (by decide) rfl (fun ls hl => ?_)
    refine lv_goto (tgt := 9) hx hb dX10_digest_27 (by decide) ?_
    exact hrec _ _ _ _ _ h w (lv_sub hl [1, 0] rfl)
set_option maxRecDepth 100000 in
theorem wl_Mo_digest_L9 {p : Program} {l : Launch} {e : Env} {s : State} {m : MethodId} {args : Array Value} {below : List Frame} {meth : Method} {c : Code} {Q : State → Prop} {A : Nat → Prop} {D : va_G} {cI cJ cZ cO : ClassId} {q_this q_m q_saved q_w q_savedWords q_isSaved q_text q_far q_queue q_parent q_by q_seen q_path q_row q_more q_stateOf : Nat} {v_textLength : Int32} {v_steps : Int32} {v_missing : Int64} {v_mores : Int32} {v_m : (Nat → Int32)} {v_w : (Nat → Int64)} {v_text : (Nat → Int32)} {v_far : (Nat → Int32)} {v_queue : (Nat → Int32)} {v_parent : (Nat → Int32)} {v_by : (Nat → Int32)} {v_seen : (Nat → Int32)} {v_path : (Nat → Int32)} {x : Int64 × (Nat → Int32) × (Nat → Int32) × (Nat → Int32) × (Nat → Int32) × (Nat → Int32) × (Nat → Int32) × Int32 × Int64} (C0 : Cx p s m args c A D cI cJ cZ cO cX10_digest 3 RX10) (hQ : RtJ p l e rm_Mo_digest s m args below meth c Q A D cX10_digest (ws_Mo_digest cI cJ cZ q_this q_m q_saved q_w q_savedWords q_isSaved q_text q_far q_queue q_parent q_by q_seen q_path q_row q_more q_stateOf v_textLength x.2.2.2.2.2.2.2.1 v_missing v_mores x.2.2.2.2.2.2.2.2 v_m v_w v_text x.2.1 x.2.2.1 x.2.2.2.1 x.2.2.2.2.1 x.2.2.2.2.2.1 x.2.2.2.2.2.2.1) x.1) {K : Int32 → Int64 → Option (Int64 × (Nat → Int32) × (Nat → Int32) × (Nat → Int32) × (Nat → Int32) × (Nat → Int32) × (Nat → Int32) × Int32 × Int64)} (hK : ∀ (x1 : Int32) (v_hash : Int64) (H : Heap) (locs : List Loc) (ls : Array Slot), K x1 v_hash = some x → Wd s A D (ws_Mo_digest cI cJ cZ q_this q_m q_saved q_w q_savedWords q_isSaved q_text q_far q_queue q_parent q_by q_seen q_path q_row q_more q_stateOf v_textLength v_steps v_missing v_mores v_hash v_m v_w v_text v_far v_queue v_parent v_by v_seen v_path) H locs → lv_has ls 3 [(0, .ref q_this)] → W p l e rm_Mo_digest s m args below meth c H locs 0 0 Q (F0 m 30 ls [])) : ∀ (n : Nat) (x1 : Int32) (v_hash : Int64) (H : Heap) (locs : List Loc) (ls : Array Slot), itr (fun _ _ => none) (f_Mo_digest_L9 v_textLength v_m K) n x1 v_hash = some x → Wd s A D (ws_Mo_digest cI cJ cZ q_this q_m q_saved q_w q_savedWords q_isSaved q_text q_far q_queue q_parent q_by q_seen q_path q_row q_more q_stateOf v_textLength v_steps v_missing v_mores v_hash v_m v_w v_text v_far v_queue v_parent v_by v_seen v_path) H locs → lv_has ls 3 [(0, .ref q_this), (1, .int x1)] → W p l e rm_Mo_digest s m args below meth c H locs 0 0 Q (F0 m 9 ls []) := by
  intro n
  induction n with
  | zero => intro _ _ _ _ _ h; cases (show none = some _ from h)
  | succ n ih => intro _ _ _ _ _ h w hl; exact w_Mo_digest_L9 C0 hQ hK ih _ _ h w hl
set_option maxRecDepth 100000 in
theorem w_Mo_digest_L44 {p : Program} {l : Launch} {e : Env} {s : State} {m : MethodId} {args : Array Value} {below : List Frame} {meth : Method} {c : Code} {Q : State → Prop} {A : Nat → Prop} {D : va_G} {cI cJ cZ cO : ClassId} {q_this q_m q_saved q_w q_savedWords q_isSaved q_text q_far q_queue q_parent q_by q_seen q_path q_row q_more q_stateOf : Nat} {v_textLength : Int32} {v_steps : Int32} {v_missing : Int64} {v_mores : Int32} {v_m : (Nat → Int32)} {v_w : (Nat → Int64)} {v_text : (Nat → Int32)} {v_far : (Nat → Int32)} {v_queue : (Nat → Int32)} {v_parent : (Nat → Int32)} {v_by : (Nat → Int32)} {v_seen : (Nat → Int32)} {v_path : (Nat → Int32)} {x1 : Int32} {x : Int64 × (Nat → Int32) × (Nat → Int32) × (Nat → Int32) × (Nat → Int32) × (Nat → Int32) × (Nat → Int32) × Int32 × Int64} (C0 : Cx p s m args c A D cI cJ cZ cO cX10_digest 3 RX10) (hQ : RtJ p l e rm_Mo_digest s m args below meth c Q A D cX10_digest (ws_Mo_digest cI cJ cZ q_this q_m q_saved q_w q_savedWords q_isSaved q_text q_far q_queue q_parent q_by q_seen q_path q_row q_more q_stateOf v_textLength x.2.2.2.2.2.2.2.1 v_missing v_mores x.2.2.2.2.2.2.2.2 v_m v_w v_text x.2.1 x.2.2.1 x.2.2.2.1 x.2.2.2.2.1 x.2.2.2.2.2.1 x.2.2.2.2.2.2.1) x.1) {K : Int32 → Int64 → Option (Int64 × (Nat → Int32) × (Nat → Int32) × (Nat → Int32) × (Nat → Int32) × (Nat → Int32) × (Nat → Int32) × Int32 × Int64)} (hK : ∀ (x2 : Int32) (v_hash : Int64) (H : Heap) (locs : List Loc) (ls : Array Slot), K x2 v_hash = some x → Wd s A D (ws_Mo_digest cI cJ cZ q_this q_m q_saved q_w q_savedWords q_isSaved q_text q_far q_queue q_parent q_by q_seen q_path q_row q_more q_stateOf v_textLength v_steps v_missing v_mores v_hash v_m v_w v_text v_far v_queue v_parent v_by v_seen v_path) H locs → lv_has ls 3 [(0, .ref q_this), (1, .int x1)] → W p l e rm_Mo_digest s m args below meth c H locs 0 0 Q (F0 m 76 ls [])) {rec : Int32 → Int64 → Option (Int64 × (Nat → Int32) × (Nat → Int32) × (Nat → Int32) × (Nat → Int32) × (Nat → Int32) × (Nat → Int32) × Int32 × Int64)} (hrec : ∀ (x2 : Int32) (v_hash : Int64) (H : Heap) (locs : List Loc) (ls : Array Slot), rec x2 v_hash = some x → Wd s A D (ws_Mo_digest cI cJ cZ q_this q_m q_saved q_w q_savedWords q_isSaved q_text q_far q_queue q_parent q_by q_seen q_path q_row q_more q_stateOf v_textLength v_steps v_missing v_mores v_hash v_m v_w v_text v_far v_queue v_parent v_by v_seen v_path) H locs → lv_has ls 3 [(0, .ref q_this), (1, .int x1), (2, .int x2)] → W p l e rm_Mo_digest s m args below meth c H locs 0 0 Q (F0 m 44 ls [])) (x2 : Int32) (v_hash : Int64) {H : Heap} {locs : List Loc} {ls : Array Slot} (h : f_Mo_digest_L44 v_m x1 K rec x2 v_hash = some x) (w : Wd s A D (ws_Mo_digest cI cJ cZ q_this q_m q_saved q_w q_savedWords q_isSaved q_text q_far q_queue q_parent q_by q_seen q_path q_row q_more q_stateOf v_textLength v_steps v_missing v_mores v_hash v_m v_w v_text v_far v_queue v_parent v_by v_seen v_path) H locs) (hl : lv_has ls 3 [(0, .ref q_this), (1, .int x1), (2, .int x2)]) : W p l e rm_Mo_digest s m args below meth c H locs 0 0 Q (F0 m 44 ls []) := by
  obtain ⟨hx, hb, hml, hown, hts, -, -⟩ := id C0
  unfold f_Mo_digest_L44 at h
  refine lv_iload_n hx hb dX10_digest_44 rfl (lv_at hl 2 rfl) ?_
  refine lv_aload_n hx hb dX10_digest_45 rfl (lv_at hl 0 rfl) ?_
  refine r_get C0 w 0 rfl kf_Mo 0 (by decide) lf_RX10_7 rfl dX10_digest_46 ?_
  refine lv_iconst (v := (1 : Int32)) hx hb dX10_digest_49 (by decide) ?_
  refine r_iald C0 w 1 rfl (k := 1) (by decide) (inl (by decide)) dX10_digest_50 ?_
  refine lv_icmp_ge (tgt := 76) hx hb dX10_digest_51 (by decide) (fun hc => ?_) (fun hc => ?_)
  · have h := if_h hc h
    exact hK _ _ _ _ _ h w (lv_sub hl [0, 1] rfl)
  · have h := nf_h hc h
    refine lv_aload_n hx hb dX10_digest_54 rfl (lv_at hl 0 rfl) ?_
    refine lv_aload_n hx hb dX10_digest_55 rfl (lv_at hl 0 rfl) ?_
    refine r_get C0 w 0 rfl kf_Mo 0 (by decide) lf_RX10_7 rfl dX10_digest_56 ?_
    refine lv_iconst (v := (2 : Int32)) hx hb dX10_digest_59 (by decide) ?_
    refine lv_iconst (v := (3 : Int32)) hx hb dX10_digest_60 (by decide) ?_
    refine lv_iload_n hx hb dX10_digest_61 rfl (lv_at hl 1 rfl) ?_
    refine lv_imul hx hb dX10_digest_62 ?_
    refine lv_iadd hx hb dX10_digest_63 ?_
    refine lv_iload_n hx hb dX10_digest_64 rfl (lv_at hl 2 rfl) ?_
    refine lv_iadd hx hb dX10_digest_65 ?_
    obtain ⟨hi, h⟩ := gIn_h h
    refine r_iald C0 w 1 rfl rfl hi dX10_digest_66 ?_
    obtain ⟨v_hash_1, hcall, h⟩ := bd1_h h
    have hp := sp_of (ws := (ws_Mo_digest cI cJ cZ q_this q_m q_saved q_w q_savedWords q_isSaved q_text q_far q_queue q_parent q_by q_seen q_path q_row q_more q_stateOf v_textLength v_steps v_missing v_mores v_hash v_m v_w v_text v_far v_queue v_parent v_by v_seen v_path)) (wc := (ws_Mo_mixes cI cJ cZ q_this q_m q_saved q_w q_savedWords q_isSaved q_text q_far q_queue q_parent q_by q_seen q_path q_row q_more q_stateOf v_textLength v_steps v_missing v_mores v_hash)) [0] [1, 2, 3, 4, 5, 6, 7, 8, 9] rfl rfl
    have hp' : Rp (pk (ws_Mo_digest cI cJ cZ q_this q_m q_saved q_w q_savedWords q_isSaved q_text q_far q_queue q_parent q_by q_seen q_path q_row q_more q_stateOf v_textLength v_steps v_missing v_mores v_hash v_m v_w v_text v_far v_queue v_parent v_by v_seen v_path) [1, 2, 3, 4, 5, 6, 7, 8, 9] ++ (ws_Mo_mixes cI cJ cZ q_this q_m q_saved q_w q_savedWords q_isSaved q_text q_far q_queue q_parent q_by q_seen q_path q_row q_more q_stateOf v_textLength v_steps v_missing v_mores v_hash_1)) (ws_Mo_digest cI cJ cZ q_this q_m q_saved q_w q_savedWords q_isSaved q_text q_far q_queue q_parent q_by q_seen q_path q_row q_more q_stateOf v_textLength v_steps v_missing v_mores v_hash_1 v_m v_w v_text v_far v_queue v_parent v_by v_seen v_path) := ⟨[9, 0, 1, 2, 3, 4, 5, 6, 7, 8], rfl, rfl⟩
    refine r_VV (As := [.int (v_m (((2 : Int32) + ((3 : Int32) * x1)) + x2).toNatClampNeg)]) (rest := []) (wc' := (ws_Mo_mixes cI cJ cZ q_this q_m q_saved q_w q_savedWords q_isSaved q_text q_far q_queue q_parent q_by q_seen q_path q_row q_more q_stateOf v_textLength v_steps v_missing v_mores v_hash_1)) (ws' := (ws_Mo_digest cI cJ cZ q_this q_m q_saved q_w q_savedWords q_isSaved q_text q_far q_queue q_parent q_by q_seen q_path q_row q_more q_stateOf v_textLength v_steps v_missing v_mores v_hash_1 v_m v_w v_text v_far v_queue v_parent v_by v_seen v_path)) C0 w (c_Mo_mixes hcall) hp hp' lm_RX10_213 mv_Mo_mixes ⟨rfl, rfl⟩ ⟨by decide, by decide⟩ ⟨Nat.zero_le _, Nat.zero_le _⟩ (q0 := 0) rfl rfl rfl rfl hl rfl (Nat.le_of_ble_eq_true rfl) dX10_digest_67 (fun H locs w => ?_)
    obtain ⟨x2_1, ex2_1⟩ : ∃ y : Int32, y = (x2 + 1) := ⟨_, rfl⟩
    have h := bnd_at ex2_1 h
    refine lv_iinc (v := x2_1) (lv' := [(2, .int x2_1), (0, .ref q_this), (1, .int x1)]) hx hb dX10_digest_70 hl (k := 2) rfl (by rw [ex2_1]; rfl) (by decide) rfl (fun ls hl => ?_)
    refine lv_goto (tgt := 44) hx hb dX10_digest_73 (by decide) ?_
    exact hrec _ _ _ _ _ h w (lv_sub hl [1, 2, 0] rfl)
set_option maxRecDepth 100000 in
theorem wl_Mo_digest_L44 {p : Program} {l : Launch} {e : Env} {s : State} {m : MethodId} {args : Array Value} {below : List Frame} {meth : Method} {c : Code} {Q : State → Prop} {A : Nat → Prop} {D : va_G} {cI cJ cZ cO : ClassId} {q_this q_m q_saved q_w q_savedWords q_isSaved q_text q_far q_queue q_parent q_by q_seen q_path q_row q_more q_stateOf : Nat} {v_textLength : Int32} {v_steps : Int32} {v_missing : Int64} {v_mores : Int32} {v_m : (Nat → Int32)} {v_w : (Nat → Int64)} {v_text : (Nat → Int32)} {v_far : (Nat → Int32)} {v_queue : (Nat → Int32)} {v_parent : (Nat → Int32)} {v_by : (Nat → Int32)} {v_seen : (Nat → Int32)} {v_path : (Nat → Int32)} {x1 : Int32} {x : Int64 × (Nat → Int32) × (Nat → Int32) × (Nat → Int32) × (Nat → Int32) × (Nat → Int32) × (Nat → Int32) × Int32 × Int64} (C0 : Cx p s m args c A D cI cJ cZ cO cX10_digest 3 RX10) (hQ : RtJ p l e rm_Mo_digest s m args below meth c Q A D cX10_digest (ws_Mo_digest cI cJ cZ q_this q_m q_saved q_w q_savedWords q_isSaved q_text q_far q_queue q_parent q_by q_seen q_path q_row q_more q_stateOf v_textLength x.2.2.2.2.2.2.2.1 v_missing v_mores x.2.2.2.2.2.2.2.2 v_m v_w v_text x.2.1 x.2.2.1 x.2.2.2.1 x.2.2.2.2.1 x.2.2.2.2.2.1 x.2.2.2.2.2.2.1) x.1) {K : Int32 → Int64 → Option (Int64 × (Nat → Int32) × (Nat → Int32) × (Nat → Int32) × (Nat → Int32) × (Nat → Int32) × (Nat → Int32) × Int32 × Int64)} (hK : ∀ (x2 : Int32) (v_hash : Int64) (H : Heap) (locs : List Loc) (ls : Array Slot), K x2 v_hash = some x → Wd s A D (ws_Mo_digest cI cJ cZ q_this q_m q_saved q_w q_savedWords q_isSaved q_text q_far q_queue q_parent q_by q_seen q_path q_row q_more q_stateOf v_textLength v_steps v_missing v_mores v_hash v_m v_w v_text v_far v_queue v_parent v_by v_seen v_path) H locs → lv_has ls 3 [(0, .ref q_this), (1, .int x1)] → W p l e rm_Mo_digest s m args below meth c H locs 0 0 Q (F0 m 76 ls [])) : ∀ (n : Nat) (x2 : Int32) (v_hash : Int64) (H : Heap) (locs : List Loc) (ls : Array Slot), itr (fun _ _ => none) (f_Mo_digest_L44 v_m x1 K) n x2 v_hash = some x → Wd s A D (ws_Mo_digest cI cJ cZ q_this q_m q_saved q_w q_savedWords q_isSaved q_text q_far q_queue q_parent q_by q_seen q_path q_row q_more q_stateOf v_textLength v_steps v_missing v_mores v_hash v_m v_w v_text v_far v_queue v_parent v_by v_seen v_path) H locs → lv_has ls 3 [(0, .ref q_this), (1, .int x1), (2, .int x2)] → W p l e rm_Mo_digest s m args below meth c H locs 0 0 Q (F0 m 44 ls []) := by
  intro n
  induction n with
  | zero => intro _ _ _ _ _ h; cases (show none = some _ from h)
  | succ n ih => intro _ _ _ _ _ h w hl; exact w_Mo_digest_L44 C0 hQ hK ih _ _ h w hl
set_option maxRecDepth 100000 in
theorem w_Mo_digest_L32 {p : Program} {l : Launch} {e : Env} {s : State} {m : MethodId} {args : Array Value} {below : List Frame} {meth : Method} {c : Code} {Q : State → Prop} {A : Nat → Prop} {D : va_G} {cI cJ cZ cO : ClassId} {q_this q_m q_saved q_w q_savedWords q_isSaved q_text q_far q_queue q_parent q_by q_seen q_path q_row q_more q_stateOf : Nat} {v_textLength : Int32} {v_steps : Int32} {v_missing : Int64} {v_mores : Int32} {v_m : (Nat → Int32)} {v_w : (Nat → Int64)} {v_text : (Nat → Int32)} {v_far : (Nat → Int32)} {v_queue : (Nat → Int32)} {v_parent : (Nat → Int32)} {v_by : (Nat → Int32)} {v_seen : (Nat → Int32)} {v_path : (Nat → Int32)} {x : Int64 × (Nat → Int32) × (Nat → Int32) × (Nat → Int32) × (Nat → Int32) × (Nat → Int32) × (Nat → Int32) × Int32 × Int64} (C0 : Cx p s m args c A D cI cJ cZ cO cX10_digest 3 RX10) (hQ : RtJ p l e rm_Mo_digest s m args below meth c Q A D cX10_digest (ws_Mo_digest cI cJ cZ q_this q_m q_saved q_w q_savedWords q_isSaved q_text q_far q_queue q_parent q_by q_seen q_path q_row q_more q_stateOf v_textLength x.2.2.2.2.2.2.2.1 v_missing v_mores x.2.2.2.2.2.2.2.2 v_m v_w v_text x.2.1 x.2.2.1 x.2.2.2.1 x.2.2.2.2.1 x.2.2.2.2.2.1 x.2.2.2.2.2.2.1) x.1) {K : Int32 → Int64 → Option (Int64 × (Nat → Int32) × (Nat → Int32) × (Nat → Int32) × (Nat → Int32) × (Nat → Int32) × (Nat → Int32) × Int32 × Int64)} (hK : ∀ (x1 : Int32) (v_hash : Int64) (H : Heap) (locs : List Loc) (ls : Array Slot), K x1 v_hash = some x → Wd s A D (ws_Mo_digest cI cJ cZ q_this q_m q_saved q_w q_savedWords q_isSaved q_text q_far q_queue q_parent q_by q_seen q_path q_row q_more q_stateOf v_textLength v_steps v_missing v_mores v_hash v_m v_w v_text v_far v_queue v_parent v_by v_seen v_path) H locs → lv_has ls 3 [(0, .ref q_this)] → W p l e rm_Mo_digest s m args below meth c H locs 0 0 Q (F0 m 95 ls [])) {rec : Int32 → Int64 → Option (Int64 × (Nat → Int32) × (Nat → Int32) × (Nat → Int32) × (Nat → Int32) × (Nat → Int32) × (Nat → Int32) × Int32 × Int64)} (hrec : ∀ (x1 : Int32) (v_hash : Int64) (H : Heap) (locs : List Loc) (ls : Array Slot), rec x1 v_hash = some x → Wd s A D (ws_Mo_digest cI cJ cZ q_this q_m q_saved q_w q_savedWords q_isSaved q_text q_far q_queue q_parent q_by q_seen q_path q_row q_more q_stateOf v_textLength v_steps v_missing v_mores v_hash v_m v_w v_text v_far v_queue v_parent v_by v_seen v_path) H locs → lv_has ls 3 [(0, .ref q_this), (1, .int x1)] → W p l e rm_Mo_digest s m args below meth c H locs 0 0 Q (F0 m 32 ls [])) (x1 : Int32) (v_hash : Int64) {H : Heap} {locs : List Loc} {ls : Array Slot} (h : f_Mo_digest_L32 v_m K rec x1 v_hash = some x) (w : Wd s A D (ws_Mo_digest cI cJ cZ q_this q_m q_saved q_w q_savedWords q_isSaved q_text q_far q_queue q_parent q_by q_seen q_path q_row q_more q_stateOf v_textLength v_steps v_missing v_mores v_hash v_m v_w v_text v_far v_queue v_parent v_by v_seen v_path) H locs) (hl : lv_has ls 3 [(0, .ref q_this), (1, .int x1)]) : W p l e rm_Mo_digest s m args below meth c H locs 0 0 Q (F0 m 32 ls []) := by
  obtain ⟨hx, hb, hml, hown, hts, -, -⟩ := id C0
  unfold f_Mo_digest_L32 at h
  refine lv_iload_n hx hb dX10_digest_32 rfl (lv_at hl 1 rfl) ?_
  refine lv_aload_n hx hb dX10_digest_33 rfl (lv_at hl 0 rfl) ?_
  refine r_get C0 w 0 rfl kf_Mo 0 (by decide) lf_RX10_7 rfl dX10_digest_34 ?_
  refine lv_iconst (v := (0 : Int32)) hx hb dX10_digest_37 (by decide) ?_
  refine r_iald C0 w 1 rfl (k := 0) (by decide) (inl (by decide)) dX10_digest_38 ?_
  refine lv_icmp_ge (tgt := 95) hx hb dX10_digest_39 (by decide) (fun hc => ?_) (fun hc => ?_)
  · have h := if_h hc h
    exact hK _ _ _ _ _ h w (lv_sub hl [0] rfl)
  · have h := nf_h hc h
    refine lv_iconst (v := (0 : Int32)) hx hb dX10_digest_42 (by decide) ?_
    refine lv_istore_n (lv' := [(2, .int (0 : Int32)), (0, .ref q_this), (1, .int x1)]) hx hb dX10_digest_43 rfl hl (by decide) rfl (fun ls hl => ?_)
    refine wl_Mo_digest_L44 C0 hQ (fun x2 v_hash_1 H locs ls h w hl => ?_) _ _ _ _ _ _ h w (lv_sub hl [1, 2, 0] rfl)
    refine lv_aload_n hx hb dX10_digest_76 rfl (lv_at hl 0 rfl) ?_
    refine lv_aload_n hx hb dX10_digest_77 rfl (lv_at hl 0 rfl) ?_
    refine r_get C0 w 0 rfl kf_Mo 0 (by decide) lf_RX10_7 rfl dX10_digest_78 ?_
    refine lv_bipush (v := (26 : Int32)) hx hb dX10_digest_81 (by decide) ?_
    refine lv_iload_n hx hb dX10_digest_83 rfl (lv_at hl 1 rfl) ?_
    refine lv_iadd hx hb dX10_digest_84 ?_
    obtain ⟨hi, h⟩ := gIn_h h
    refine r_iald C0 w 1 rfl rfl hi dX10_digest_85 ?_
    obtain ⟨v_hash_2, hcall, h⟩ := bd1_h h
    have hp := sp_of (ws := (ws_Mo_digest cI cJ cZ q_this q_m q_saved q_w q_savedWords q_isSaved q_text q_far q_queue q_parent q_by q_seen q_path q_row q_more q_stateOf v_textLength v_steps v_missing v_mores v_hash_1 v_m v_w v_text v_far v_queue v_parent v_by v_seen v_path)) (wc := (ws_Mo_mixes cI cJ cZ q_this q_m q_saved q_w q_savedWords q_isSaved q_text q_far q_queue q_parent q_by q_seen q_path q_row q_more q_stateOf v_textLength v_steps v_missing v_mores v_hash_1)) [0] [1, 2, 3, 4, 5, 6, 7, 8, 9] rfl rfl
    have hp' : Rp (pk (ws_Mo_digest cI cJ cZ q_this q_m q_saved q_w q_savedWords q_isSaved q_text q_far q_queue q_parent q_by q_seen q_path q_row q_more q_stateOf v_textLength v_steps v_missing v_mores v_hash_1 v_m v_w v_text v_far v_queue v_parent v_by v_seen v_path) [1, 2, 3, 4, 5, 6, 7, 8, 9] ++ (ws_Mo_mixes cI cJ cZ q_this q_m q_saved q_w q_savedWords q_isSaved q_text q_far q_queue q_parent q_by q_seen q_path q_row q_more q_stateOf v_textLength v_steps v_missing v_mores v_hash_2)) (ws_Mo_digest cI cJ cZ q_this q_m q_saved q_w q_savedWords q_isSaved q_text q_far q_queue q_parent q_by q_seen q_path q_row q_more q_stateOf v_textLength v_steps v_missing v_mores v_hash_2 v_m v_w v_text v_far v_queue v_parent v_by v_seen v_path) := ⟨[9, 0, 1, 2, 3, 4, 5, 6, 7, 8], rfl, rfl⟩
    refine r_VV (As := [.int (v_m ((26 : Int32) + x1).toNatClampNeg)]) (rest := []) (wc' := (ws_Mo_mixes cI cJ cZ q_this q_m q_saved q_w q_savedWords q_isSaved q_text q_far q_queue q_parent q_by q_seen q_path q_row q_more q_stateOf v_textLength v_steps v_missing v_mores v_hash_2)) (ws' := (ws_Mo_digest cI cJ cZ q_this q_m q_saved q_w q_savedWords q_isSaved q_text q_far q_queue q_parent q_by q_seen q_path q_row q_more q_stateOf v_textLength v_steps v_missing v_mores v_hash_2 v_m v_w v_text v_far v_queue v_parent v_by v_seen v_path)) C0 w (c_Mo_mixes hcall) hp hp' lm_RX10_213 mv_Mo_mixes ⟨rfl, rfl⟩ ⟨by decide, by decide⟩ ⟨Nat.zero_le _, Nat.zero_le _⟩ (q0 := 0) rfl rfl rfl rfl hl rfl (Nat.le_of_ble_eq_true rfl) dX10_digest_86 (fun H locs w => ?_)
    obtain ⟨x1_1, ex1_1⟩ : ∃ y : Int32, y = (x1 + 1) := ⟨_, rfl⟩
    have h := bnd_at ex1_1 h
    refine lv_iinc (v := x1_1) (lv' := [(1, .int x1_1), (0, .ref q_this)]) hx hb dX10_digest_89 hl (k := 1) rfl (by rw [ex1_1]; rfl) (by decide) rfl (fun ls hl => ?_)
    refine lv_goto (tgt := 32) hx hb dX10_digest_92 (by decide) ?_
    exact hrec _ _ _ _ _ h w (lv_sub hl [1, 0] rfl)
set_option maxRecDepth 100000 in
theorem wl_Mo_digest_L32 {p : Program} {l : Launch} {e : Env} {s : State} {m : MethodId} {args : Array Value} {below : List Frame} {meth : Method} {c : Code} {Q : State → Prop} {A : Nat → Prop} {D : va_G} {cI cJ cZ cO : ClassId} {q_this q_m q_saved q_w q_savedWords q_isSaved q_text q_far q_queue q_parent q_by q_seen q_path q_row q_more q_stateOf : Nat} {v_textLength : Int32} {v_steps : Int32} {v_missing : Int64} {v_mores : Int32} {v_m : (Nat → Int32)} {v_w : (Nat → Int64)} {v_text : (Nat → Int32)} {v_far : (Nat → Int32)} {v_queue : (Nat → Int32)} {v_parent : (Nat → Int32)} {v_by : (Nat → Int32)} {v_seen : (Nat → Int32)} {v_path : (Nat → Int32)} {x : Int64 × (Nat → Int32) × (Nat → Int32) × (Nat → Int32) × (Nat → Int32) × (Nat → Int32) × (Nat → Int32) × Int32 × Int64} (C0 : Cx p s m args c A D cI cJ cZ cO cX10_digest 3 RX10) (hQ : RtJ p l e rm_Mo_digest s m args below meth c Q A D cX10_digest (ws_Mo_digest cI cJ cZ q_this q_m q_saved q_w q_savedWords q_isSaved q_text q_far q_queue q_parent q_by q_seen q_path q_row q_more q_stateOf v_textLength x.2.2.2.2.2.2.2.1 v_missing v_mores x.2.2.2.2.2.2.2.2 v_m v_w v_text x.2.1 x.2.2.1 x.2.2.2.1 x.2.2.2.2.1 x.2.2.2.2.2.1 x.2.2.2.2.2.2.1) x.1) {K : Int32 → Int64 → Option (Int64 × (Nat → Int32) × (Nat → Int32) × (Nat → Int32) × (Nat → Int32) × (Nat → Int32) × (Nat → Int32) × Int32 × Int64)} (hK : ∀ (x1 : Int32) (v_hash : Int64) (H : Heap) (locs : List Loc) (ls : Array Slot), K x1 v_hash = some x → Wd s A D (ws_Mo_digest cI cJ cZ q_this q_m q_saved q_w q_savedWords q_isSaved q_text q_far q_queue q_parent q_by q_seen q_path q_row q_more q_stateOf v_textLength v_steps v_missing v_mores v_hash v_m v_w v_text v_far v_queue v_parent v_by v_seen v_path) H locs → lv_has ls 3 [(0, .ref q_this)] → W p l e rm_Mo_digest s m args below meth c H locs 0 0 Q (F0 m 95 ls [])) : ∀ (n : Nat) (x1 : Int32) (v_hash : Int64) (H : Heap) (locs : List Loc) (ls : Array Slot), itr (fun _ _ => none) (f_Mo_digest_L32 v_m K) n x1 v_hash = some x → Wd s A D (ws_Mo_digest cI cJ cZ q_this q_m q_saved q_w q_savedWords q_isSaved q_text q_far q_queue q_parent q_by q_seen q_path q_row q_more q_stateOf v_textLength v_steps v_missing v_mores v_hash v_m v_w v_text v_far v_queue v_parent v_by v_seen v_path) H locs → lv_has ls 3 [(0, .ref q_this), (1, .int x1)] → W p l e rm_Mo_digest s m args below meth c H locs 0 0 Q (F0 m 32 ls []) := by
  intro n
  induction n with
  | zero => intro _ _ _ _ _ h; cases (show none = some _ from h)
  | succ n ih => intro _ _ _ _ _ h w hl; exact w_Mo_digest_L32 C0 hQ hK ih _ _ h w hl
set_option maxRecDepth 100000 in
theorem w_Mo_digest_L105 {p : Program} {l : Launch} {e : Env} {s : State} {m : MethodId} {args : Array Value} {below : List Frame} {meth : Method} {c : Code} {Q : State → Prop} {A : Nat → Prop} {D : va_G} {cI cJ cZ cO : ClassId} {q_this q_m q_saved q_w q_savedWords q_isSaved q_text q_far q_queue q_parent q_by q_seen q_path q_row q_more q_stateOf : Nat} {v_textLength : Int32} {v_steps : Int32} {v_missing : Int64} {v_mores : Int32} {v_m : (Nat → Int32)} {v_w : (Nat → Int64)} {v_text : (Nat → Int32)} {v_far : (Nat → Int32)} {v_queue : (Nat → Int32)} {v_parent : (Nat → Int32)} {v_by : (Nat → Int32)} {v_seen : (Nat → Int32)} {v_path : (Nat → Int32)} {x : Int64 × (Nat → Int32) × (Nat → Int32) × (Nat → Int32) × (Nat → Int32) × (Nat → Int32) × (Nat → Int32) × Int32 × Int64} (C0 : Cx p s m args c A D cI cJ cZ cO cX10_digest 3 RX10) (hQ : RtJ p l e rm_Mo_digest s m args below meth c Q A D cX10_digest (ws_Mo_digest cI cJ cZ q_this q_m q_saved q_w q_savedWords q_isSaved q_text q_far q_queue q_parent q_by q_seen q_path q_row q_more q_stateOf v_textLength x.2.2.2.2.2.2.2.1 v_missing v_mores x.2.2.2.2.2.2.2.2 v_m v_w v_text x.2.1 x.2.2.1 x.2.2.2.1 x.2.2.2.2.1 x.2.2.2.2.2.1 x.2.2.2.2.2.2.1) x.1) {K : Int32 → Int64 → Option (Int64 × (Nat → Int32) × (Nat → Int32) × (Nat → Int32) × (Nat → Int32) × (Nat → Int32) × (Nat → Int32) × Int32 × Int64)} (hK : ∀ (x1 : Int32) (v_hash : Int64) (H : Heap) (locs : List Loc) (ls : Array Slot), K x1 v_hash = some x → Wd s A D (ws_Mo_digest cI cJ cZ q_this q_m q_saved q_w q_savedWords q_isSaved q_text q_far q_queue q_parent q_by q_seen q_path q_row q_more q_stateOf v_textLength v_steps v_missing v_mores v_hash v_m v_w v_text v_far v_queue v_parent v_by v_seen v_path) H locs → lv_has ls 3 [(0, .ref q_this)] → W p l e rm_Mo_digest s m args below meth c H locs 0 0 Q (F0 m 142 ls [])) {rec : Int32 → Int64 → Option (Int64 × (Nat → Int32) × (Nat → Int32) × (Nat → Int32) × (Nat → Int32) × (Nat → Int32) × (Nat → Int32) × Int32 × Int64)} (hrec : ∀ (x1 : Int32) (v_hash : Int64) (H : Heap) (locs : List Loc) (ls : Array Slot), rec x1 v_hash = some x → Wd s A D (ws_Mo_digest cI cJ cZ q_this q_m q_saved q_w q_savedWords q_isSaved q_text q_far q_queue q_parent q_by q_seen q_path q_row q_more q_stateOf v_textLength v_steps v_missing v_mores v_hash v_m v_w v_text v_far v_queue v_parent v_by v_seen v_path) H locs → lv_has ls 3 [(0, .ref q_this), (1, .int x1)] → W p l e rm_Mo_digest s m args below meth c H locs 0 0 Q (F0 m 105 ls [])) (x1 : Int32) (v_hash : Int64) {H : Heap} {locs : List Loc} {ls : Array Slot} (h : f_Mo_digest_L105 v_m v_w K rec x1 v_hash = some x) (w : Wd s A D (ws_Mo_digest cI cJ cZ q_this q_m q_saved q_w q_savedWords q_isSaved q_text q_far q_queue q_parent q_by q_seen q_path q_row q_more q_stateOf v_textLength v_steps v_missing v_mores v_hash v_m v_w v_text v_far v_queue v_parent v_by v_seen v_path) H locs) (hl : lv_has ls 3 [(0, .ref q_this), (1, .int x1)]) : W p l e rm_Mo_digest s m args below meth c H locs 0 0 Q (F0 m 105 ls []) := by
  obtain ⟨hx, hb, hml, hown, hts, -, -⟩ := id C0
  unfold f_Mo_digest_L105 at h
  refine lv_iload_n hx hb dX10_digest_105 rfl (lv_at hl 1 rfl) ?_
  refine lv_aload_n hx hb dX10_digest_106 rfl (lv_at hl 0 rfl) ?_
  refine r_get C0 w 0 rfl kf_Mo 0 (by decide) lf_RX10_7 rfl dX10_digest_107 ?_
  refine lv_bipush (v := (38 : Int32)) hx hb dX10_digest_110 (by decide) ?_
  refine r_iald C0 w 1 rfl (k := 38) (by decide) (inl (by decide)) dX10_digest_112 ?_
  refine lv_icmp_ge (tgt := 142) hx hb dX10_digest_113 (by decide) (fun hc => ?_) (fun hc => ?_)
  · have h := if_h hc h
    exact hK _ _ _ _ _ h w (lv_sub hl [0] rfl)
  · have h := nf_h hc h
    refine lv_aload_n hx hb dX10_digest_116 rfl (lv_at hl 0 rfl) ?_
    refine lv_aload_n hx hb dX10_digest_117 rfl (lv_at hl 0 rfl) ?_
    refine r_get C0 w 0 rfl kf_Mo 2 (by decide) lf_RX10_16 rfl dX10_digest_118 ?_
    refine lv_sipush (v := (304 : Int32)) hx hb dX10_digest_121 (by decide) ?_
    refine lv_iload_n hx hb dX10_digest_124 rfl (lv_at hl 1 rfl) ?_
    refine lv_iadd hx hb dX10_digest_125 ?_
    obtain ⟨hi, h⟩ := gIn_h h
    refine r_lald C0 w 2 rfl rfl hi dX10_digest_126 ?_
    obtain ⟨v_hash_1, hcall, h⟩ := bd1_h h
    have hp := sp_of (ws := (ws_Mo_digest cI cJ cZ q_this q_m q_saved q_w q_savedWords q_isSaved q_text q_far q_queue q_parent q_by q_seen q_path q_row q_more q_stateOf v_textLength v_steps v_missing v_mores v_hash v_m v_w v_text v_far v_queue v_parent v_by v_seen v_path)) (wc := (ws_Mo_mixesWord cI cJ cZ q_this q_m q_saved q_w q_savedWords q_isSaved q_text q_far q_queue q_parent q_by q_seen q_path q_row q_more q_stateOf v_textLength v_steps v_missing v_mores v_hash)) [0] [1, 2, 3, 4, 5, 6, 7, 8, 9] rfl rfl
    have hp' : Rp (pk (ws_Mo_digest cI cJ cZ q_this q_m q_saved q_w q_savedWords q_isSaved q_text q_far q_queue q_parent q_by q_seen q_path q_row q_more q_stateOf v_textLength v_steps v_missing v_mores v_hash v_m v_w v_text v_far v_queue v_parent v_by v_seen v_path) [1, 2, 3, 4, 5, 6, 7, 8, 9] ++ (ws_Mo_mixesWord cI cJ cZ q_this q_m q_saved q_w q_savedWords q_isSaved q_text q_far q_queue q_parent q_by q_seen q_path q_row q_more q_stateOf v_textLength v_steps v_missing v_mores v_hash_1)) (ws_Mo_digest cI cJ cZ q_this q_m q_saved q_w q_savedWords q_isSaved q_text q_far q_queue q_parent q_by q_seen q_path q_row q_more q_stateOf v_textLength v_steps v_missing v_mores v_hash_1 v_m v_w v_text v_far v_queue v_parent v_by v_seen v_path) := ⟨[9, 0, 1, 2, 3, 4, 5, 6, 7, 8], rfl, rfl⟩
    refine r_VV (As := [.long (v_w ((304 : Int32) + x1).toNatClampNeg)]) (rest := []) (wc' := (ws_Mo_mixesWord cI cJ cZ q_this q_m q_saved q_w q_savedWords q_isSaved q_text q_far q_queue q_parent q_by q_seen q_path q_row q_more q_stateOf v_textLength v_steps v_missing v_mores v_hash_1)) (ws' := (ws_Mo_digest cI cJ cZ q_this q_m q_saved q_w q_savedWords q_isSaved q_text q_far q_queue q_parent q_by q_seen q_path q_row q_more q_stateOf v_textLength v_steps v_missing v_mores v_hash_1 v_m v_w v_text v_far v_queue v_parent v_by v_seen v_path)) C0 w (c_Mo_mixesWord hcall) hp hp' lm_RX10_229 mv_Mo_mixesWord ⟨rfl, rfl⟩ ⟨by decide, by decide⟩ ⟨Nat.zero_le _, Nat.zero_le _⟩ (q0 := 0) rfl rfl rfl rfl hl rfl (Nat.le_of_ble_eq_true rfl) dX10_digest_127 (fun H locs w => ?_)
    refine lv_aload_n hx hb dX10_digest_130 rfl (lv_at hl 0 rfl) ?_
    refine lv_iload_n hx hb dX10_digest_131 rfl (lv_at hl 1 rfl) ?_
    refine lv_iconst (v := (-1 : Int32)) hx hb dX10_digest_132 (by decide) ?_
    obtain ⟨v_hash_2, hcall, h⟩ := bd1_h h
    have hp := sp_of (ws := (ws_Mo_digest cI cJ cZ q_this q_m q_saved q_w q_savedWords q_isSaved q_text q_far q_queue q_parent q_by q_seen q_path q_row q_more q_stateOf v_textLength v_steps v_missing v_mores v_hash_1 v_m v_w v_text v_far v_queue v_parent v_by v_seen v_path)) (wc := (ws_Mo_mixesRow cI cJ cZ q_this q_m q_saved q_w q_savedWords q_isSaved q_text q_far q_queue q_parent q_by q_seen q_path q_row q_more q_stateOf v_textLength v_steps v_missing v_mores v_hash_1 v_m v_w)) [0, 1, 2] [3, 4, 5, 6, 7, 8, 9] rfl rfl
    have hp' : Rp (pk (ws_Mo_digest cI cJ cZ q_this q_m q_saved q_w q_savedWords q_isSaved q_text q_far q_queue q_parent q_by q_seen q_path q_row q_more q_stateOf v_textLength v_steps v_missing v_mores v_hash_1 v_m v_w v_text v_far v_queue v_parent v_by v_seen v_path) [3, 4, 5, 6, 7, 8, 9] ++ (ws_Mo_mixesRow cI cJ cZ q_this q_m q_saved q_w q_savedWords q_isSaved q_text q_far q_queue q_parent q_by q_seen q_path q_row q_more q_stateOf v_textLength v_steps v_missing v_mores v_hash_2 v_m v_w)) (ws_Mo_digest cI cJ cZ q_this q_m q_saved q_w q_savedWords q_isSaved q_text q_far q_queue q_parent q_by q_seen q_path q_row q_more q_stateOf v_textLength v_steps v_missing v_mores v_hash_2 v_m v_w v_text v_far v_queue v_parent v_by v_seen v_path) := ⟨[7, 8, 9, 0, 1, 2, 3, 4, 5, 6], rfl, rfl⟩
    refine r_VV (As := [.int x1, .int (-1 : Int32)]) (rest := []) (wc' := (ws_Mo_mixesRow cI cJ cZ q_this q_m q_saved q_w q_savedWords q_isSaved q_text q_far q_queue q_parent q_by q_seen q_path q_row q_more q_stateOf v_textLength v_steps v_missing v_mores v_hash_2 v_m v_w)) (ws' := (ws_Mo_digest cI cJ cZ q_this q_m q_saved q_w q_savedWords q_isSaved q_text q_far q_queue q_parent q_by q_seen q_path q_row q_more q_stateOf v_textLength v_steps v_missing v_mores v_hash_2 v_m v_w v_text v_far v_queue v_parent v_by v_seen v_path)) C0 w (c_Mo_mixesRow hcall) hp hp' lm_RX10_233 mv_Mo_mixesRow ⟨rfl, rfl⟩ ⟨by decide, by decide⟩ ⟨Nat.zero_le _, Nat.zero_le _⟩ (q0 := 0) rfl rfl rfl rfl hl rfl (Nat.le_of_ble_eq_true rfl) dX10_digest_133 (fun H locs w => ?_)
    obtain ⟨x1_1, ex1_1⟩ : ∃ y : Int32, y = (x1 + 1) := ⟨_, rfl⟩
    have h := bnd_at ex1_1 h
    refine lv_iinc (v := x1_1) (lv' := [(1, .int x1_1), (0, .ref q_this)]) hx hb dX10_digest_136 hl (k := 1) rfl (by rw [ex1_1]; rfl) (by decide) rfl (fun ls hl => ?_)
    refine lv_goto (tgt := 105) hx hb dX10_digest_139 (by decide) ?_
    exact hrec _ _ _ _ _ h w (lv_sub hl [1, 0] rfl)
set_option maxRecDepth 100000 in
theorem wl_Mo_digest_L105 {p : Program} {l : Launch} {e : Env} {s : State} {m : MethodId} {args : Array Value} {below : List Frame} {meth : Method} {c : Code} {Q : State → Prop} {A : Nat → Prop} {D : va_G} {cI cJ cZ cO : ClassId} {q_this q_m q_saved q_w q_savedWords q_isSaved q_text q_far q_queue q_parent q_by q_seen q_path q_row q_more q_stateOf : Nat} {v_textLength : Int32} {v_steps : Int32} {v_missing : Int64} {v_mores : Int32} {v_m : (Nat → Int32)} {v_w : (Nat → Int64)} {v_text : (Nat → Int32)} {v_far : (Nat → Int32)} {v_queue : (Nat → Int32)} {v_parent : (Nat → Int32)} {v_by : (Nat → Int32)} {v_seen : (Nat → Int32)} {v_path : (Nat → Int32)} {x : Int64 × (Nat → Int32) × (Nat → Int32) × (Nat → Int32) × (Nat → Int32) × (Nat → Int32) × (Nat → Int32) × Int32 × Int64} (C0 : Cx p s m args c A D cI cJ cZ cO cX10_digest 3 RX10) (hQ : RtJ p l e rm_Mo_digest s m args below meth c Q A D cX10_digest (ws_Mo_digest cI cJ cZ q_this q_m q_saved q_w q_savedWords q_isSaved q_text q_far q_queue q_parent q_by q_seen q_path q_row q_more q_stateOf v_textLength x.2.2.2.2.2.2.2.1 v_missing v_mores x.2.2.2.2.2.2.2.2 v_m v_w v_text x.2.1 x.2.2.1 x.2.2.2.1 x.2.2.2.2.1 x.2.2.2.2.2.1 x.2.2.2.2.2.2.1) x.1) {K : Int32 → Int64 → Option (Int64 × (Nat → Int32) × (Nat → Int32) × (Nat → Int32) × (Nat → Int32) × (Nat → Int32) × (Nat → Int32) × Int32 × Int64)} (hK : ∀ (x1 : Int32) (v_hash : Int64) (H : Heap) (locs : List Loc) (ls : Array Slot), K x1 v_hash = some x → Wd s A D (ws_Mo_digest cI cJ cZ q_this q_m q_saved q_w q_savedWords q_isSaved q_text q_far q_queue q_parent q_by q_seen q_path q_row q_more q_stateOf v_textLength v_steps v_missing v_mores v_hash v_m v_w v_text v_far v_queue v_parent v_by v_seen v_path) H locs → lv_has ls 3 [(0, .ref q_this)] → W p l e rm_Mo_digest s m args below meth c H locs 0 0 Q (F0 m 142 ls [])) : ∀ (n : Nat) (x1 : Int32) (v_hash : Int64) (H : Heap) (locs : List Loc) (ls : Array Slot), itr (fun _ _ => none) (f_Mo_digest_L105 v_m v_w K) n x1 v_hash = some x → Wd s A D (ws_Mo_digest cI cJ cZ q_this q_m q_saved q_w q_savedWords q_isSaved q_text q_far q_queue q_parent q_by q_seen q_path q_row q_more q_stateOf v_textLength v_steps v_missing v_mores v_hash v_m v_w v_text v_far v_queue v_parent v_by v_seen v_path) H locs → lv_has ls 3 [(0, .ref q_this), (1, .int x1)] → W p l e rm_Mo_digest s m args below meth c H locs 0 0 Q (F0 m 105 ls []) := by
  intro n
  induction n with
  | zero => intro _ _ _ _ _ h; cases (show none = some _ from h)
  | succ n ih => intro _ _ _ _ _ h w hl; exact w_Mo_digest_L105 C0 hQ hK ih _ _ h w hl
set_option maxRecDepth 100000 in
theorem w_Mo_digest_L144 {p : Program} {l : Launch} {e : Env} {s : State} {m : MethodId} {args : Array Value} {below : List Frame} {meth : Method} {c : Code} {Q : State → Prop} {A : Nat → Prop} {D : va_G} {cI cJ cZ cO : ClassId} {q_this q_m q_saved q_w q_savedWords q_isSaved q_text q_far q_queue q_parent q_by q_seen q_path q_row q_more q_stateOf : Nat} {v_textLength : Int32} {v_steps : Int32} {v_missing : Int64} {v_mores : Int32} {v_m : (Nat → Int32)} {v_w : (Nat → Int64)} {v_text : (Nat → Int32)} {v_far : (Nat → Int32)} {v_queue : (Nat → Int32)} {v_parent : (Nat → Int32)} {v_by : (Nat → Int32)} {v_seen : (Nat → Int32)} {v_path : (Nat → Int32)} {x : Int64 × (Nat → Int32) × (Nat → Int32) × (Nat → Int32) × (Nat → Int32) × (Nat → Int32) × (Nat → Int32) × Int32 × Int64} (C0 : Cx p s m args c A D cI cJ cZ cO cX10_digest 3 RX10) (hQ : RtJ p l e rm_Mo_digest s m args below meth c Q A D cX10_digest (ws_Mo_digest cI cJ cZ q_this q_m q_saved q_w q_savedWords q_isSaved q_text q_far q_queue q_parent q_by q_seen q_path q_row q_more q_stateOf v_textLength x.2.2.2.2.2.2.2.1 v_missing v_mores x.2.2.2.2.2.2.2.2 v_m v_w v_text x.2.1 x.2.2.1 x.2.2.2.1 x.2.2.2.2.1 x.2.2.2.2.2.1 x.2.2.2.2.2.2.1) x.1) {K : Int32 → Int64 → Option (Int64 × (Nat → Int32) × (Nat → Int32) × (Nat → Int32) × (Nat → Int32) × (Nat → Int32) × (Nat → Int32) × Int32 × Int64)} (hK : ∀ (x1 : Int32) (v_hash : Int64) (H : Heap) (locs : List Loc) (ls : Array Slot), K x1 v_hash = some x → Wd s A D (ws_Mo_digest cI cJ cZ q_this q_m q_saved q_w q_savedWords q_isSaved q_text q_far q_queue q_parent q_by q_seen q_path q_row q_more q_stateOf v_textLength v_steps v_missing v_mores v_hash v_m v_w v_text v_far v_queue v_parent v_by v_seen v_path) H locs → lv_has ls 3 [(0, .ref q_this)] → W p l e rm_Mo_digest s m args below meth c H locs 0 0 Q (F0 m 188 ls [])) {rec : Int32 → Int64 → Option (Int64 × (Nat → Int32) × (Nat → Int32) × (Nat → Int32) × (Nat → Int32) × (Nat → Int32) × (Nat → Int32) × Int32 × Int64)} (hrec : ∀ (x1 : Int32) (v_hash : Int64) (H : Heap) (locs : List Loc) (ls : Array Slot), rec x1 v_hash = some x → Wd s A D (ws_Mo_digest cI cJ cZ q_this q_m q_saved q_w q_savedWords q_isSaved q_text q_far q_queue q_parent q_by q_seen q_path q_row q_more q_stateOf v_textLength v_steps v_missing v_mores v_hash v_m v_w v_text v_far v_queue v_parent v_by v_seen v_path) H locs → lv_has ls 3 [(0, .ref q_this), (1, .int x1)] → W p l e rm_Mo_digest s m args below meth c H locs 0 0 Q (F0 m 144 ls [])) (x1 : Int32) (v_hash : Int64) {H : Heap} {locs : List Loc} {ls : Array Slot} (h : f_Mo_digest_L144 v_m v_w K rec x1 v_hash = some x) (w : Wd s A D (ws_Mo_digest cI cJ cZ q_this q_m q_saved q_w q_savedWords q_isSaved q_text q_far q_queue q_parent q_by q_seen q_path q_row q_more q_stateOf v_textLength v_steps v_missing v_mores v_hash v_m v_w v_text v_far v_queue v_parent v_by v_seen v_path) H locs) (hl : lv_has ls 3 [(0, .ref q_this), (1, .int x1)]) : W p l e rm_Mo_digest s m args below meth c H locs 0 0 Q (F0 m 144 ls []) := by
  obtain ⟨hx, hb, hml, hown, hts, -, -⟩ := id C0
  unfold f_Mo_digest_L144 at h
  refine lv_iload_n hx hb dX10_digest_144 rfl (lv_at hl 1 rfl) ?_
  refine lv_aload_n hx hb dX10_digest_145 rfl (lv_at hl 0 rfl) ?_
  refine r_get C0 w 0 rfl kf_Mo 0 (by decide) lf_RX10_7 rfl dX10_digest_146 ?_
  refine lv_bipush (v := (38 : Int32)) hx hb dX10_digest_149 (by decide) ?_
  refine r_iald C0 w 1 rfl (k := 38) (by decide) (inl (by decide)) dX10_digest_151 ?_
  refine lv_aload_n hx hb dX10_digest_152 rfl (lv_at hl 0 rfl) ?_
  refine r_get C0 w 0 rfl kf_Mo 0 (by decide) lf_RX10_7 rfl dX10_digest_153 ?_
  refine lv_iconst (v := (1 : Int32)) hx hb dX10_digest_156 (by decide) ?_
  refine r_iald C0 w 1 rfl (k := 1) (by decide) (inl (by decide)) dX10_digest_157 ?_
  refine lv_imul hx hb dX10_digest_158 ?_
  refine lv_icmp_ge (tgt := 188) hx hb dX10_digest_159 (by decide) (fun hc => ?_) (fun hc => ?_)
  · have h := if_h hc h
    exact hK _ _ _ _ _ h w (lv_sub hl [0] rfl)
  · have h := nf_h hc h
    refine lv_aload_n hx hb dX10_digest_162 rfl (lv_at hl 0 rfl) ?_
    refine lv_iload_n hx hb dX10_digest_163 rfl (lv_at hl 1 rfl) ?_
    refine lv_aload_n hx hb dX10_digest_164 rfl (lv_at hl 0 rfl) ?_
    refine r_get C0 w 0 rfl kf_Mo 0 (by decide) lf_RX10_7 rfl dX10_digest_165 ?_
    refine lv_iconst (v := (1 : Int32)) hx hb dX10_digest_168 (by decide) ?_
    refine r_iald C0 w 1 rfl (k := 1) (by decide) (inl (by decide)) dX10_digest_169 ?_
    obtain ⟨hz, h⟩ := gNz_h h
    refine lv_idiv hx hb dX10_digest_170 hz ?_
    refine lv_iload_n hx hb dX10_digest_171 rfl (lv_at hl 1 rfl) ?_
    refine lv_aload_n hx hb dX10_digest_172 rfl (lv_at hl 0 rfl) ?_
    refine r_get C0 w 0 rfl kf_Mo 0 (by decide) lf_RX10_7 rfl dX10_digest_173 ?_
    refine lv_iconst (v := (1 : Int32)) hx hb dX10_digest_176 (by decide) ?_
    refine r_iald C0 w 1 rfl (k := 1) (by decide) (inl (by decide)) dX10_digest_177 ?_
    obtain ⟨hz, h⟩ := gNz_h h
    refine lv_irem hx hb dX10_digest_178 hz ?_
    obtain ⟨v_hash_1, hcall, h⟩ := bd1_h h
    have hp := sp_of (ws := (ws_Mo_digest cI cJ cZ q_this q_m q_saved q_w q_savedWords q_isSaved q_text q_far q_queue q_parent q_by q_seen q_path q_row q_more q_stateOf v_textLength v_steps v_missing v_mores v_hash v_m v_w v_text v_far v_queue v_parent v_by v_seen v_path)) (wc := (ws_Mo_mixesRow cI cJ cZ q_this q_m q_saved q_w q_savedWords q_isSaved q_text q_far q_queue q_parent q_by q_seen q_path q_row q_more q_stateOf v_textLength v_steps v_missing v_mores v_hash v_m v_w)) [0, 1, 2] [3, 4, 5, 6, 7, 8, 9] rfl rfl
    have hp' : Rp (pk (ws_Mo_digest cI cJ cZ q_this q_m q_saved q_w q_savedWords q_isSaved q_text q_far q_queue q_parent q_by q_seen q_path q_row q_more q_stateOf v_textLength v_steps v_missing v_mores v_hash v_m v_w v_text v_far v_queue v_parent v_by v_seen v_path) [3, 4, 5, 6, 7, 8, 9] ++ (ws_Mo_mixesRow cI cJ cZ q_this q_m q_saved q_w q_savedWords q_isSaved q_text q_far q_queue q_parent q_by q_seen q_path q_row q_more q_stateOf v_textLength v_steps v_missing v_mores v_hash_1 v_m v_w)) (ws_Mo_digest cI cJ cZ q_this q_m q_saved q_w q_savedWords q_isSaved q_text q_far q_queue q_parent q_by q_seen q_path q_row q_more q_stateOf v_textLength v_steps v_missing v_mores v_hash_1 v_m v_w v_text v_far v_queue v_parent v_by v_seen v_path) := ⟨[7, 8, 9, 0, 1, 2, 3, 4, 5, 6], rfl, rfl⟩
    refine r_VV (As := [.int (x1 / (v_m 1)), .int (x1 - x1 / (v_m 1) * (v_m 1))]) (rest := []) (wc' := (ws_Mo_mixesRow cI cJ cZ q_this q_m q_saved q_w q_savedWords q_isSaved q_text q_far q_queue q_parent q_by q_seen q_path q_row q_more q_stateOf v_textLength v_steps v_missing v_mores v_hash_1 v_m v_w)) (ws' := (ws_Mo_digest cI cJ cZ q_this q_m q_saved q_w q_savedWords q_isSaved q_text q_far q_queue q_parent q_by q_seen q_path q_row q_more q_stateOf v_textLength v_steps v_missing v_mores v_hash_1 v_m v_w v_text v_far v_queue v_parent v_by v_seen v_path)) C0 w (c_Mo_mixesRow hcall) hp hp' lm_RX10_233 mv_Mo_mixesRow ⟨rfl, rfl⟩ ⟨by decide, by decide⟩ ⟨Nat.zero_le _, Nat.zero_le _⟩ (q0 := 0) rfl rfl rfl rfl hl rfl (Nat.le_of_ble_eq_true rfl) dX10_digest_179 (fun H locs w => ?_)
    obtain ⟨x1_1, ex1_1⟩ : ∃ y : Int32, y = (x1 + 1) := ⟨_, rfl⟩
    have h := bnd_at ex1_1 h
    refine lv_iinc (v := x1_1) (lv' := [(1, .int x1_1), (0, .ref q_this)]) hx hb dX10_digest_182 hl (k := 1) rfl (by rw [ex1_1]; rfl) (by decide) rfl (fun ls hl => ?_)
    refine lv_goto (tgt := 144) hx hb dX10_digest_185 (by decide) ?_
    exact hrec _ _ _ _ _ h w (lv_sub hl [1, 0] rfl)
set_option maxRecDepth 100000 in
theorem wl_Mo_digest_L144 {p : Program} {l : Launch} {e : Env} {s : State} {m : MethodId} {args : Array Value} {below : List Frame} {meth : Method} {c : Code} {Q : State → Prop} {A : Nat → Prop} {D : va_G} {cI cJ cZ cO : ClassId} {q_this q_m q_saved q_w q_savedWords q_isSaved q_text q_far q_queue q_parent q_by q_seen q_path q_row q_more q_stateOf : Nat} {v_textLength : Int32} {v_steps : Int32} {v_missing : Int64} {v_mores : Int32} {v_m : (Nat → Int32)} {v_w : (Nat → Int64)} {v_text : (Nat → Int32)} {v_far : (Nat → Int32)} {v_queue : (Nat → Int32)} {v_parent : (Nat → Int32)} {v_by : (Nat → Int32)} {v_seen : (Nat → Int32)} {v_path : (Nat → Int32)} {x : Int64 × (Nat → Int32) × (Nat → Int32) × (Nat → Int32) × (Nat → Int32) × (Nat → Int32) × (Nat → Int32) × Int32 × Int64} (C0 : Cx p s m args c A D cI cJ cZ cO cX10_digest 3 RX10) (hQ : RtJ p l e rm_Mo_digest s m args below meth c Q A D cX10_digest (ws_Mo_digest cI cJ cZ q_this q_m q_saved q_w q_savedWords q_isSaved q_text q_far q_queue q_parent q_by q_seen q_path q_row q_more q_stateOf v_textLength x.2.2.2.2.2.2.2.1 v_missing v_mores x.2.2.2.2.2.2.2.2 v_m v_w v_text x.2.1 x.2.2.1 x.2.2.2.1 x.2.2.2.2.1 x.2.2.2.2.2.1 x.2.2.2.2.2.2.1) x.1) {K : Int32 → Int64 → Option (Int64 × (Nat → Int32) × (Nat → Int32) × (Nat → Int32) × (Nat → Int32) × (Nat → Int32) × (Nat → Int32) × Int32 × Int64)} (hK : ∀ (x1 : Int32) (v_hash : Int64) (H : Heap) (locs : List Loc) (ls : Array Slot), K x1 v_hash = some x → Wd s A D (ws_Mo_digest cI cJ cZ q_this q_m q_saved q_w q_savedWords q_isSaved q_text q_far q_queue q_parent q_by q_seen q_path q_row q_more q_stateOf v_textLength v_steps v_missing v_mores v_hash v_m v_w v_text v_far v_queue v_parent v_by v_seen v_path) H locs → lv_has ls 3 [(0, .ref q_this)] → W p l e rm_Mo_digest s m args below meth c H locs 0 0 Q (F0 m 188 ls [])) : ∀ (n : Nat) (x1 : Int32) (v_hash : Int64) (H : Heap) (locs : List Loc) (ls : Array Slot), itr (fun _ _ => none) (f_Mo_digest_L144 v_m v_w K) n x1 v_hash = some x → Wd s A D (ws_Mo_digest cI cJ cZ q_this q_m q_saved q_w q_savedWords q_isSaved q_text q_far q_queue q_parent q_by q_seen q_path q_row q_more q_stateOf v_textLength v_steps v_missing v_mores v_hash v_m v_w v_text v_far v_queue v_parent v_by v_seen v_path) H locs → lv_has ls 3 [(0, .ref q_this), (1, .int x1)] → W p l e rm_Mo_digest s m args below meth c H locs 0 0 Q (F0 m 144 ls []) := by
  intro n
  induction n with
  | zero => intro _ _ _ _ _ h; cases (show none = some _ from h)
  | succ n ih => intro _ _ _ _ _ h w hl; exact w_Mo_digest_L144 C0 hQ hK ih _ _ h w hl
set_option maxRecDepth 100000 in
theorem w_Mo_digest_L190 {p : Program} {l : Launch} {e : Env} {s : State} {m : MethodId} {args : Array Value} {below : List Frame} {meth : Method} {c : Code} {Q : State → Prop} {A : Nat → Prop} {D : va_G} {cI cJ cZ cO : ClassId} {q_this q_m q_saved q_w q_savedWords q_isSaved q_text q_far q_queue q_parent q_by q_seen q_path q_row q_more q_stateOf : Nat} {v_textLength : Int32} {v_steps : Int32} {v_missing : Int64} {v_mores : Int32} {v_m : (Nat → Int32)} {v_w : (Nat → Int64)} {v_text : (Nat → Int32)} {v_far : (Nat → Int32)} {v_queue : (Nat → Int32)} {v_parent : (Nat → Int32)} {v_by : (Nat → Int32)} {v_seen : (Nat → Int32)} {v_path : (Nat → Int32)} {x : Int64 × (Nat → Int32) × (Nat → Int32) × (Nat → Int32) × (Nat → Int32) × (Nat → Int32) × (Nat → Int32) × Int32 × Int64} (C0 : Cx p s m args c A D cI cJ cZ cO cX10_digest 3 RX10) (hQ : RtJ p l e rm_Mo_digest s m args below meth c Q A D cX10_digest (ws_Mo_digest cI cJ cZ q_this q_m q_saved q_w q_savedWords q_isSaved q_text q_far q_queue q_parent q_by q_seen q_path q_row q_more q_stateOf v_textLength x.2.2.2.2.2.2.2.1 v_missing v_mores x.2.2.2.2.2.2.2.2 v_m v_w v_text x.2.1 x.2.2.1 x.2.2.2.1 x.2.2.2.2.1 x.2.2.2.2.2.1 x.2.2.2.2.2.2.1) x.1) {K : Int32 → Int64 → Option (Int64 × (Nat → Int32) × (Nat → Int32) × (Nat → Int32) × (Nat → Int32) × (Nat → Int32) × (Nat → Int32) × Int32 × Int64)} (hK : ∀ (x1 : Int32) (v_hash : Int64) (H : Heap) (locs : List Loc) (ls : Array Slot), K x1 v_hash = some x → Wd s A D (ws_Mo_digest cI cJ cZ q_this q_m q_saved q_w q_savedWords q_isSaved q_text q_far q_queue q_parent q_by q_seen q_path q_row q_more q_stateOf v_textLength v_steps v_missing v_mores v_hash v_m v_w v_text v_far v_queue v_parent v_by v_seen v_path) H locs → lv_has ls 3 [(0, .ref q_this)] → W p l e rm_Mo_digest s m args below meth c H locs 0 0 Q (F0 m 221 ls [])) {rec : Int32 → Int64 → Option (Int64 × (Nat → Int32) × (Nat → Int32) × (Nat → Int32) × (Nat → Int32) × (Nat → Int32) × (Nat → Int32) × Int32 × Int64)} (hrec : ∀ (x1 : Int32) (v_hash : Int64) (H : Heap) (locs : List Loc) (ls : Array Slot), rec x1 v_hash = some x → Wd s A D (ws_Mo_digest cI cJ cZ q_this q_m q_saved q_w q_savedWords q_isSaved q_text q_far q_queue q_parent q_by q_seen q_path q_row q_more q_stateOf v_textLength v_steps v_missing v_mores v_hash v_m v_w v_text v_far v_queue v_parent v_by v_seen v_path) H locs → lv_has ls 3 [(0, .ref q_this), (1, .int x1)] → W p l e rm_Mo_digest s m args below meth c H locs 0 0 Q (F0 m 190 ls [])) (x1 : Int32) (v_hash : Int64) {H : Heap} {locs : List Loc} {ls : Array Slot} (h : f_Mo_digest_L190 v_m v_w K rec x1 v_hash = some x) (w : Wd s A D (ws_Mo_digest cI cJ cZ q_this q_m q_saved q_w q_savedWords q_isSaved q_text q_far q_queue q_parent q_by q_seen q_path q_row q_more q_stateOf v_textLength v_steps v_missing v_mores v_hash v_m v_w v_text v_far v_queue v_parent v_by v_seen v_path) H locs) (hl : lv_has ls 3 [(0, .ref q_this), (1, .int x1)]) : W p l e rm_Mo_digest s m args below meth c H locs 0 0 Q (F0 m 190 ls []) := by
  obtain ⟨hx, hb, hml, hown, hts, -, -⟩ := id C0
  unfold f_Mo_digest_L190 at h
  refine lv_iload_n hx hb dX10_digest_190 rfl (lv_at hl 1 rfl) ?_
  refine lv_aload_n hx hb dX10_digest_191 rfl (lv_at hl 0 rfl) ?_
  refine r_get C0 w 0 rfl kf_Mo 0 (by decide) lf_RX10_7 rfl dX10_digest_192 ?_
  refine lv_bipush (v := (39 : Int32)) hx hb dX10_digest_195 (by decide) ?_
  refine r_iald C0 w 1 rfl (k := 39) (by decide) (inl (by decide)) dX10_digest_197 ?_
  refine lv_icmp_ge (tgt := 221) hx hb dX10_digest_198 (by decide) (fun hc => ?_) (fun hc => ?_)
  · have h := if_h hc h
    exact hK _ _ _ _ _ h w (lv_sub hl [0] rfl)
  · have h := nf_h hc h
    refine lv_aload_n hx hb dX10_digest_201 rfl (lv_at hl 0 rfl) ?_
    refine lv_aload_n hx hb dX10_digest_202 rfl (lv_at hl 0 rfl) ?_
    refine r_get C0 w 0 rfl kf_Mo 2 (by decide) lf_RX10_16 rfl dX10_digest_203 ?_
    refine lv_sipush (v := (344 : Int32)) hx hb dX10_digest_206 (by decide) ?_
    refine lv_iload_n hx hb dX10_digest_209 rfl (lv_at hl 1 rfl) ?_
    refine lv_iadd hx hb dX10_digest_210 ?_
    obtain ⟨hi, h⟩ := gIn_h h
    refine r_lald C0 w 2 rfl rfl hi dX10_digest_211 ?_
    obtain ⟨v_hash_1, hcall, h⟩ := bd1_h h
    have hp := sp_of (ws := (ws_Mo_digest cI cJ cZ q_this q_m q_saved q_w q_savedWords q_isSaved q_text q_far q_queue q_parent q_by q_seen q_path q_row q_more q_stateOf v_textLength v_steps v_missing v_mores v_hash v_m v_w v_text v_far v_queue v_parent v_by v_seen v_path)) (wc := (ws_Mo_mixesWord cI cJ cZ q_this q_m q_saved q_w q_savedWords q_isSaved q_text q_far q_queue q_parent q_by q_seen q_path q_row q_more q_stateOf v_textLength v_steps v_missing v_mores v_hash)) [0] [1, 2, 3, 4, 5, 6, 7, 8, 9] rfl rfl
    have hp' : Rp (pk (ws_Mo_digest cI cJ cZ q_this q_m q_saved q_w q_savedWords q_isSaved q_text q_far q_queue q_parent q_by q_seen q_path q_row q_more q_stateOf v_textLength v_steps v_missing v_mores v_hash v_m v_w v_text v_far v_queue v_parent v_by v_seen v_path) [1, 2, 3, 4, 5, 6, 7, 8, 9] ++ (ws_Mo_mixesWord cI cJ cZ q_this q_m q_saved q_w q_savedWords q_isSaved q_text q_far q_queue q_parent q_by q_seen q_path q_row q_more q_stateOf v_textLength v_steps v_missing v_mores v_hash_1)) (ws_Mo_digest cI cJ cZ q_this q_m q_saved q_w q_savedWords q_isSaved q_text q_far q_queue q_parent q_by q_seen q_path q_row q_more q_stateOf v_textLength v_steps v_missing v_mores v_hash_1 v_m v_w v_text v_far v_queue v_parent v_by v_seen v_path) := ⟨[9, 0, 1, 2, 3, 4, 5, 6, 7, 8], rfl, rfl⟩
    refine r_VV (As := [.long (v_w ((344 : Int32) + x1).toNatClampNeg)]) (rest := []) (wc' := (ws_Mo_mixesWord cI cJ cZ q_this q_m q_saved q_w q_savedWords q_isSaved q_text q_far q_queue q_parent q_by q_seen q_path q_row q_more q_stateOf v_textLength v_steps v_missing v_mores v_hash_1)) (ws' := (ws_Mo_digest cI cJ cZ q_this q_m q_saved q_w q_savedWords q_isSaved q_text q_far q_queue q_parent q_by q_seen q_path q_row q_more q_stateOf v_textLength v_steps v_missing v_mores v_hash_1 v_m v_w v_text v_far v_queue v_parent v_by v_seen v_path)) C0 w (c_Mo_mixesWord hcall) hp hp' lm_RX10_229 mv_Mo_mixesWord ⟨rfl, rfl⟩ ⟨by decide, by decide⟩ ⟨Nat.zero_le _, Nat.zero_le _⟩ (q0 := 0) rfl rfl rfl rfl hl rfl (Nat.le_of_ble_eq_true rfl) dX10_digest_212 (fun H locs w => ?_)
    obtain ⟨x1_1, ex1_1⟩ : ∃ y : Int32, y = (x1 + 1) := ⟨_, rfl⟩
    have h := bnd_at ex1_1 h
    refine lv_iinc (v := x1_1) (lv' := [(1, .int x1_1), (0, .ref q_this)]) hx hb dX10_digest_215 hl (k := 1) rfl (by rw [ex1_1]; rfl) (by decide) rfl (fun ls hl => ?_)
    refine lv_goto (tgt := 190) hx hb dX10_digest_218 (by decide) ?_
    exact hrec _ _ _ _ _ h w (lv_sub hl [1, 0] rfl)
set_option maxRecDepth 100000 in
theorem wl_Mo_digest_L190 {p : Program} {l : Launch} {e : Env} {s : State} {m : MethodId} {args : Array Value} {below : List Frame} {meth : Method} {c : Code} {Q : State → Prop} {A : Nat → Prop} {D : va_G} {cI cJ cZ cO : ClassId} {q_this q_m q_saved q_w q_savedWords q_isSaved q_text q_far q_queue q_parent q_by q_seen q_path q_row q_more q_stateOf : Nat} {v_textLength : Int32} {v_steps : Int32} {v_missing : Int64} {v_mores : Int32} {v_m : (Nat → Int32)} {v_w : (Nat → Int64)} {v_text : (Nat → Int32)} {v_far : (Nat → Int32)} {v_queue : (Nat → Int32)} {v_parent : (Nat → Int32)} {v_by : (Nat → Int32)} {v_seen : (Nat → Int32)} {v_path : (Nat → Int32)} {x : Int64 × (Nat → Int32) × (Nat → Int32) × (Nat → Int32) × (Nat → Int32) × (Nat → Int32) × (Nat → Int32) × Int32 × Int64} (C0 : Cx p s m args c A D cI cJ cZ cO cX10_digest 3 RX10) (hQ : RtJ p l e rm_Mo_digest s m args below meth c Q A D cX10_digest (ws_Mo_digest cI cJ cZ q_this q_m q_saved q_w q_savedWords q_isSaved q_text q_far q_queue q_parent q_by q_seen q_path q_row q_more q_stateOf v_textLength x.2.2.2.2.2.2.2.1 v_missing v_mores x.2.2.2.2.2.2.2.2 v_m v_w v_text x.2.1 x.2.2.1 x.2.2.2.1 x.2.2.2.2.1 x.2.2.2.2.2.1 x.2.2.2.2.2.2.1) x.1) {K : Int32 → Int64 → Option (Int64 × (Nat → Int32) × (Nat → Int32) × (Nat → Int32) × (Nat → Int32) × (Nat → Int32) × (Nat → Int32) × Int32 × Int64)} (hK : ∀ (x1 : Int32) (v_hash : Int64) (H : Heap) (locs : List Loc) (ls : Array Slot), K x1 v_hash = some x → Wd s A D (ws_Mo_digest cI cJ cZ q_this q_m q_saved q_w q_savedWords q_isSaved q_text q_far q_queue q_parent q_by q_seen q_path q_row q_more q_stateOf v_textLength v_steps v_missing v_mores v_hash v_m v_w v_text v_far v_queue v_parent v_by v_seen v_path) H locs → lv_has ls 3 [(0, .ref q_this)] → W p l e rm_Mo_digest s m args below meth c H locs 0 0 Q (F0 m 221 ls [])) : ∀ (n : Nat) (x1 : Int32) (v_hash : Int64) (H : Heap) (locs : List Loc) (ls : Array Slot), itr (fun _ _ => none) (f_Mo_digest_L190 v_m v_w K) n x1 v_hash = some x → Wd s A D (ws_Mo_digest cI cJ cZ q_this q_m q_saved q_w q_savedWords q_isSaved q_text q_far q_queue q_parent q_by q_seen q_path q_row q_more q_stateOf v_textLength v_steps v_missing v_mores v_hash v_m v_w v_text v_far v_queue v_parent v_by v_seen v_path) H locs → lv_has ls 3 [(0, .ref q_this), (1, .int x1)] → W p l e rm_Mo_digest s m args below meth c H locs 0 0 Q (F0 m 190 ls []) := by
  intro n
  induction n with
  | zero => intro _ _ _ _ _ h; cases (show none = some _ from h)
  | succ n ih => intro _ _ _ _ _ h w hl; exact w_Mo_digest_L190 C0 hQ hK ih _ _ h w hl
set_option maxRecDepth 100000 in
theorem w_Mo_digest_L236 {p : Program} {l : Launch} {e : Env} {s : State} {m : MethodId} {args : Array Value} {below : List Frame} {meth : Method} {c : Code} {Q : State → Prop} {A : Nat → Prop} {D : va_G} {cI cJ cZ cO : ClassId} {q_this q_m q_saved q_w q_savedWords q_isSaved q_text q_far q_queue q_parent q_by q_seen q_path q_row q_more q_stateOf : Nat} {v_textLength : Int32} {v_steps : Int32} {v_missing : Int64} {v_mores : Int32} {v_m : (Nat → Int32)} {v_w : (Nat → Int64)} {v_text : (Nat → Int32)} {v_far : (Nat → Int32)} {v_queue : (Nat → Int32)} {v_parent : (Nat → Int32)} {v_by : (Nat → Int32)} {v_seen : (Nat → Int32)} {v_path : (Nat → Int32)} {x1 : Int32} {x : Int64 × (Nat → Int32) × (Nat → Int32) × (Nat → Int32) × (Nat → Int32) × (Nat → Int32) × (Nat → Int32) × Int32 × Int64} (C0 : Cx p s m args c A D cI cJ cZ cO cX10_digest 3 RX10) (hQ : RtJ p l e rm_Mo_digest s m args below meth c Q A D cX10_digest (ws_Mo_digest cI cJ cZ q_this q_m q_saved q_w q_savedWords q_isSaved q_text q_far q_queue q_parent q_by q_seen q_path q_row q_more q_stateOf v_textLength x.2.2.2.2.2.2.2.1 v_missing v_mores x.2.2.2.2.2.2.2.2 v_m v_w v_text x.2.1 x.2.2.1 x.2.2.2.1 x.2.2.2.2.1 x.2.2.2.2.2.1 x.2.2.2.2.2.2.1) x.1) {K : Int32 → Int64 → Option (Int64 × (Nat → Int32) × (Nat → Int32) × (Nat → Int32) × (Nat → Int32) × (Nat → Int32) × (Nat → Int32) × Int32 × Int64)} (hK : ∀ (x2 : Int32) (v_hash : Int64) (H : Heap) (locs : List Loc) (ls : Array Slot), K x2 v_hash = some x → Wd s A D (ws_Mo_digest cI cJ cZ q_this q_m q_saved q_w q_savedWords q_isSaved q_text q_far q_queue q_parent q_by q_seen q_path q_row q_more q_stateOf v_textLength v_steps v_missing v_mores v_hash v_m v_w v_text v_far v_queue v_parent v_by v_seen v_path) H locs → lv_has ls 3 [(0, .ref q_this), (1, .int x1)] → W p l e rm_Mo_digest s m args below meth c H locs 0 0 Q (F0 m 270 ls [])) {rec : Int32 → Int64 → Option (Int64 × (Nat → Int32) × (Nat → Int32) × (Nat → Int32) × (Nat → Int32) × (Nat → Int32) × (Nat → Int32) × Int32 × Int64)} (hrec : ∀ (x2 : Int32) (v_hash : Int64) (H : Heap) (locs : List Loc) (ls : Array Slot), rec x2 v_hash = some x → Wd s A D (ws_Mo_digest cI cJ cZ q_this q_m q_saved q_w q_savedWords q_isSaved q_text q_far q_queue q_parent q_by q_seen q_path q_row q_more q_stateOf v_textLength v_steps v_missing v_mores v_hash v_m v_w v_text v_far v_queue v_parent v_by v_seen v_path) H locs → lv_has ls 3 [(0, .ref q_this), (1, .int x1), (2, .int x2)] → W p l e rm_Mo_digest s m args below meth c H locs 0 0 Q (F0 m 236 ls [])) (x2 : Int32) (v_hash : Int64) {H : Heap} {locs : List Loc} {ls : Array Slot} (h : f_Mo_digest_L236 v_m x1 K rec x2 v_hash = some x) (w : Wd s A D (ws_Mo_digest cI cJ cZ q_this q_m q_saved q_w q_savedWords q_isSaved q_text q_far q_queue q_parent q_by q_seen q_path q_row q_more q_stateOf v_textLength v_steps v_missing v_mores v_hash v_m v_w v_text v_far v_queue v_parent v_by v_seen v_path) H locs) (hl : lv_has ls 3 [(0, .ref q_this), (1, .int x1), (2, .int x2)]) : W p l e rm_Mo_digest s m args below meth c H locs 0 0 Q (F0 m 236 ls []) := by
  obtain ⟨hx, hb, hml, hown, hts, -, -⟩ := id C0
  unfold f_Mo_digest_L236 at h
  refine lv_iload_n hx hb dX10_digest_236 rfl (lv_at hl 2 rfl) ?_
  refine lv_aload_n hx hb dX10_digest_237 rfl (lv_at hl 0 rfl) ?_
  refine r_get C0 w 0 rfl kf_Mo 0 (by decide) lf_RX10_7 rfl dX10_digest_238 ?_
  refine lv_iconst (v := (1 : Int32)) hx hb dX10_digest_241 (by decide) ?_
  refine r_iald C0 w 1 rfl (k := 1) (by decide) (inl (by decide)) dX10_digest_242 ?_
  refine lv_icmp_ge (tgt := 270) hx hb dX10_digest_243 (by decide) (fun hc => ?_) (fun hc => ?_)
  · have h := if_h hc h
    exact hK _ _ _ _ _ h w (lv_sub hl [0, 1] rfl)
  · have h := nf_h hc h
    refine lv_aload_n hx hb dX10_digest_246 rfl (lv_at hl 0 rfl) ?_
    refine lv_aload_n hx hb dX10_digest_247 rfl (lv_at hl 0 rfl) ?_
    refine r_get C0 w 0 rfl kf_Mo 0 (by decide) lf_RX10_7 rfl dX10_digest_248 ?_
    refine lv_sipush (v := (361 : Int32)) hx hb dX10_digest_251 (by decide) ?_
    refine lv_iconst (v := (3 : Int32)) hx hb dX10_digest_254 (by decide) ?_
    refine lv_iload_n hx hb dX10_digest_255 rfl (lv_at hl 1 rfl) ?_
    refine lv_imul hx hb dX10_digest_256 ?_
    refine lv_iadd hx hb dX10_digest_257 ?_
    refine lv_iload_n hx hb dX10_digest_258 rfl (lv_at hl 2 rfl) ?_
    refine lv_iadd hx hb dX10_digest_259 ?_
    obtain ⟨hi, h⟩ := gIn_h h
    refine r_iald C0 w 1 rfl rfl hi dX10_digest_260 ?_
    obtain ⟨v_hash_1, hcall, h⟩ := bd1_h h
    have hp := sp_of (ws := (ws_Mo_digest cI cJ cZ q_this q_m q_saved q_w q_savedWords q_isSaved q_text q_far q_queue q_parent q_by q_seen q_path q_row q_more q_stateOf v_textLength v_steps v_missing v_mores v_hash v_m v_w v_text v_far v_queue v_parent v_by v_seen v_path)) (wc := (ws_Mo_mixes cI cJ cZ q_this q_m q_saved q_w q_savedWords q_isSaved q_text q_far q_queue q_parent q_by q_seen q_path q_row q_more q_stateOf v_textLength v_steps v_missing v_mores v_hash)) [0] [1, 2, 3, 4, 5, 6, 7, 8, 9] rfl rfl
    have hp' : Rp (pk (ws_Mo_digest cI cJ cZ q_this q_m q_saved q_w q_savedWords q_isSaved q_text q_far q_queue q_parent q_by q_seen q_path q_row q_more q_stateOf v_textLength v_steps v_missing v_mores v_hash v_m v_w v_text v_far v_queue v_parent v_by v_seen v_path) [1, 2, 3, 4, 5, 6, 7, 8, 9] ++ (ws_Mo_mixes cI cJ cZ q_this q_m q_saved q_w q_savedWords q_isSaved q_text q_far q_queue q_parent q_by q_seen q_path q_row q_more q_stateOf v_textLength v_steps v_missing v_mores v_hash_1)) (ws_Mo_digest cI cJ cZ q_this q_m q_saved q_w q_savedWords q_isSaved q_text q_far q_queue q_parent q_by q_seen q_path q_row q_more q_stateOf v_textLength v_steps v_missing v_mores v_hash_1 v_m v_w v_text v_far v_queue v_parent v_by v_seen v_path) := ⟨[9, 0, 1, 2, 3, 4, 5, 6, 7, 8], rfl, rfl⟩
    refine r_VV (As := [.int (v_m (((361 : Int32) + ((3 : Int32) * x1)) + x2).toNatClampNeg)]) (rest := []) (wc' := (ws_Mo_mixes cI cJ cZ q_this q_m q_saved q_w q_savedWords q_isSaved q_text q_far q_queue q_parent q_by q_seen q_path q_row q_more q_stateOf v_textLength v_steps v_missing v_mores v_hash_1)) (ws' := (ws_Mo_digest cI cJ cZ q_this q_m q_saved q_w q_savedWords q_isSaved q_text q_far q_queue q_parent q_by q_seen q_path q_row q_more q_stateOf v_textLength v_steps v_missing v_mores v_hash_1 v_m v_w v_text v_far v_queue v_parent v_by v_seen v_path)) C0 w (c_Mo_mixes hcall) hp hp' lm_RX10_213 mv_Mo_mixes ⟨rfl, rfl⟩ ⟨by decide, by decide⟩ ⟨Nat.zero_le _, Nat.zero_le _⟩ (q0 := 0) rfl rfl rfl rfl hl rfl (Nat.le_of_ble_eq_true rfl) dX10_digest_261 (fun H locs w => ?_)
    obtain ⟨x2_1, ex2_1⟩ : ∃ y : Int32, y = (x2 + 1) := ⟨_, rfl⟩
    have h := bnd_at ex2_1 h
    refine lv_iinc (v := x2_1) (lv' := [(2, .int x2_1), (0, .ref q_this), (1, .int x1)]) hx hb dX10_digest_264 hl (k := 2) rfl (by rw [ex2_1]; rfl) (by decide) rfl (fun ls hl => ?_)
    refine lv_goto (tgt := 236) hx hb dX10_digest_267 (by decide) ?_
    exact hrec _ _ _ _ _ h w (lv_sub hl [1, 2, 0] rfl)
set_option maxRecDepth 100000 in
theorem wl_Mo_digest_L236 {p : Program} {l : Launch} {e : Env} {s : State} {m : MethodId} {args : Array Value} {below : List Frame} {meth : Method} {c : Code} {Q : State → Prop} {A : Nat → Prop} {D : va_G} {cI cJ cZ cO : ClassId} {q_this q_m q_saved q_w q_savedWords q_isSaved q_text q_far q_queue q_parent q_by q_seen q_path q_row q_more q_stateOf : Nat} {v_textLength : Int32} {v_steps : Int32} {v_missing : Int64} {v_mores : Int32} {v_m : (Nat → Int32)} {v_w : (Nat → Int64)} {v_text : (Nat → Int32)} {v_far : (Nat → Int32)} {v_queue : (Nat → Int32)} {v_parent : (Nat → Int32)} {v_by : (Nat → Int32)} {v_seen : (Nat → Int32)} {v_path : (Nat → Int32)} {x1 : Int32} {x : Int64 × (Nat → Int32) × (Nat → Int32) × (Nat → Int32) × (Nat → Int32) × (Nat → Int32) × (Nat → Int32) × Int32 × Int64} (C0 : Cx p s m args c A D cI cJ cZ cO cX10_digest 3 RX10) (hQ : RtJ p l e rm_Mo_digest s m args below meth c Q A D cX10_digest (ws_Mo_digest cI cJ cZ q_this q_m q_saved q_w q_savedWords q_isSaved q_text q_far q_queue q_parent q_by q_seen q_path q_row q_more q_stateOf v_textLength x.2.2.2.2.2.2.2.1 v_missing v_mores x.2.2.2.2.2.2.2.2 v_m v_w v_text x.2.1 x.2.2.1 x.2.2.2.1 x.2.2.2.2.1 x.2.2.2.2.2.1 x.2.2.2.2.2.2.1) x.1) {K : Int32 → Int64 → Option (Int64 × (Nat → Int32) × (Nat → Int32) × (Nat → Int32) × (Nat → Int32) × (Nat → Int32) × (Nat → Int32) × Int32 × Int64)} (hK : ∀ (x2 : Int32) (v_hash : Int64) (H : Heap) (locs : List Loc) (ls : Array Slot), K x2 v_hash = some x → Wd s A D (ws_Mo_digest cI cJ cZ q_this q_m q_saved q_w q_savedWords q_isSaved q_text q_far q_queue q_parent q_by q_seen q_path q_row q_more q_stateOf v_textLength v_steps v_missing v_mores v_hash v_m v_w v_text v_far v_queue v_parent v_by v_seen v_path) H locs → lv_has ls 3 [(0, .ref q_this), (1, .int x1)] → W p l e rm_Mo_digest s m args below meth c H locs 0 0 Q (F0 m 270 ls [])) : ∀ (n : Nat) (x2 : Int32) (v_hash : Int64) (H : Heap) (locs : List Loc) (ls : Array Slot), itr (fun _ _ => none) (f_Mo_digest_L236 v_m x1 K) n x2 v_hash = some x → Wd s A D (ws_Mo_digest cI cJ cZ q_this q_m q_saved q_w q_savedWords q_isSaved q_text q_far q_queue q_parent q_by q_seen q_path q_row q_more q_stateOf v_textLength v_steps v_missing v_mores v_hash v_m v_w v_text v_far v_queue v_parent v_by v_seen v_path) H locs → lv_has ls 3 [(0, .ref q_this), (1, .int x1), (2, .int x2)] → W p l e rm_Mo_digest s m args below meth c H locs 0 0 Q (F0 m 236 ls []) := by
  intro n
  induction n with
  | zero => intro _ _ _ _ _ h; cases (show none = some _ from h)
  | succ n ih => intro _ _ _ _ _ h w hl; exact w_Mo_digest_L236 C0 hQ hK ih _ _ h w hl
set_option maxRecDepth 100000 in
theorem w_Mo_digest_L223 {p : Program} {l : Launch} {e : Env} {s : State} {m : MethodId} {args : Array Value} {below : List Frame} {meth : Method} {c : Code} {Q : State → Prop} {A : Nat → Prop} {D : va_G} {cI cJ cZ cO : ClassId} {q_this q_m q_saved q_w q_savedWords q_isSaved q_text q_far q_queue q_parent q_by q_seen q_path q_row q_more q_stateOf : Nat} {v_textLength : Int32} {v_steps : Int32} {v_missing : Int64} {v_mores : Int32} {v_m : (Nat → Int32)} {v_w : (Nat → Int64)} {v_text : (Nat → Int32)} {v_far : (Nat → Int32)} {v_queue : (Nat → Int32)} {v_parent : (Nat → Int32)} {v_by : (Nat → Int32)} {v_seen : (Nat → Int32)} {v_path : (Nat → Int32)} {x : Int64 × (Nat → Int32) × (Nat → Int32) × (Nat → Int32) × (Nat → Int32) × (Nat → Int32) × (Nat → Int32) × Int32 × Int64} (C0 : Cx p s m args c A D cI cJ cZ cO cX10_digest 3 RX10) (hQ : RtJ p l e rm_Mo_digest s m args below meth c Q A D cX10_digest (ws_Mo_digest cI cJ cZ q_this q_m q_saved q_w q_savedWords q_isSaved q_text q_far q_queue q_parent q_by q_seen q_path q_row q_more q_stateOf v_textLength x.2.2.2.2.2.2.2.1 v_missing v_mores x.2.2.2.2.2.2.2.2 v_m v_w v_text x.2.1 x.2.2.1 x.2.2.2.1 x.2.2.2.2.1 x.2.2.2.2.2.1 x.2.2.2.2.2.2.1) x.1) {K : Int32 → Int64 → Option (Int64 × (Nat → Int32) × (Nat → Int32) × (Nat → Int32) × (Nat → Int32) × (Nat → Int32) × (Nat → Int32) × Int32 × Int64)} (hK : ∀ (x1 : Int32) (v_hash : Int64) (H : Heap) (locs : List Loc) (ls : Array Slot), K x1 v_hash = some x → Wd s A D (ws_Mo_digest cI cJ cZ q_this q_m q_saved q_w q_savedWords q_isSaved q_text q_far q_queue q_parent q_by q_seen q_path q_row q_more q_stateOf v_textLength v_steps v_missing v_mores v_hash v_m v_w v_text v_far v_queue v_parent v_by v_seen v_path) H locs → lv_has ls 3 [(0, .ref q_this)] → W p l e rm_Mo_digest s m args below meth c H locs 0 0 Q (F0 m 290 ls [])) {rec : Int32 → Int64 → Option (Int64 × (Nat → Int32) × (Nat → Int32) × (Nat → Int32) × (Nat → Int32) × (Nat → Int32) × (Nat → Int32) × Int32 × Int64)} (hrec : ∀ (x1 : Int32) (v_hash : Int64) (H : Heap) (locs : List Loc) (ls : Array Slot), rec x1 v_hash = some x → Wd s A D (ws_Mo_digest cI cJ cZ q_this q_m q_saved q_w q_savedWords q_isSaved q_text q_far q_queue q_parent q_by q_seen q_path q_row q_more q_stateOf v_textLength v_steps v_missing v_mores v_hash v_m v_w v_text v_far v_queue v_parent v_by v_seen v_path) H locs → lv_has ls 3 [(0, .ref q_this), (1, .int x1)] → W p l e rm_Mo_digest s m args below meth c H locs 0 0 Q (F0 m 223 ls [])) (x1 : Int32) (v_hash : Int64) {H : Heap} {locs : List Loc} {ls : Array Slot} (h : f_Mo_digest_L223 v_m K rec x1 v_hash = some x) (w : Wd s A D (ws_Mo_digest cI cJ cZ q_this q_m q_saved q_w q_savedWords q_isSaved q_text q_far q_queue q_parent q_by q_seen q_path q_row q_more q_stateOf v_textLength v_steps v_missing v_mores v_hash v_m v_w v_text v_far v_queue v_parent v_by v_seen v_path) H locs) (hl : lv_has ls 3 [(0, .ref q_this), (1, .int x1)]) : W p l e rm_Mo_digest s m args below meth c H locs 0 0 Q (F0 m 223 ls []) := by
  obtain ⟨hx, hb, hml, hown, hts, -, -⟩ := id C0
  unfold f_Mo_digest_L223 at h
  refine lv_iload_n hx hb dX10_digest_223 rfl (lv_at hl 1 rfl) ?_
  refine lv_aload_n hx hb dX10_digest_224 rfl (lv_at hl 0 rfl) ?_
  refine r_get C0 w 0 rfl kf_Mo 0 (by decide) lf_RX10_7 rfl dX10_digest_225 ?_
  refine lv_bipush (v := (40 : Int32)) hx hb dX10_digest_228 (by decide) ?_
  refine r_iald C0 w 1 rfl (k := 40) (by decide) (inl (by decide)) dX10_digest_230 ?_
  refine lv_icmp_ge (tgt := 290) hx hb dX10_digest_231 (by decide) (fun hc => ?_) (fun hc => ?_)
  · have h := if_h hc h
    exact hK _ _ _ _ _ h w (lv_sub hl [0] rfl)
  · have h := nf_h hc h
    refine lv_iconst (v := (0 : Int32)) hx hb dX10_digest_234 (by decide) ?_
    refine lv_istore_n (lv' := [(2, .int (0 : Int32)), (0, .ref q_this), (1, .int x1)]) hx hb dX10_digest_235 rfl hl (by decide) rfl (fun ls hl => ?_)
    refine wl_Mo_digest_L236 C0 hQ (fun x2 v_hash_1 H locs ls h w hl => ?_) _ _ _ _ _ _ h w (lv_sub hl [1, 2, 0] rfl)
    refine lv_aload_n hx hb dX10_digest_270 rfl (lv_at hl 0 rfl) ?_
    refine lv_aload_n hx hb dX10_digest_271 rfl (lv_at hl 0 rfl) ?_
    refine r_get C0 w 0 rfl kf_Mo 0 (by decide) lf_RX10_7 rfl dX10_digest_272 ?_
    refine lv_sipush (v := (481 : Int32)) hx hb dX10_digest_275 (by decide) ?_
    refine lv_iload_n hx hb dX10_digest_278 rfl (lv_at hl 1 rfl) ?_
    refine lv_iadd hx hb dX10_digest_279 ?_
    obtain ⟨hi, h⟩ := gIn_h h
    refine r_iald C0 w 1 rfl rfl hi dX10_digest_280 ?_
    obtain ⟨v_hash_2, hcall, h⟩ := bd1_h h
    have hp := sp_of (ws := (ws_Mo_digest cI cJ cZ q_this q_m q_saved q_w q_savedWords q_isSaved q_text q_far q_queue q_parent q_by q_seen q_path q_row q_more q_stateOf v_textLength v_steps v_missing v_mores v_hash_1 v_m v_w v_text v_far v_queue v_parent v_by v_seen v_path)) (wc := (ws_Mo_mixes cI cJ cZ q_this q_m q_saved q_w q_savedWords q_isSaved q_text q_far q_queue q_parent q_by q_seen q_path q_row q_more q_stateOf v_textLength v_steps v_missing v_mores v_hash_1)) [0] [1, 2, 3, 4, 5, 6, 7, 8, 9] rfl rfl
    have hp' : Rp (pk (ws_Mo_digest cI cJ cZ q_this q_m q_saved q_w q_savedWords q_isSaved q_text q_far q_queue q_parent q_by q_seen q_path q_row q_more q_stateOf v_textLength v_steps v_missing v_mores v_hash_1 v_m v_w v_text v_far v_queue v_parent v_by v_seen v_path) [1, 2, 3, 4, 5, 6, 7, 8, 9] ++ (ws_Mo_mixes cI cJ cZ q_this q_m q_saved q_w q_savedWords q_isSaved q_text q_far q_queue q_parent q_by q_seen q_path q_row q_more q_stateOf v_textLength v_steps v_missing v_mores v_hash_2)) (ws_Mo_digest cI cJ cZ q_this q_m q_saved q_w q_savedWords q_isSaved q_text q_far q_queue q_parent q_by q_seen q_path q_row q_more q_stateOf v_textLength v_steps v_missing v_mores v_hash_2 v_m v_w v_text v_far v_queue v_parent v_by v_seen v_path) := ⟨[9, 0, 1, 2, 3, 4, 5, 6, 7, 8], rfl, rfl⟩
    refine r_VV (As := [.int (v_m ((481 : Int32) + x1).toNatClampNeg)]) (rest := []) (wc' := (ws_Mo_mixes cI cJ cZ q_this q_m q_saved q_w q_savedWords q_isSaved q_text q_far q_queue q_parent q_by q_seen q_path q_row q_more q_stateOf v_textLength v_steps v_missing v_mores v_hash_2)) (ws' := (ws_Mo_digest cI cJ cZ q_this q_m q_saved q_w q_savedWords q_isSaved q_text q_far q_queue q_parent q_by q_seen q_path q_row q_more q_stateOf v_textLength v_steps v_missing v_mores v_hash_2 v_m v_w v_text v_far v_queue v_parent v_by v_seen v_path)) C0 w (c_Mo_mixes hcall) hp hp' lm_RX10_213 mv_Mo_mixes ⟨rfl, rfl⟩ ⟨by decide, by decide⟩ ⟨Nat.zero_le _, Nat.zero_le _⟩ (q0 := 0) rfl rfl rfl rfl hl rfl (Nat.le_of_ble_eq_true rfl) dX10_digest_281 (fun H locs w => ?_)
    obtain ⟨x1_1, ex1_1⟩ : ∃ y : Int32, y = (x1 + 1) := ⟨_, rfl⟩
    have h := bnd_at ex1_1 h
    refine lv_iinc (v := x1_1) (lv' := [(1, .int x1_1), (0, .ref q_this)]) hx hb dX10_digest_284 hl (k := 1) rfl (by rw [ex1_1]; rfl) (by decide) rfl (fun ls hl => ?_)
    refine lv_goto (tgt := 223) hx hb dX10_digest_287 (by decide) ?_
    exact hrec _ _ _ _ _ h w (lv_sub hl [1, 0] rfl)
set_option maxRecDepth 100000 in
theorem wl_Mo_digest_L223 {p : Program} {l : Launch} {e : Env} {s : State} {m : MethodId} {args : Array Value} {below : List Frame} {meth : Method} {c : Code} {Q : State → Prop} {A : Nat → Prop} {D : va_G} {cI cJ cZ cO : ClassId} {q_this q_m q_saved q_w q_savedWords q_isSaved q_text q_far q_queue q_parent q_by q_seen q_path q_row q_more q_stateOf : Nat} {v_textLength : Int32} {v_steps : Int32} {v_missing : Int64} {v_mores : Int32} {v_m : (Nat → Int32)} {v_w : (Nat → Int64)} {v_text : (Nat → Int32)} {v_far : (Nat → Int32)} {v_queue : (Nat → Int32)} {v_parent : (Nat → Int32)} {v_by : (Nat → Int32)} {v_seen : (Nat → Int32)} {v_path : (Nat → Int32)} {x : Int64 × (Nat → Int32) × (Nat → Int32) × (Nat → Int32) × (Nat → Int32) × (Nat → Int32) × (Nat → Int32) × Int32 × Int64} (C0 : Cx p s m args c A D cI cJ cZ cO cX10_digest 3 RX10) (hQ : RtJ p l e rm_Mo_digest s m args below meth c Q A D cX10_digest (ws_Mo_digest cI cJ cZ q_this q_m q_saved q_w q_savedWords q_isSaved q_text q_far q_queue q_parent q_by q_seen q_path q_row q_more q_stateOf v_textLength x.2.2.2.2.2.2.2.1 v_missing v_mores x.2.2.2.2.2.2.2.2 v_m v_w v_text x.2.1 x.2.2.1 x.2.2.2.1 x.2.2.2.2.1 x.2.2.2.2.2.1 x.2.2.2.2.2.2.1) x.1) {K : Int32 → Int64 → Option (Int64 × (Nat → Int32) × (Nat → Int32) × (Nat → Int32) × (Nat → Int32) × (Nat → Int32) × (Nat → Int32) × Int32 × Int64)} (hK : ∀ (x1 : Int32) (v_hash : Int64) (H : Heap) (locs : List Loc) (ls : Array Slot), K x1 v_hash = some x → Wd s A D (ws_Mo_digest cI cJ cZ q_this q_m q_saved q_w q_savedWords q_isSaved q_text q_far q_queue q_parent q_by q_seen q_path q_row q_more q_stateOf v_textLength v_steps v_missing v_mores v_hash v_m v_w v_text v_far v_queue v_parent v_by v_seen v_path) H locs → lv_has ls 3 [(0, .ref q_this)] → W p l e rm_Mo_digest s m args below meth c H locs 0 0 Q (F0 m 290 ls [])) : ∀ (n : Nat) (x1 : Int32) (v_hash : Int64) (H : Heap) (locs : List Loc) (ls : Array Slot), itr (fun _ _ => none) (f_Mo_digest_L223 v_m K) n x1 v_hash = some x → Wd s A D (ws_Mo_digest cI cJ cZ q_this q_m q_saved q_w q_savedWords q_isSaved q_text q_far q_queue q_parent q_by q_seen q_path q_row q_more q_stateOf v_textLength v_steps v_missing v_mores v_hash v_m v_w v_text v_far v_queue v_parent v_by v_seen v_path) H locs → lv_has ls 3 [(0, .ref q_this), (1, .int x1)] → W p l e rm_Mo_digest s m args below meth c H locs 0 0 Q (F0 m 223 ls []) := by
  intro n
  induction n with
  | zero => intro _ _ _ _ _ h; cases (show none = some _ from h)
  | succ n ih => intro _ _ _ _ _ h w hl; exact w_Mo_digest_L223 C0 hQ hK ih _ _ h w hl
set_option maxRecDepth 100000 in
theorem w_Mo_digest_L292 {p : Program} {l : Launch} {e : Env} {s : State} {m : MethodId} {args : Array Value} {below : List Frame} {meth : Method} {c : Code} {Q : State → Prop} {A : Nat → Prop} {D : va_G} {cI cJ cZ cO : ClassId} {q_this q_m q_saved q_w q_savedWords q_isSaved q_text q_far q_queue q_parent q_by q_seen q_path q_row q_more q_stateOf : Nat} {v_textLength : Int32} {v_steps : Int32} {v_missing : Int64} {v_mores : Int32} {v_m : (Nat → Int32)} {v_w : (Nat → Int64)} {v_text : (Nat → Int32)} {v_far : (Nat → Int32)} {v_queue : (Nat → Int32)} {v_parent : (Nat → Int32)} {v_by : (Nat → Int32)} {v_seen : (Nat → Int32)} {v_path : (Nat → Int32)} {x : Int64 × (Nat → Int32) × (Nat → Int32) × (Nat → Int32) × (Nat → Int32) × (Nat → Int32) × (Nat → Int32) × Int32 × Int64} (C0 : Cx p s m args c A D cI cJ cZ cO cX10_digest 3 RX10) (hQ : RtJ p l e rm_Mo_digest s m args below meth c Q A D cX10_digest (ws_Mo_digest cI cJ cZ q_this q_m q_saved q_w q_savedWords q_isSaved q_text q_far q_queue q_parent q_by q_seen q_path q_row q_more q_stateOf v_textLength x.2.2.2.2.2.2.2.1 v_missing v_mores x.2.2.2.2.2.2.2.2 v_m v_w v_text x.2.1 x.2.2.1 x.2.2.2.1 x.2.2.2.2.1 x.2.2.2.2.2.1 x.2.2.2.2.2.2.1) x.1) {K : Int32 → Int64 → Option (Int64 × (Nat → Int32) × (Nat → Int32) × (Nat → Int32) × (Nat → Int32) × (Nat → Int32) × (Nat → Int32) × Int32 × Int64)} (hK : ∀ (x1 : Int32) (v_hash : Int64) (H : Heap) (locs : List Loc) (ls : Array Slot), K x1 v_hash = some x → Wd s A D (ws_Mo_digest cI cJ cZ q_this q_m q_saved q_w q_savedWords q_isSaved q_text q_far q_queue q_parent q_by q_seen q_path q_row q_more q_stateOf v_textLength v_steps v_missing v_mores v_hash v_m v_w v_text v_far v_queue v_parent v_by v_seen v_path) H locs → lv_has ls 3 [(0, .ref q_this)] → W p l e rm_Mo_digest s m args below meth c H locs 0 0 Q (F0 m 323 ls [])) {rec : Int32 → Int64 → Option (Int64 × (Nat → Int32) × (Nat → Int32) × (Nat → Int32) × (Nat → Int32) × (Nat → Int32) × (Nat → Int32) × Int32 × Int64)} (hrec : ∀ (x1 : Int32) (v_hash : Int64) (H : Heap) (locs : List Loc) (ls : Array Slot), rec x1 v_hash = some x → Wd s A D (ws_Mo_digest cI cJ cZ q_this q_m q_saved q_w q_savedWords q_isSaved q_text q_far q_queue q_parent q_by q_seen q_path q_row q_more q_stateOf v_textLength v_steps v_missing v_mores v_hash v_m v_w v_text v_far v_queue v_parent v_by v_seen v_path) H locs → lv_has ls 3 [(0, .ref q_this), (1, .int x1)] → W p l e rm_Mo_digest s m args below meth c H locs 0 0 Q (F0 m 292 ls [])) (x1 : Int32) (v_hash : Int64) {H : Heap} {locs : List Loc} {ls : Array Slot} (h : f_Mo_digest_L292 v_m K rec x1 v_hash = some x) (w : Wd s A D (ws_Mo_digest cI cJ cZ q_this q_m q_saved q_w q_savedWords q_isSaved q_text q_far q_queue q_parent q_by q_seen q_path q_row q_more q_stateOf v_textLength v_steps v_missing v_mores v_hash v_m v_w v_text v_far v_queue v_parent v_by v_seen v_path) H locs) (hl : lv_has ls 3 [(0, .ref q_this), (1, .int x1)]) : W p l e rm_Mo_digest s m args below meth c H locs 0 0 Q (F0 m 292 ls []) := by
  obtain ⟨hx, hb, hml, hown, hts, -, -⟩ := id C0
  unfold f_Mo_digest_L292 at h
  refine lv_iload_n hx hb dX10_digest_292 rfl (lv_at hl 1 rfl) ?_
  refine lv_aload_n hx hb dX10_digest_293 rfl (lv_at hl 0 rfl) ?_
  refine r_get C0 w 0 rfl kf_Mo 0 (by decide) lf_RX10_7 rfl dX10_digest_294 ?_
  refine lv_bipush (v := (44 : Int32)) hx hb dX10_digest_297 (by decide) ?_
  refine r_iald C0 w 1 rfl (k := 44) (by decide) (inl (by decide)) dX10_digest_299 ?_
  refine lv_icmp_ge (tgt := 323) hx hb dX10_digest_300 (by decide) (fun hc => ?_) (fun hc => ?_)
  · have h := if_h hc h
    exact hK _ _ _ _ _ h w (lv_sub hl [0] rfl)
  · have h := nf_h hc h
    refine lv_aload_n hx hb dX10_digest_303 rfl (lv_at hl 0 rfl) ?_
    refine lv_aload_n hx hb dX10_digest_304 rfl (lv_at hl 0 rfl) ?_
    refine r_get C0 w 0 rfl kf_Mo 0 (by decide) lf_RX10_7 rfl dX10_digest_305 ?_
    refine lv_sipush (v := (345 : Int32)) hx hb dX10_digest_308 (by decide) ?_
    refine lv_iload_n hx hb dX10_digest_311 rfl (lv_at hl 1 rfl) ?_
    refine lv_iadd hx hb dX10_digest_312 ?_
    obtain ⟨hi, h⟩ := gIn_h h
    refine r_iald C0 w 1 rfl rfl hi dX10_digest_313 ?_
    obtain ⟨v_hash_1, hcall, h⟩ := bd1_h h
    have hp := sp_of (ws := (ws_Mo_digest cI cJ cZ q_this q_m q_saved q_w q_savedWords q_isSaved q_text q_far q_queue q_parent q_by q_seen q_path q_row q_more q_stateOf v_textLength v_steps v_missing v_mores v_hash v_m v_w v_text v_far v_queue v_parent v_by v_seen v_path)) (wc := (ws_Mo_mixes cI cJ cZ q_this q_m q_saved q_w q_savedWords q_isSaved q_text q_far q_queue q_parent q_by q_seen q_path q_row q_more q_stateOf v_textLength v_steps v_missing v_mores v_hash)) [0] [1, 2, 3, 4, 5, 6, 7, 8, 9] rfl rfl
    have hp' : Rp (pk (ws_Mo_digest cI cJ cZ q_this q_m q_saved q_w q_savedWords q_isSaved q_text q_far q_queue q_parent q_by q_seen q_path q_row q_more q_stateOf v_textLength v_steps v_missing v_mores v_hash v_m v_w v_text v_far v_queue v_parent v_by v_seen v_path) [1, 2, 3, 4, 5, 6, 7, 8, 9] ++ (ws_Mo_mixes cI cJ cZ q_this q_m q_saved q_w q_savedWords q_isSaved q_text q_far q_queue q_parent q_by q_seen q_path q_row q_more q_stateOf v_textLength v_steps v_missing v_mores v_hash_1)) (ws_Mo_digest cI cJ cZ q_this q_m q_saved q_w q_savedWords q_isSaved q_text q_far q_queue q_parent q_by q_seen q_path q_row q_more q_stateOf v_textLength v_steps v_missing v_mores v_hash_1 v_m v_w v_text v_far v_queue v_parent v_by v_seen v_path) := ⟨[9, 0, 1, 2, 3, 4, 5, 6, 7, 8], rfl, rfl⟩
    refine r_VV (As := [.int (v_m ((345 : Int32) + x1).toNatClampNeg)]) (rest := []) (wc' := (ws_Mo_mixes cI cJ cZ q_this q_m q_saved q_w q_savedWords q_isSaved q_text q_far q_queue q_parent q_by q_seen q_path q_row q_more q_stateOf v_textLength v_steps v_missing v_mores v_hash_1)) (ws' := (ws_Mo_digest cI cJ cZ q_this q_m q_saved q_w q_savedWords q_isSaved q_text q_far q_queue q_parent q_by q_seen q_path q_row q_more q_stateOf v_textLength v_steps v_missing v_mores v_hash_1 v_m v_w v_text v_far v_queue v_parent v_by v_seen v_path)) C0 w (c_Mo_mixes hcall) hp hp' lm_RX10_213 mv_Mo_mixes ⟨rfl, rfl⟩ ⟨by decide, by decide⟩ ⟨Nat.zero_le _, Nat.zero_le _⟩ (q0 := 0) rfl rfl rfl rfl hl rfl (Nat.le_of_ble_eq_true rfl) dX10_digest_314 (fun H locs w => ?_)
    obtain ⟨x1_1, ex1_1⟩ : ∃ y : Int32, y = (x1 + 1) := ⟨_, rfl⟩
    have h := bnd_at ex1_1 h
    refine lv_iinc (v := x1_1) (lv' := [(1, .int x1_1), (0, .ref q_this)]) hx hb dX10_digest_317 hl (k := 1) rfl (by rw [ex1_1]; rfl) (by decide) rfl (fun ls hl => ?_)
    refine lv_goto (tgt := 292) hx hb dX10_digest_320 (by decide) ?_
    exact hrec _ _ _ _ _ h w (lv_sub hl [1, 0] rfl)
set_option maxRecDepth 100000 in
theorem wl_Mo_digest_L292 {p : Program} {l : Launch} {e : Env} {s : State} {m : MethodId} {args : Array Value} {below : List Frame} {meth : Method} {c : Code} {Q : State → Prop} {A : Nat → Prop} {D : va_G} {cI cJ cZ cO : ClassId} {q_this q_m q_saved q_w q_savedWords q_isSaved q_text q_far q_queue q_parent q_by q_seen q_path q_row q_more q_stateOf : Nat} {v_textLength : Int32} {v_steps : Int32} {v_missing : Int64} {v_mores : Int32} {v_m : (Nat → Int32)} {v_w : (Nat → Int64)} {v_text : (Nat → Int32)} {v_far : (Nat → Int32)} {v_queue : (Nat → Int32)} {v_parent : (Nat → Int32)} {v_by : (Nat → Int32)} {v_seen : (Nat → Int32)} {v_path : (Nat → Int32)} {x : Int64 × (Nat → Int32) × (Nat → Int32) × (Nat → Int32) × (Nat → Int32) × (Nat → Int32) × (Nat → Int32) × Int32 × Int64} (C0 : Cx p s m args c A D cI cJ cZ cO cX10_digest 3 RX10) (hQ : RtJ p l e rm_Mo_digest s m args below meth c Q A D cX10_digest (ws_Mo_digest cI cJ cZ q_this q_m q_saved q_w q_savedWords q_isSaved q_text q_far q_queue q_parent q_by q_seen q_path q_row q_more q_stateOf v_textLength x.2.2.2.2.2.2.2.1 v_missing v_mores x.2.2.2.2.2.2.2.2 v_m v_w v_text x.2.1 x.2.2.1 x.2.2.2.1 x.2.2.2.2.1 x.2.2.2.2.2.1 x.2.2.2.2.2.2.1) x.1) {K : Int32 → Int64 → Option (Int64 × (Nat → Int32) × (Nat → Int32) × (Nat → Int32) × (Nat → Int32) × (Nat → Int32) × (Nat → Int32) × Int32 × Int64)} (hK : ∀ (x1 : Int32) (v_hash : Int64) (H : Heap) (locs : List Loc) (ls : Array Slot), K x1 v_hash = some x → Wd s A D (ws_Mo_digest cI cJ cZ q_this q_m q_saved q_w q_savedWords q_isSaved q_text q_far q_queue q_parent q_by q_seen q_path q_row q_more q_stateOf v_textLength v_steps v_missing v_mores v_hash v_m v_w v_text v_far v_queue v_parent v_by v_seen v_path) H locs → lv_has ls 3 [(0, .ref q_this)] → W p l e rm_Mo_digest s m args below meth c H locs 0 0 Q (F0 m 323 ls [])) : ∀ (n : Nat) (x1 : Int32) (v_hash : Int64) (H : Heap) (locs : List Loc) (ls : Array Slot), itr (fun _ _ => none) (f_Mo_digest_L292 v_m K) n x1 v_hash = some x → Wd s A D (ws_Mo_digest cI cJ cZ q_this q_m q_saved q_w q_savedWords q_isSaved q_text q_far q_queue q_parent q_by q_seen q_path q_row q_more q_stateOf v_textLength v_steps v_missing v_mores v_hash v_m v_w v_text v_far v_queue v_parent v_by v_seen v_path) H locs → lv_has ls 3 [(0, .ref q_this), (1, .int x1)] → W p l e rm_Mo_digest s m args below meth c H locs 0 0 Q (F0 m 292 ls []) := by
  intro n
  induction n with
  | zero => intro _ _ _ _ _ h; cases (show none = some _ from h)
  | succ n ih => intro _ _ _ _ _ h w hl; exact w_Mo_digest_L292 C0 hQ hK ih _ _ h w hl
set_option maxRecDepth 100000 in
theorem w_Mo_digest_L325 {p : Program} {l : Launch} {e : Env} {s : State} {m : MethodId} {args : Array Value} {below : List Frame} {meth : Method} {c : Code} {Q : State → Prop} {A : Nat → Prop} {D : va_G} {cI cJ cZ cO : ClassId} {q_this q_m q_saved q_w q_savedWords q_isSaved q_text q_far q_queue q_parent q_by q_seen q_path q_row q_more q_stateOf : Nat} {v_textLength : Int32} {v_steps : Int32} {v_missing : Int64} {v_mores : Int32} {v_m : (Nat → Int32)} {v_w : (Nat → Int64)} {v_text : (Nat → Int32)} {v_far : (Nat → Int32)} {v_queue : (Nat → Int32)} {v_parent : (Nat → Int32)} {v_by : (Nat → Int32)} {v_seen : (Nat → Int32)} {v_path : (Nat → Int32)} {x : Int64 × (Nat → Int32) × (Nat → Int32) × (Nat → Int32) × (Nat → Int32) × (Nat → Int32) × (Nat → Int32) × Int32 × Int64} (C0 : Cx p s m args c A D cI cJ cZ cO cX10_digest 3 RX10) (hQ : RtJ p l e rm_Mo_digest s m args below meth c Q A D cX10_digest (ws_Mo_digest cI cJ cZ q_this q_m q_saved q_w q_savedWords q_isSaved q_text q_far q_queue q_parent q_by q_seen q_path q_row q_more q_stateOf v_textLength x.2.2.2.2.2.2.2.1 v_missing v_mores x.2.2.2.2.2.2.2.2 v_m v_w v_text x.2.1 x.2.2.1 x.2.2.2.1 x.2.2.2.2.1 x.2.2.2.2.2.1 x.2.2.2.2.2.2.1) x.1) {K : Int32 → Int64 → Option (Int64 × (Nat → Int32) × (Nat → Int32) × (Nat → Int32) × (Nat → Int32) × (Nat → Int32) × (Nat → Int32) × Int32 × Int64)} (hK : ∀ (x1 : Int32) (v_hash : Int64) (H : Heap) (locs : List Loc) (ls : Array Slot), K x1 v_hash = some x → Wd s A D (ws_Mo_digest cI cJ cZ q_this q_m q_saved q_w q_savedWords q_isSaved q_text q_far q_queue q_parent q_by q_seen q_path q_row q_more q_stateOf v_textLength v_steps v_missing v_mores v_hash v_m v_w v_text v_far v_queue v_parent v_by v_seen v_path) H locs → lv_has ls 3 [(0, .ref q_this)] → W p l e rm_Mo_digest s m args below meth c H locs 0 0 Q (F0 m 349 ls [])) {rec : Int32 → Int64 → Option (Int64 × (Nat → Int32) × (Nat → Int32) × (Nat → Int32) × (Nat → Int32) × (Nat → Int32) × (Nat → Int32) × Int32 × Int64)} (hrec : ∀ (x1 : Int32) (v_hash : Int64) (H : Heap) (locs : List Loc) (ls : Array Slot), rec x1 v_hash = some x → Wd s A D (ws_Mo_digest cI cJ cZ q_this q_m q_saved q_w q_savedWords q_isSaved q_text q_far q_queue q_parent q_by q_seen q_path q_row q_more q_stateOf v_textLength v_steps v_missing v_mores v_hash v_m v_w v_text v_far v_queue v_parent v_by v_seen v_path) H locs → lv_has ls 3 [(0, .ref q_this), (1, .int x1)] → W p l e rm_Mo_digest s m args below meth c H locs 0 0 Q (F0 m 325 ls [])) (x1 : Int32) (v_hash : Int64) {H : Heap} {locs : List Loc} {ls : Array Slot} (h : f_Mo_digest_L325 v_textLength v_text K rec x1 v_hash = some x) (w : Wd s A D (ws_Mo_digest cI cJ cZ q_this q_m q_saved q_w q_savedWords q_isSaved q_text q_far q_queue q_parent q_by q_seen q_path q_row q_more q_stateOf v_textLength v_steps v_missing v_mores v_hash v_m v_w v_text v_far v_queue v_parent v_by v_seen v_path) H locs) (hl : lv_has ls 3 [(0, .ref q_this), (1, .int x1)]) : W p l e rm_Mo_digest s m args below meth c H locs 0 0 Q (F0 m 325 ls []) := by
  obtain ⟨hx, hb, hml, hown, hts, -, -⟩ := id C0
  unfold f_Mo_digest_L325 at h
  refine lv_iload_n hx hb dX10_digest_325 rfl (lv_at hl 1 rfl) ?_
  refine lv_aload_n hx hb dX10_digest_326 rfl (lv_at hl 0 rfl) ?_
  refine r_get C0 w 0 rfl kf_Mo 6 (by decide) lf_RX10_72 rfl dX10_digest_327 ?_
  refine lv_icmp_ge (tgt := 349) hx hb dX10_digest_330 (by decide) (fun hc => ?_) (fun hc => ?_)
  · have h := if_h hc h
    exact hK _ _ _ _ _ h w (lv_sub hl [0] rfl)
  · have h := nf_h hc h
    refine lv_aload_n hx hb dX10_digest_333 rfl (lv_at hl 0 rfl) ?_
    refine lv_aload_n hx hb dX10_digest_334 rfl (lv_at hl 0 rfl) ?_
    refine r_get C0 w 0 rfl kf_Mo 5 (by decide) lf_RX10_27 rfl dX10_digest_335 ?_
    refine lv_iload_n hx hb dX10_digest_338 rfl (lv_at hl 1 rfl) ?_
    obtain ⟨hi, h⟩ := gIn_h h
    refine r_iald C0 w 3 rfl rfl hi dX10_digest_339 ?_
    obtain ⟨v_hash_1, hcall, h⟩ := bd1_h h
    have hp := sp_of (ws := (ws_Mo_digest cI cJ cZ q_this q_m q_saved q_w q_savedWords q_isSaved q_text q_far q_queue q_parent q_by q_seen q_path q_row q_more q_stateOf v_textLength v_steps v_missing v_mores v_hash v_m v_w v_text v_far v_queue v_parent v_by v_seen v_path)) (wc := (ws_Mo_mixes cI cJ cZ q_this q_m q_saved q_w q_savedWords q_isSaved q_text q_far q_queue q_parent q_by q_seen q_path q_row q_more q_stateOf v_textLength v_steps v_missing v_mores v_hash)) [0] [1, 2, 3, 4, 5, 6, 7, 8, 9] rfl rfl
    have hp' : Rp (pk (ws_Mo_digest cI cJ cZ q_this q_m q_saved q_w q_savedWords q_isSaved q_text q_far q_queue q_parent q_by q_seen q_path q_row q_more q_stateOf v_textLength v_steps v_missing v_mores v_hash v_m v_w v_text v_far v_queue v_parent v_by v_seen v_path) [1, 2, 3, 4, 5, 6, 7, 8, 9] ++ (ws_Mo_mixes cI cJ cZ q_this q_m q_saved q_w q_savedWords q_isSaved q_text q_far q_queue q_parent q_by q_seen q_path q_row q_more q_stateOf v_textLength v_steps v_missing v_mores v_hash_1)) (ws_Mo_digest cI cJ cZ q_this q_m q_saved q_w q_savedWords q_isSaved q_text q_far q_queue q_parent q_by q_seen q_path q_row q_more q_stateOf v_textLength v_steps v_missing v_mores v_hash_1 v_m v_w v_text v_far v_queue v_parent v_by v_seen v_path) := ⟨[9, 0, 1, 2, 3, 4, 5, 6, 7, 8], rfl, rfl⟩
    refine r_VV (As := [.int (v_text x1.toNatClampNeg)]) (rest := []) (wc' := (ws_Mo_mixes cI cJ cZ q_this q_m q_saved q_w q_savedWords q_isSaved q_text q_far q_queue q_parent q_by q_seen q_path q_row q_more q_stateOf v_textLength v_steps v_missing v_mores v_hash_1)) (ws' := (ws_Mo_digest cI cJ cZ q_this q_m q_saved q_w q_savedWords q_isSaved q_text q_far q_queue q_parent q_by q_seen q_path q_row q_more q_stateOf v_textLength v_steps v_missing v_mores v_hash_1 v_m v_w v_text v_far v_queue v_parent v_by v_seen v_path)) C0 w (c_Mo_mixes hcall) hp hp' lm_RX10_213 mv_Mo_mixes ⟨rfl, rfl⟩ ⟨by decide, by decide⟩ ⟨Nat.zero_le _, Nat.zero_le _⟩ (q0 := 0) rfl rfl rfl rfl hl rfl (Nat.le_of_ble_eq_true rfl) dX10_digest_340 (fun H locs w => ?_)
    obtain ⟨x1_1, ex1_1⟩ : ∃ y : Int32, y = (x1 + 1) := ⟨_, rfl⟩
    have h := bnd_at ex1_1 h
    refine lv_iinc (v := x1_1) (lv' := [(1, .int x1_1), (0, .ref q_this)]) hx hb dX10_digest_343 hl (k := 1) rfl (by rw [ex1_1]; rfl) (by decide) rfl (fun ls hl => ?_)
    refine lv_goto (tgt := 325) hx hb dX10_digest_346 (by decide) ?_
    exact hrec _ _ _ _ _ h w (lv_sub hl [1, 0] rfl)
set_option maxRecDepth 100000 in
theorem wl_Mo_digest_L325 {p : Program} {l : Launch} {e : Env} {s : State} {m : MethodId} {args : Array Value} {below : List Frame} {meth : Method} {c : Code} {Q : State → Prop} {A : Nat → Prop} {D : va_G} {cI cJ cZ cO : ClassId} {q_this q_m q_saved q_w q_savedWords q_isSaved q_text q_far q_queue q_parent q_by q_seen q_path q_row q_more q_stateOf : Nat} {v_textLength : Int32} {v_steps : Int32} {v_missing : Int64} {v_mores : Int32} {v_m : (Nat → Int32)} {v_w : (Nat → Int64)} {v_text : (Nat → Int32)} {v_far : (Nat → Int32)} {v_queue : (Nat → Int32)} {v_parent : (Nat → Int32)} {v_by : (Nat → Int32)} {v_seen : (Nat → Int32)} {v_path : (Nat → Int32)} {x : Int64 × (Nat → Int32) × (Nat → Int32) × (Nat → Int32) × (Nat → Int32) × (Nat → Int32) × (Nat → Int32) × Int32 × Int64} (C0 : Cx p s m args c A D cI cJ cZ cO cX10_digest 3 RX10) (hQ : RtJ p l e rm_Mo_digest s m args below meth c Q A D cX10_digest (ws_Mo_digest cI cJ cZ q_this q_m q_saved q_w q_savedWords q_isSaved q_text q_far q_queue q_parent q_by q_seen q_path q_row q_more q_stateOf v_textLength x.2.2.2.2.2.2.2.1 v_missing v_mores x.2.2.2.2.2.2.2.2 v_m v_w v_text x.2.1 x.2.2.1 x.2.2.2.1 x.2.2.2.2.1 x.2.2.2.2.2.1 x.2.2.2.2.2.2.1) x.1) {K : Int32 → Int64 → Option (Int64 × (Nat → Int32) × (Nat → Int32) × (Nat → Int32) × (Nat → Int32) × (Nat → Int32) × (Nat → Int32) × Int32 × Int64)} (hK : ∀ (x1 : Int32) (v_hash : Int64) (H : Heap) (locs : List Loc) (ls : Array Slot), K x1 v_hash = some x → Wd s A D (ws_Mo_digest cI cJ cZ q_this q_m q_saved q_w q_savedWords q_isSaved q_text q_far q_queue q_parent q_by q_seen q_path q_row q_more q_stateOf v_textLength v_steps v_missing v_mores v_hash v_m v_w v_text v_far v_queue v_parent v_by v_seen v_path) H locs → lv_has ls 3 [(0, .ref q_this)] → W p l e rm_Mo_digest s m args below meth c H locs 0 0 Q (F0 m 349 ls [])) : ∀ (n : Nat) (x1 : Int32) (v_hash : Int64) (H : Heap) (locs : List Loc) (ls : Array Slot), itr (fun _ _ => none) (f_Mo_digest_L325 v_textLength v_text K) n x1 v_hash = some x → Wd s A D (ws_Mo_digest cI cJ cZ q_this q_m q_saved q_w q_savedWords q_isSaved q_text q_far q_queue q_parent q_by q_seen q_path q_row q_more q_stateOf v_textLength v_steps v_missing v_mores v_hash v_m v_w v_text v_far v_queue v_parent v_by v_seen v_path) H locs → lv_has ls 3 [(0, .ref q_this), (1, .int x1)] → W p l e rm_Mo_digest s m args below meth c H locs 0 0 Q (F0 m 325 ls []) := by
  intro n
  induction n with
  | zero => intro _ _ _ _ _ h; cases (show none = some _ from h)
  | succ n ih => intro _ _ _ _ _ h w hl; exact w_Mo_digest_L325 C0 hQ hK ih _ _ h w hl
set_option maxRecDepth 100000 in
theorem c_Mo_digest {l : Launch} {D : va_G} {cI cJ cZ cO : ClassId} {q_this q_m q_saved q_w q_savedWords q_isSaved q_text q_far q_queue q_parent q_by q_seen q_path q_row q_more q_stateOf : Nat} {v_textLength : Int32} {v_steps : Int32} {v_missing : Int64} {v_mores : Int32} {v_hash : Int64} {v_m : (Nat → Int32)} {v_w : (Nat → Int64)} {v_text : (Nat → Int32)} {v_far : (Nat → Int32)} {v_queue : (Nat → Int32)} {v_parent : (Nat → Int32)} {v_by : (Nat → Int32)} {v_seen : (Nat → Int32)} {v_path : (Nat → Int32)} {x : Int64 × (Nat → Int32) × (Nat → Int32) × (Nat → Int32) × (Nat → Int32) × (Nat → Int32) × (Nat → Int32) × Int32 × Int64} (h : f_Mo_digest v_textLength v_steps v_m v_w v_text v_far v_queue v_parent v_by v_seen v_path = some x) : ctJ l D cI cJ cZ cO yX10_digest cX10_digest 3 rm_Mo_digest [.ref q_this] (ws_Mo_digest cI cJ cZ q_this q_m q_saved q_w q_savedWords q_isSaved q_text q_far q_queue q_parent q_by q_seen q_path q_row q_more q_stateOf v_textLength v_steps v_missing v_mores v_hash v_m v_w v_text v_far v_queue v_parent v_by v_seen v_path) (ws_Mo_digest cI cJ cZ q_this q_m q_saved q_w q_savedWords q_isSaved q_text q_far q_queue q_parent q_by q_seen q_path q_row q_more q_stateOf v_textLength x.2.2.2.2.2.2.2.1 v_missing v_mores x.2.2.2.2.2.2.2.2 v_m v_w v_text x.2.1 x.2.2.1 x.2.2.2.1 x.2.2.2.2.1 x.2.2.2.2.2.1 x.2.2.2.2.2.2.1) x.1 := by
  refine ctJ_of (by decide) (Nat.le_of_ble_eq_true rfl) ?_
  intro p e s m below meth c Q A ls C0 hQ w hl
  have hl : lv_has ls 3 [(0, .ref q_this)] := hl
  generalize List.toArray (α := Value) [.ref q_this] = args at C0 hQ ⊢
  obtain ⟨hx, hb, hml, hown, hts, -, -⟩ := id C0
  unfold f_Mo_digest at h
  refine lv_aload_n hx hb dX10_digest_0 rfl (lv_at hl 0 rfl) ?_
  refine lv_ldc2 (v := (59 : Int64)) hx hb hown (hts _ ll_RX10_221) dX10_digest_1 ?_
  refine r_put C0 w 0 rfl kf_Mo 19 (by decide) lf_RX10_210 rfl rfl rfl (Nat.le_of_ble_eq_true rfl) dX10_digest_4 (ws' := (ws_Mo_digest cI cJ cZ q_this q_m q_saved q_w q_savedWords q_isSaved q_text q_far q_queue q_parent q_by q_seen q_path q_row q_more q_stateOf v_textLength v_steps v_missing v_mores (59 : Int64) v_m v_w v_text v_far v_queue v_parent v_by v_seen v_path)) rfl (fun H locs w => ?_)
  refine lv_iconst (v := (0 : Int32)) hx hb dX10_digest_7 (by decide) ?_
  refine lv_istore_n (lv' := [(1, .int (0 : Int32)), (0, .ref q_this)]) hx hb dX10_digest_8 rfl hl (by decide) rfl (fun ls hl => ?_)
  refine wl_Mo_digest_L9 C0 hQ (fun x1 v_hash_1 H locs ls h w hl => ?_) _ _ _ _ _ _ h w (lv_sub hl [1, 0] rfl)
  refine lv_iconst (v := (0 : Int32)) hx hb dX10_digest_30 (by decide) ?_
  refine lv_istore_n (lv' := [(1, .int (0 : Int32)), (0, .ref q_this)]) hx hb dX10_digest_31 rfl hl (by decide) rfl (fun ls hl => ?_)
  refine wl_Mo_digest_L32 C0 hQ (fun x1_1 v_hash_2 H locs ls h w hl => ?_) _ _ _ _ _ _ h w (lv_sub hl [1, 0] rfl)
  refine lv_aload_n hx hb dX10_digest_95 rfl (lv_at hl 0 rfl) ?_
  refine lv_aload_n hx hb dX10_digest_96 rfl (lv_at hl 0 rfl) ?_
  obtain ⟨r, v_far_1, v_queue_1, v_parent_1, v_by_1, v_seen_1, v_path_1, v_steps_1, hcall, h⟩ := bd8_h h
  have hp := sp_of (ws := (ws_Mo_digest cI cJ cZ q_this q_m q_saved q_w q_savedWords q_isSaved q_text q_far q_queue q_parent q_by q_seen q_path q_row q_more q_stateOf v_textLength v_steps v_missing v_mores v_hash_2 v_m v_w v_text v_far v_queue v_parent v_by v_seen v_path)) (wc := (ws_Mo_leastStates cI cJ cZ q_this q_m q_saved q_w q_savedWords q_isSaved q_text q_far q_queue q_parent q_by q_seen q_path q_row q_more q_stateOf v_textLength v_steps v_missing v_mores v_hash_2 v_m v_far v_queue v_parent v_by v_seen v_path)) [0, 1, 4, 5, 6, 7, 8, 9] [2, 3] rfl rfl
  have hp' : Rp (pk (ws_Mo_digest cI cJ cZ q_this q_m q_saved q_w q_savedWords q_isSaved q_text q_far q_queue q_parent q_by q_seen q_path q_row q_more q_stateOf v_textLength v_steps v_missing v_mores v_hash_2 v_m v_w v_text v_far v_queue v_parent v_by v_seen v_path) [2, 3] ++ (ws_Mo_leastStates cI cJ cZ q_this q_m q_saved q_w q_savedWords q_isSaved q_text q_far q_queue q_parent q_by q_seen q_path q_row q_more q_stateOf v_textLength v_steps_1 v_missing v_mores v_hash_2 v_m v_far_1 v_queue_1 v_parent_1 v_by_1 v_seen_1 v_path_1)) (ws_Mo_digest cI cJ cZ q_this q_m q_saved q_w q_savedWords q_isSaved q_text q_far q_queue q_parent q_by q_seen q_path q_row q_more q_stateOf v_textLength v_steps_1 v_missing v_mores v_hash_2 v_m v_w v_text v_far_1 v_queue_1 v_parent_1 v_by_1 v_seen_1 v_path_1) := ⟨[2, 3, 0, 1, 4, 5, 6, 7, 8, 9], rfl, rfl⟩
  refine r_VI (r := r) (As := []) (rest := [.ref q_this]) (wc' := (ws_Mo_leastStates cI cJ cZ q_this q_m q_saved q_w q_savedWords q_isSaved q_text q_far q_queue q_parent q_by q_seen q_path q_row q_more q_stateOf v_textLength v_steps_1 v_missing v_mores v_hash_2 v_m v_far_1 v_queue_1 v_parent_1 v_by_1 v_seen_1 v_path_1)) (ws' := (ws_Mo_digest cI cJ cZ q_this q_m q_saved q_w q_savedWords q_isSaved q_text q_far q_queue q_parent q_by q_seen q_path q_row q_more q_stateOf v_textLength v_steps_1 v_missing v_mores v_hash_2 v_m v_w v_text v_far_1 v_queue_1 v_parent_1 v_by_1 v_seen_1 v_path_1)) C0 w (c_Mo_leastStates hcall) hp hp' lm_RX10_226 mv_Mo_leastStates ⟨rfl, rfl⟩ ⟨by decide, by decide⟩ ⟨Nat.zero_le _, Nat.zero_le _⟩ (q0 := 0) rfl rfl rfl rfl hl rfl (Nat.le_of_ble_eq_true rfl) dX10_digest_97 (fun H locs w => ?_)
  obtain ⟨v_hash_3, hcall, h⟩ := bd1_h h
  have hp := sp_of (ws := (ws_Mo_digest cI cJ cZ q_this q_m q_saved q_w q_savedWords q_isSaved q_text q_far q_queue q_parent q_by q_seen q_path q_row q_more q_stateOf v_textLength v_steps_1 v_missing v_mores v_hash_2 v_m v_w v_text v_far_1 v_queue_1 v_parent_1 v_by_1 v_seen_1 v_path_1)) (wc := (ws_Mo_mixes cI cJ cZ q_this q_m q_saved q_w q_savedWords q_isSaved q_text q_far q_queue q_parent q_by q_seen q_path q_row q_more q_stateOf v_textLength v_steps_1 v_missing v_mores v_hash_2)) [0] [1, 2, 3, 4, 5, 6, 7, 8, 9] rfl rfl
  have hp' : Rp (pk (ws_Mo_digest cI cJ cZ q_this q_m q_saved q_w q_savedWords q_isSaved q_text q_far q_queue q_parent q_by q_seen q_path q_row q_more q_stateOf v_textLength v_steps_1 v_missing v_mores v_hash_2 v_m v_w v_text v_far_1 v_queue_1 v_parent_1 v_by_1 v_seen_1 v_path_1) [1, 2, 3, 4, 5, 6, 7, 8, 9] ++ (ws_Mo_mixes cI cJ cZ q_this q_m q_saved q_w q_savedWords q_isSaved q_text q_far q_queue q_parent q_by q_seen q_path q_row q_more q_stateOf v_textLength v_steps_1 v_missing v_mores v_hash_3)) (ws_Mo_digest cI cJ cZ q_this q_m q_saved q_w q_savedWords q_isSaved q_text q_far q_queue q_parent q_by q_seen q_path q_row q_more q_stateOf v_textLength v_steps_1 v_missing v_mores v_hash_3 v_m v_w v_text v_far_1 v_queue_1 v_parent_1 v_by_1 v_seen_1 v_path_1) := ⟨[9, 0, 1, 2, 3, 4, 5, 6, 7, 8], rfl, rfl⟩
  refine r_VV (As := [.int r]) (rest := []) (wc' := (ws_Mo_mixes cI cJ cZ q_this q_m q_saved q_w q_savedWords q_isSaved q_text q_far q_queue q_parent q_by q_seen q_path q_row q_more q_stateOf v_textLength v_steps_1 v_missing v_mores v_hash_3)) (ws' := (ws_Mo_digest cI cJ cZ q_this q_m q_saved q_w q_savedWords q_isSaved q_text q_far q_queue q_parent q_by q_seen q_path q_row q_more q_stateOf v_textLength v_steps_1 v_missing v_mores v_hash_3 v_m v_w v_text v_far_1 v_queue_1 v_parent_1 v_by_1 v_seen_1 v_path_1)) C0 w (c_Mo_mixes hcall) hp hp' lm_RX10_213 mv_Mo_mixes ⟨rfl, rfl⟩ ⟨by decide, by decide⟩ ⟨Nat.zero_le _, Nat.zero_le _⟩ (q0 := 0) rfl rfl rfl rfl hl rfl (Nat.le_of_ble_eq_true rfl) dX10_digest_100 (fun H locs w => ?_)
  refine lv_iconst (v := (0 : Int32)) hx hb dX10_digest_103 (by decide) ?_
  refine lv_istore_n (lv' := [(1, .int (0 : Int32)), (0, .ref q_this)]) hx hb dX10_digest_104 rfl hl (by decide) rfl (fun ls hl => ?_)
  refine wl_Mo_digest_L105 C0 hQ (fun x1_2 v_hash_4 H locs ls h w hl => ?_) _ _ _ _ _ _ h w (lv_sub hl [1, 0] rfl)
  refine lv_iconst (v := (0 : Int32)) hx hb dX10_digest_142 (by decide) ?_
  refine lv_istore_n (lv' := [(1, .int (0 : Int32)), (0, .ref q_this)]) hx hb dX10_digest_143 rfl hl (by decide) rfl (fun ls hl => ?_)
  refine wl_Mo_digest_L144 C0 hQ (fun x1_3 v_hash_5 H locs ls h w hl => ?_) _ _ _ _ _ _ h w (lv_sub hl [1, 0] rfl)
  refine lv_iconst (v := (0 : Int32)) hx hb dX10_digest_188 (by decide) ?_
  refine lv_istore_n (lv' := [(1, .int (0 : Int32)), (0, .ref q_this)]) hx hb dX10_digest_189 rfl hl (by decide) rfl (fun ls hl => ?_)
  refine wl_Mo_digest_L190 C0 hQ (fun x1_4 v_hash_6 H locs ls h w hl => ?_) _ _ _ _ _ _ h w (lv_sub hl [1, 0] rfl)
  refine lv_iconst (v := (0 : Int32)) hx hb dX10_digest_221 (by decide) ?_
  refine lv_istore_n (lv' := [(1, .int (0 : Int32)), (0, .ref q_this)]) hx hb dX10_digest_222 rfl hl (by decide) rfl (fun ls hl => ?_)
  refine wl_Mo_digest_L223 C0 hQ (fun x1_5 v_hash_7 H locs ls h w hl => ?_) _ _ _ _ _ _ h w (lv_sub hl [1, 0] rfl)
  refine lv_iconst (v := (0 : Int32)) hx hb dX10_digest_290 (by decide) ?_
  refine lv_istore_n (lv' := [(1, .int (0 : Int32)), (0, .ref q_this)]) hx hb dX10_digest_291 rfl hl (by decide) rfl (fun ls hl => ?_)
  refine wl_Mo_digest_L292 C0 hQ (fun x1_6 v_hash_8 H locs ls h w hl => ?_) _ _ _ _ _ _ h w (lv_sub hl [1, 0] rfl)
  refine lv_iconst (v := (0 : Int32)) hx hb dX10_digest_323 (by decide) ?_
  refine lv_istore_n (lv' := [(1, .int (0 : Int32)), (0, .ref q_this)]) hx hb dX10_digest_324 rfl hl (by decide) rfl (fun ls hl => ?_)
  refine wl_Mo_digest_L325 C0 hQ (fun x1_7 v_hash_9 H locs ls h w hl => ?_) _ _ _ _ _ _ h w (lv_sub hl [1, 0] rfl)
  refine lv_aload_n hx hb dX10_digest_349 rfl (lv_at hl 0 rfl) ?_
  refine r_get C0 w 0 rfl kf_Mo 19 (by decide) lf_RX10_210 rfl dX10_digest_350 ?_
  cases h
  exact hQ _ _ _ _ dX10_digest_353 w

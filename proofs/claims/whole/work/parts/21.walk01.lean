theorem dX9_state_0 : decode cX9_state 0 = .ok (.aload_n 0, 1) := by decide +kernel
theorem dX9_state_1 : decode cX9_state 1 = .ok (.getfield 10, 3) := by decide +kernel
theorem dX9_state_4 : decode cX9_state 4 = .ok (.getfield 35, 3) := by decide +kernel
theorem dX9_state_7 : decode cX9_state 7 = .ok (.getfield 39, 3) := by decide +kernel
theorem dX9_state_10 : decode cX9_state 10 = .ok (.astore_n 3, 1) := by decide +kernel
theorem dX9_state_11 : decode cX9_state 11 = .ok (.aload_n 3, 1) := by decide +kernel
theorem dX9_state_12 : decode cX9_state 12 = .ok (.iload_n 1, 1) := by decide +kernel
theorem dX9_state_13 : decode cX9_state 13 = .ok (.invokevirtual 57, 3) := by decide +kernel
theorem dX9_state_16 : decode cX9_state 16 = .ok (.ifCond .eq 11, 3) := by decide +kernel
theorem dX9_state_19 : decode cX9_state 19 = .ok (.aload_n 3, 1) := by decide +kernel
theorem dX9_state_20 : decode cX9_state 20 = .ok (.iload_n 2, 1) := by decide +kernel
theorem dX9_state_21 : decode cX9_state 21 = .ok (.invokevirtual 89, 3) := by decide +kernel
theorem dX9_state_24 : decode cX9_state 24 = .ok (.ifCond .ne 6, 3) := by decide +kernel
theorem dX9_state_27 : decode cX9_state 27 = .ok (.bipush (-2), 2) := by decide +kernel
theorem dX9_state_29 : decode cX9_state 29 = .ok (.ireturn, 1) := by decide +kernel
theorem dX9_state_30 : decode cX9_state 30 = .ok (.iload_n 2, 1) := by decide +kernel
theorem dX9_state_31 : decode cX9_state 31 = .ok (.iconst 4, 1) := by decide +kernel
theorem dX9_state_32 : decode cX9_state 32 = .ok (.if_icmp .ne 11, 3) := by decide +kernel
theorem dX9_state_35 : decode cX9_state 35 = .ok (.aload_n 3, 1) := by decide +kernel
theorem dX9_state_36 : decode cX9_state 36 = .ok (.iload_n 1, 1) := by decide +kernel
theorem dX9_state_37 : decode cX9_state 37 = .ok (.invokevirtual 92, 3) := by decide +kernel
theorem dX9_state_40 : decode cX9_state 40 = .ok (.goto 9, 3) := by decide +kernel
theorem dX9_state_43 : decode cX9_state 43 = .ok (.aload_n 3, 1) := by decide +kernel
theorem dX9_state_44 : decode cX9_state 44 = .ok (.iload_n 1, 1) := by decide +kernel
theorem dX9_state_45 : decode cX9_state 45 = .ok (.iload_n 2, 1) := by decide +kernel
theorem dX9_state_46 : decode cX9_state 46 = .ok (.invokevirtual 96, 3) := by decide +kernel
theorem dX9_state_49 : decode cX9_state 49 = .ok (.ireturn, 1) := by decide +kernel
set_option maxRecDepth 100000 in
theorem c_TL_state {l : Launch} {D : va_G} {cI cJ cZ cO : ClassId} {q_this q_world q_slots q_text q_search q_world_teacher q_world_learner q_world_teacher_machine q_world_teacher_lies q_world_teacher_machine_moves q_world_teacher_machine_finals : Nat} {x1 : Int32} {x2 : Int32} {v_textLength : Int32} {v_world_teacher_lieCount : Int32} {v_world_teacher_machine_size : Int32} {v_world_teacher_machine_letters : Int32} {v_world_teacher_machine_moves : (Nat → Int32)} {v_world_teacher_machine_finals : (Nat → Int32)} {x : Int32} (h : f_TL_state x1 x2 v_world_teacher_machine_size v_world_teacher_machine_letters v_world_teacher_machine_moves v_world_teacher_machine_finals = some x) : ctI l D cI cJ cZ cO yX9_state cX9_state 4 .int rm_TL_state [.ref q_this, .int x1, .int x2] (ws_TL_state cI cJ cZ q_this q_world q_slots q_text q_search q_world_teacher q_world_learner q_world_teacher_machine q_world_teacher_lies q_world_teacher_machine_moves q_world_teacher_machine_finals v_textLength v_world_teacher_lieCount v_world_teacher_machine_size v_world_teacher_machine_letters v_world_teacher_machine_moves v_world_teacher_machine_finals) (ws_TL_state cI cJ cZ q_this q_world q_slots q_text q_search q_world_teacher q_world_learner q_world_teacher_machine q_world_teacher_lies q_world_teacher_machine_moves q_world_teacher_machine_finals v_textLength v_world_teacher_lieCount v_world_teacher_machine_size v_world_teacher_machine_letters v_world_teacher_machine_moves v_world_teacher_machine_finals) x := by
  refine ctI_of (by decide) (Nat.le_of_ble_eq_true rfl) ?_
  intro p e s m below meth c Q A ls C0 hQ w hl
  have hl : lv_has ls 4 [(0, .ref q_this), (1, .int x1), (2, .int x2)] := hl
  generalize List.toArray (α := Value) [.ref q_this, .int x1, .int x2] = args at C0 hQ ⊢
  obtain ⟨hx, hb, hml, hown, hts, -, -⟩ := id C0
  unfold f_TL_state at h
  refine lv_aload_n hx hb dX9_state_0 rfl (lv_at hl 0 rfl) ?_
  refine r_get C0 w 0 rfl kf_TL 0 (by decide) lf_RX9_10 rfl dX9_state_1 ?_
  refine r_get C0 w 1 rfl kf_Wo 0 (by decide) lf_RX9_35 rfl dX9_state_4 ?_
  refine r_get C0 w 2 rfl kf_Te 0 (by decide) lf_RX9_39 rfl dX9_state_7 ?_
  refine lv_astore_n (lv' := [(3, .ref q_world_teacher_machine), (0, .ref q_this), (1, .int x1), (2, .int x2)]) hx hb dX9_state_10 rfl hl (by decide) rfl (fun ls hl => ?_)
  refine lv_aload_n hx hb dX9_state_11 rfl (lv_at hl 0 rfl) ?_
  refine lv_iload_n hx hb dX9_state_12 rfl (lv_at hl 2 rfl) ?_
  obtain ⟨r, hcall, h⟩ := bd1_h h
  obtain ⟨wr, hp, hp'⟩ := rd_of (ws := (ws_TL_state cI cJ cZ q_this q_world q_slots q_text q_search q_world_teacher q_world_learner q_world_teacher_machine q_world_teacher_lies q_world_teacher_machine_moves q_world_teacher_machine_finals v_textLength v_world_teacher_lieCount v_world_teacher_machine_size v_world_teacher_machine_letters v_world_teacher_machine_moves v_world_teacher_machine_finals)) (wc := (ws_Au_hasState cI cJ cZ q_world_teacher_machine q_world_teacher_machine_moves q_world_teacher_machine_finals v_world_teacher_machine_size v_world_teacher_machine_letters)) [3] rfl rfl
  refine r_VI (r := r) (As := [.int x1]) (rest := []) (wc' := (ws_Au_hasState cI cJ cZ q_world_teacher_machine q_world_teacher_machine_moves q_world_teacher_machine_finals v_world_teacher_machine_size v_world_teacher_machine_letters)) (ws' := (ws_TL_state cI cJ cZ q_this q_world q_slots q_text q_search q_world_teacher q_world_learner q_world_teacher_machine q_world_teacher_lies q_world_teacher_machine_moves q_world_teacher_machine_finals v_textLength v_world_teacher_lieCount v_world_teacher_machine_size v_world_teacher_machine_letters v_world_teacher_machine_moves v_world_teacher_machine_finals)) C0 w (c_Au_hasState hcall) hp hp' lm_RX9_57 mv_Au_hasState ⟨rfl, rfl⟩ ⟨by decide, by decide⟩ ⟨Nat.zero_le _, Nat.zero_le _⟩ (q0 := 3) rfl rfl rfl rfl hl rfl (Nat.le_of_ble_eq_true rfl) dX9_state_13 (fun H locs w => ?_)
  refine lv_if_eq (tgt := 27) hx hb dX9_state_16 (by decide) (fun hc => ?_) (fun hc => ?_)
  · have h := if_h hc h
    refine lv_bipush (v := (-2 : Int32)) hx hb dX9_state_27 (by decide) ?_
    cases h
    exact hQ _ _ _ _ dX9_state_29 rfl w
  · have h := nf_h hc h
    refine lv_aload_n hx hb dX9_state_19 rfl (lv_at hl 0 rfl) ?_
    refine lv_iload_n hx hb dX9_state_20 rfl (lv_at hl 3 rfl) ?_
    obtain ⟨r_1, hcall, h⟩ := bd1_h h
    obtain ⟨wr, hp, hp'⟩ := rd_of (ws := (ws_TL_state cI cJ cZ q_this q_world q_slots q_text q_search q_world_teacher q_world_learner q_world_teacher_machine q_world_teacher_lies q_world_teacher_machine_moves q_world_teacher_machine_finals v_textLength v_world_teacher_lieCount v_world_teacher_machine_size v_world_teacher_machine_letters v_world_teacher_machine_moves v_world_teacher_machine_finals)) (wc := (ws_Au_hasProperty cI cJ cZ q_world_teacher_machine q_world_teacher_machine_moves q_world_teacher_machine_finals v_world_teacher_machine_size v_world_teacher_machine_letters)) [3] rfl rfl
    refine r_VI (r := r_1) (As := [.int x2]) (rest := []) (wc' := (ws_Au_hasProperty cI cJ cZ q_world_teacher_machine q_world_teacher_machine_moves q_world_teacher_machine_finals v_world_teacher_machine_size v_world_teacher_machine_letters)) (ws' := (ws_TL_state cI cJ cZ q_this q_world q_slots q_text q_search q_world_teacher q_world_learner q_world_teacher_machine q_world_teacher_lies q_world_teacher_machine_moves q_world_teacher_machine_finals v_textLength v_world_teacher_lieCount v_world_teacher_machine_size v_world_teacher_machine_letters v_world_teacher_machine_moves v_world_teacher_machine_finals)) C0 w (c_Au_hasProperty hcall) hp hp' lm_RX9_89 mv_Au_hasProperty ⟨rfl, rfl⟩ ⟨by decide, by decide⟩ ⟨Nat.zero_le _, Nat.zero_le _⟩ (q0 := 3) rfl rfl rfl rfl hl rfl (Nat.le_of_ble_eq_true rfl) dX9_state_21 (fun H locs w => ?_)
    refine lv_if_ne (tgt := 30) hx hb dX9_state_24 (by decide) (fun hc => ?_) (fun hc => ?_)
    · have h := nf_h hc h
      refine lv_iload_n hx hb dX9_state_30 rfl (lv_at hl 3 rfl) ?_
      refine lv_iconst (v := (4 : Int32)) hx hb dX9_state_31 (by decide) ?_
      refine lv_icmp_ne (tgt := 43) hx hb dX9_state_32 (by decide) (fun hc => ?_) (fun hc => ?_)
      · have h := nf_h hc h
        refine lv_aload_n hx hb dX9_state_43 rfl (lv_at hl 0 rfl) ?_
        refine lv_iload_n hx hb dX9_state_44 rfl (lv_at hl 2 rfl) ?_
        refine lv_iload_n hx hb dX9_state_45 rfl (lv_at hl 3 rfl) ?_
        obtain ⟨r_2, hcall, h⟩ := bd1_h h
        obtain ⟨wr, hp, hp'⟩ := rd_of (ws := (ws_TL_state cI cJ cZ q_this q_world q_slots q_text q_search q_world_teacher q_world_learner q_world_teacher_machine q_world_teacher_lies q_world_teacher_machine_moves q_world_teacher_machine_finals v_textLength v_world_teacher_lieCount v_world_teacher_machine_size v_world_teacher_machine_letters v_world_teacher_machine_moves v_world_teacher_machine_finals)) (wc := (ws_Au_property cI cJ cZ q_world_teacher_machine q_world_teacher_machine_moves q_world_teacher_machine_finals 24 8 v_world_teacher_machine_size v_world_teacher_machine_letters v_world_teacher_machine_moves v_world_teacher_machine_finals)) [3, 4, 5] rfl rfl
        refine r_VI (r := r_2) (As := [.int x1, .int x2]) (rest := []) (wc' := (ws_Au_property cI cJ cZ q_world_teacher_machine q_world_teacher_machine_moves q_world_teacher_machine_finals 24 8 v_world_teacher_machine_size v_world_teacher_machine_letters v_world_teacher_machine_moves v_world_teacher_machine_finals)) (ws' := (ws_TL_state cI cJ cZ q_this q_world q_slots q_text q_search q_world_teacher q_world_learner q_world_teacher_machine q_world_teacher_lies q_world_teacher_machine_moves q_world_teacher_machine_finals v_textLength v_world_teacher_lieCount v_world_teacher_machine_size v_world_teacher_machine_letters v_world_teacher_machine_moves v_world_teacher_machine_finals)) C0 w (c_Au_property hcall) hp hp' lm_RX9_96 mv_Au_property ⟨rfl, rfl⟩ ⟨by decide, by decide⟩ ⟨Nat.zero_le _, Nat.zero_le _⟩ (q0 := 3) rfl rfl rfl rfl hl rfl (Nat.le_of_ble_eq_true rfl) dX9_state_46 (fun H locs w => ?_)
        cases h
        exact hQ _ _ _ _ dX9_state_49 rfl w
      · have h := if_h hc h
        refine lv_aload_n hx hb dX9_state_35 rfl (lv_at hl 0 rfl) ?_
        refine lv_iload_n hx hb dX9_state_36 rfl (lv_at hl 2 rfl) ?_
        obtain ⟨r_3, hcall, h⟩ := bd1_h h
        obtain ⟨wr, hp, hp'⟩ := rd_of (ws := (ws_TL_state cI cJ cZ q_this q_world q_slots q_text q_search q_world_teacher q_world_learner q_world_teacher_machine q_world_teacher_lies q_world_teacher_machine_moves q_world_teacher_machine_finals v_textLength v_world_teacher_lieCount v_world_teacher_machine_size v_world_teacher_machine_letters v_world_teacher_machine_moves v_world_teacher_machine_finals)) (wc := (ws_Au_distanceTo cI cJ cZ q_world_teacher_machine q_world_teacher_machine_moves q_world_teacher_machine_finals 24 v_world_teacher_machine_size v_world_teacher_machine_letters v_world_teacher_machine_moves)) [3, 4] rfl rfl
        refine r_VI (r := r_3) (As := [.int x1]) (rest := []) (wc' := (ws_Au_distanceTo cI cJ cZ q_world_teacher_machine q_world_teacher_machine_moves q_world_teacher_machine_finals 24 v_world_teacher_machine_size v_world_teacher_machine_letters v_world_teacher_machine_moves)) (ws' := (ws_TL_state cI cJ cZ q_this q_world q_slots q_text q_search q_world_teacher q_world_learner q_world_teacher_machine q_world_teacher_lies q_world_teacher_machine_moves q_world_teacher_machine_finals v_textLength v_world_teacher_lieCount v_world_teacher_machine_size v_world_teacher_machine_letters v_world_teacher_machine_moves v_world_teacher_machine_finals)) C0 w (c_Au_distanceTo hcall) hp hp' lm_RX9_92 mv_Au_distanceTo ⟨rfl, rfl⟩ ⟨by decide, by decide⟩ ⟨Nat.zero_le _, Nat.zero_le _⟩ (q0 := 3) rfl rfl rfl rfl hl rfl (Nat.le_of_ble_eq_true rfl) dX9_state_37 (fun H locs w => ?_)
        refine lv_goto (tgt := 49) hx hb dX9_state_40 (by decide) ?_
        cases h
        exact hQ _ _ _ _ dX9_state_49 rfl w
    · have h := if_h hc h
      refine lv_bipush (v := (-2 : Int32)) hx hb dX9_state_27 (by decide) ?_
      cases h
      exact hQ _ _ _ _ dX9_state_29 rfl w
theorem dX3_meet_0 : decode cX3_meet 0 = .ok (.iload_n 1, 1) := by decide +kernel
theorem dX3_meet_1 : decode cX3_meet 1 = .ok (.bipush 8, 2) := by decide +kernel
theorem dX3_meet_3 : decode cX3_meet 3 = .ok (.imul, 1) := by decide +kernel
theorem dX3_meet_4 : decode cX3_meet 4 = .ok (.iload_n 2, 1) := by decide +kernel
theorem dX3_meet_5 : decode cX3_meet 5 = .ok (.iadd, 1) := by decide +kernel
theorem dX3_meet_6 : decode cX3_meet 6 = .ok (.istore 5, 2) := by decide +kernel
theorem dX3_meet_8 : decode cX3_meet 8 = .ok (.aload_n 0, 1) := by decide +kernel
theorem dX3_meet_9 : decode cX3_meet 9 = .ok (.getfield 11, 3) := by decide +kernel
theorem dX3_meet_12 : decode cX3_meet 12 = .ok (.iload 5, 2) := by decide +kernel
theorem dX3_meet_14 : decode cX3_meet 14 = .ok (.iaload, 1) := by decide +kernel
theorem dX3_meet_15 : decode cX3_meet 15 = .ok (.ifCond .ne 63, 3) := by decide +kernel
theorem dX3_meet_18 : decode cX3_meet 18 = .ok (.aload_n 0, 1) := by decide +kernel
theorem dX3_meet_19 : decode cX3_meet 19 = .ok (.getfield 31, 3) := by decide +kernel
theorem dX3_meet_22 : decode cX3_meet 22 = .ok (.sipush 320, 3) := by decide +kernel
theorem dX3_meet_25 : decode cX3_meet 25 = .ok (.if_icmp .ge 53, 3) := by decide +kernel
theorem dX3_meet_28 : decode cX3_meet 28 = .ok (.aload_n 0, 1) := by decide +kernel
theorem dX3_meet_29 : decode cX3_meet 29 = .ok (.getfield 11, 3) := by decide +kernel
theorem dX3_meet_32 : decode cX3_meet 32 = .ok (.iload 5, 2) := by decide +kernel
theorem dX3_meet_34 : decode cX3_meet 34 = .ok (.iconst 1, 1) := by decide +kernel
theorem dX3_meet_35 : decode cX3_meet 35 = .ok (.iastore, 1) := by decide +kernel
theorem dX3_meet_36 : decode cX3_meet 36 = .ok (.aload_n 0, 1) := by decide +kernel
theorem dX3_meet_37 : decode cX3_meet 37 = .ok (.getfield 15, 3) := by decide +kernel
theorem dX3_meet_40 : decode cX3_meet 40 = .ok (.aload_n 0, 1) := by decide +kernel
theorem dX3_meet_41 : decode cX3_meet 41 = .ok (.getfield 31, 3) := by decide +kernel
theorem dX3_meet_44 : decode cX3_meet 44 = .ok (.iload 5, 2) := by decide +kernel
theorem dX3_meet_46 : decode cX3_meet 46 = .ok (.iastore, 1) := by decide +kernel
theorem dX3_meet_47 : decode cX3_meet 47 = .ok (.aload_n 0, 1) := by decide +kernel
theorem dX3_meet_48 : decode cX3_meet 48 = .ok (.getfield 18, 3) := by decide +kernel
theorem dX3_meet_51 : decode cX3_meet 51 = .ok (.aload_n 0, 1) := by decide +kernel
theorem dX3_meet_52 : decode cX3_meet 52 = .ok (.getfield 31, 3) := by decide +kernel
theorem dX3_meet_55 : decode cX3_meet 55 = .ok (.iload_n 3, 1) := by decide +kernel
theorem dX3_meet_56 : decode cX3_meet 56 = .ok (.iastore, 1) := by decide +kernel
theorem dX3_meet_57 : decode cX3_meet 57 = .ok (.aload_n 0, 1) := by decide +kernel
theorem dX3_meet_58 : decode cX3_meet 58 = .ok (.getfield 21, 3) := by decide +kernel
theorem dX3_meet_61 : decode cX3_meet 61 = .ok (.aload_n 0, 1) := by decide +kernel
theorem dX3_meet_62 : decode cX3_meet 62 = .ok (.getfield 31, 3) := by decide +kernel
theorem dX3_meet_65 : decode cX3_meet 65 = .ok (.iload 4, 2) := by decide +kernel
theorem dX3_meet_67 : decode cX3_meet 67 = .ok (.iastore, 1) := by decide +kernel
theorem dX3_meet_68 : decode cX3_meet 68 = .ok (.aload_n 0, 1) := by decide +kernel
theorem dX3_meet_69 : decode cX3_meet 69 = .ok (.dup, 1) := by decide +kernel
theorem dX3_meet_70 : decode cX3_meet 70 = .ok (.getfield 31, 3) := by decide +kernel
theorem dX3_meet_73 : decode cX3_meet 73 = .ok (.iconst 1, 1) := by decide +kernel
theorem dX3_meet_74 : decode cX3_meet 74 = .ok (.iadd, 1) := by decide +kernel
theorem dX3_meet_75 : decode cX3_meet 75 = .ok (.putfield 31, 3) := by decide +kernel
theorem dX3_meet_78 : decode cX3_meet 78 = .ok (.return_, 1) := by decide +kernel
set_option maxRecDepth 100000 in
theorem c_Se_meet {l : Launch} {D : va_G} {cI cJ cZ cO : ClassId} {q_this q_seen q_queue q_origin q_arrival q_letters : Nat} {x1 : Int32} {x2 : Int32} {x3 : Int32} {x4 : Int32} {v_length : Int32} {v_queued : Int32} {v_seen : (Nat → Int32)} {v_queue : (Nat → Int32)} {v_origin : (Nat → Int32)} {v_arrival : (Nat → Int32)} {x : (Nat → Int32) × (Nat → Int32) × (Nat → Int32) × (Nat → Int32) × Int32} (h : f_Se_meet x1 x2 x3 x4 v_queued v_seen v_queue v_origin v_arrival = some x) : ctV l D cI cJ cZ cO yX3_meet cX3_meet 6 rm_Se_meet [.ref q_this, .int x1, .int x2, .int x3, .int x4] (ws_Se_meet cI cJ cZ q_this q_seen q_queue q_origin q_arrival q_letters v_length v_queued v_seen v_queue v_origin v_arrival) (ws_Se_meet cI cJ cZ q_this q_seen q_queue q_origin q_arrival q_letters v_length x.2.2.2.2 x.1 x.2.1 x.2.2.1 x.2.2.2.1) := by
  refine ctV_of (by decide) (Nat.le_of_ble_eq_true rfl) ?_
  intro p e s m below meth c Q A ls C0 hQ w hl
  have hl : lv_has ls 6 [(0, .ref q_this), (1, .int x1), (2, .int x2), (3, .int x3), (4, .int x4)] := hl
  generalize List.toArray (α := Value) [.ref q_this, .int x1, .int x2, .int x3, .int x4] = args at C0 hQ ⊢
  obtain ⟨hx, hb, hml, hown, hts, -, -⟩ := id C0
  unfold f_Se_meet at h
  refine lv_iload_n hx hb dX3_meet_0 rfl (lv_at hl 1 rfl) ?_
  refine lv_bipush (v := (8 : Int32)) hx hb dX3_meet_1 (by decide) ?_
  refine lv_imul hx hb dX3_meet_3 ?_
  refine lv_iload_n hx hb dX3_meet_4 rfl (lv_at hl 2 rfl) ?_
  refine lv_iadd hx hb dX3_meet_5 ?_
  refine lv_topi (fun x5 ex5 => ?_)
  have h := bnd_at ex5 h
  refine lv_istore (lv' := [(5, .int x5), (0, .ref q_this), (1, .int x1), (2, .int x2), (3, .int x3), (4, .int x4)]) hx hb dX3_meet_6 hl (by decide) rfl (fun ls hl => ?_)
  refine lv_aload_n hx hb dX3_meet_8 rfl (lv_at hl 1 rfl) ?_
  refine r_get C0 w 0 rfl kf_Se 0 (by decide) lf_RX3_11 rfl dX3_meet_9 ?_
  refine lv_iload hx hb dX3_meet_12 (lv_at hl 0 rfl) ?_
  obtain ⟨hi, h⟩ := gIn_h h
  refine r_iald C0 w 1 rfl rfl hi dX3_meet_14 ?_
  refine lv_if_ne (tgt := 78) hx hb dX3_meet_15 (by decide) (fun hc => ?_) (fun hc => ?_)
  · have h := nf_h hc h
    cases h
    exact hQ _ _ _ _ dX3_meet_78 w
  · have h := if_h hc h
    refine lv_aload_n hx hb dX3_meet_18 rfl (lv_at hl 1 rfl) ?_
    refine r_get C0 w 0 rfl kf_Se 6 (by decide) lf_RX3_31 rfl dX3_meet_19 ?_
    refine lv_sipush (v := (320 : Int32)) hx hb dX3_meet_22 (by decide) ?_
    refine lv_icmp_ge (tgt := 78) hx hb dX3_meet_25 (by decide) (fun hc => ?_) (fun hc => ?_)
    · have h := if_h hc h
      cases h
      exact hQ _ _ _ _ dX3_meet_78 w
    · have h := nf_h hc h
      refine lv_aload_n hx hb dX3_meet_28 rfl (lv_at hl 1 rfl) ?_
      refine r_get C0 w 0 rfl kf_Se 0 (by decide) lf_RX3_11 rfl dX3_meet_29 ?_
      refine lv_iload hx hb dX3_meet_32 (lv_at hl 0 rfl) ?_
      refine lv_iconst (v := (1 : Int32)) hx hb dX3_meet_34 (by decide) ?_
      obtain ⟨hi, h⟩ := gIn_h h
      obtain ⟨v_seen_1, ev_seen_1⟩ : ∃ y, y = (upd v_seen x5.toNatClampNeg (1 : Int32)) := ⟨_, rfl⟩
      have h := bnd_at ev_seen_1 h
      refine r_iast C0 w 1 rfl (f' := v_seen_1) rfl hi ev_seen_1 dX3_meet_35 (ws' := (ws_Se_meet cI cJ cZ q_this q_seen q_queue q_origin q_arrival q_letters v_length v_queued v_seen_1 v_queue v_origin v_arrival)) rfl (fun H locs w => ?_)
      refine lv_aload_n hx hb dX3_meet_36 rfl (lv_at hl 1 rfl) ?_
      refine r_get C0 w 0 rfl kf_Se 1 (by decide) lf_RX3_15 rfl dX3_meet_37 ?_
      refine lv_aload_n hx hb dX3_meet_40 rfl (lv_at hl 1 rfl) ?_
      refine r_get C0 w 0 rfl kf_Se 6 (by decide) lf_RX3_31 rfl dX3_meet_41 ?_
      refine lv_iload hx hb dX3_meet_44 (lv_at hl 0 rfl) ?_
      obtain ⟨hi, h⟩ := gIn_h h
      obtain ⟨v_queue_1, ev_queue_1⟩ : ∃ y, y = (upd v_queue v_queued.toNatClampNeg x5) := ⟨_, rfl⟩
      have h := bnd_at ev_queue_1 h
      refine r_iast C0 w 2 rfl (f' := v_queue_1) rfl hi ev_queue_1 dX3_meet_46 (ws' := (ws_Se_meet cI cJ cZ q_this q_seen q_queue q_origin q_arrival q_letters v_length v_queued v_seen_1 v_queue_1 v_origin v_arrival)) rfl (fun H locs w => ?_)
      refine lv_aload_n hx hb dX3_meet_47 rfl (lv_at hl 1 rfl) ?_
      refine r_get C0 w 0 rfl kf_Se 2 (by decide) lf_RX3_18 rfl dX3_meet_48 ?_
      refine lv_aload_n hx hb dX3_meet_51 rfl (lv_at hl 1 rfl) ?_
      refine r_get C0 w 0 rfl kf_Se 6 (by decide) lf_RX3_31 rfl dX3_meet_52 ?_
      refine lv_iload_n hx hb dX3_meet_55 rfl (lv_at hl 4 rfl) ?_
      obtain ⟨hi, h⟩ := gIn_h h
      obtain ⟨v_origin_1, ev_origin_1⟩ : ∃ y, y = (upd v_origin v_queued.toNatClampNeg x3) := ⟨_, rfl⟩
      have h := bnd_at ev_origin_1 h
      refine r_iast C0 w 3 rfl (f' := v_origin_1) rfl hi ev_origin_1 dX3_meet_56 (ws' := (ws_Se_meet cI cJ cZ q_this q_seen q_queue q_origin q_arrival q_letters v_length v_queued v_seen_1 v_queue_1 v_origin_1 v_arrival)) rfl (fun H locs w => ?_)
      refine lv_aload_n hx hb dX3_meet_57 rfl (lv_at hl 1 rfl) ?_
      refine r_get C0 w 0 rfl kf_Se 3 (by decide) lf_RX3_21 rfl dX3_meet_58 ?_
      refine lv_aload_n hx hb dX3_meet_61 rfl (lv_at hl 1 rfl) ?_
      refine r_get C0 w 0 rfl kf_Se 6 (by decide) lf_RX3_31 rfl dX3_meet_62 ?_
      refine lv_iload hx hb dX3_meet_65 (lv_at hl 5 rfl) ?_
      obtain ⟨hi, h⟩ := gIn_h h
      obtain ⟨v_arrival_1, ev_arrival_1⟩ : ∃ y, y = (upd v_arrival v_queued.toNatClampNeg x4) := ⟨_, rfl⟩
      have h := bnd_at ev_arrival_1 h
      refine r_iast C0 w 4 rfl (f' := v_arrival_1) rfl hi ev_arrival_1 dX3_meet_67 (ws' := (ws_Se_meet cI cJ cZ q_this q_seen q_queue q_origin q_arrival q_letters v_length v_queued v_seen_1 v_queue_1 v_origin_1 v_arrival_1)) rfl (fun H locs w => ?_)
      refine lv_aload_n hx hb dX3_meet_68 rfl (lv_at hl 1 rfl) ?_
      refine lv_dup hx hb dX3_meet_69 rfl ?_
      refine r_get C0 w 0 rfl kf_Se 6 (by decide) lf_RX3_31 rfl dX3_meet_70 ?_
      refine lv_iconst (v := (1 : Int32)) hx hb dX3_meet_73 (by decide) ?_
      refine lv_iadd hx hb dX3_meet_74 ?_
      refine lv_topi (fun v_queued_1 ev_queued_1 => ?_)
      have h := bnd_at ev_queued_1 h
      refine r_put C0 w 0 rfl kf_Se 6 (by decide) lf_RX3_31 rfl rfl rfl (Nat.le_of_ble_eq_true rfl) dX3_meet_75 (ws' := (ws_Se_meet cI cJ cZ q_this q_seen q_queue q_origin q_arrival q_letters v_length v_queued_1 v_seen_1 v_queue_1 v_origin_1 v_arrival_1)) rfl (fun H locs w => ?_)
      cases h
      exact hQ _ _ _ _ dX3_meet_78 w
theorem dX3_traceBack_0 : decode cX3_traceBack 0 = .ok (.aload_n 0, 1) := by decide +kernel
theorem dX3_traceBack_1 : decode cX3_traceBack 1 = .ok (.iconst 0, 1) := by decide +kernel
theorem dX3_traceBack_2 : decode cX3_traceBack 2 = .ok (.putfield 27, 3) := by decide +kernel
theorem dX3_traceBack_5 : decode cX3_traceBack 5 = .ok (.iload_n 1, 1) := by decide +kernel
theorem dX3_traceBack_6 : decode cX3_traceBack 6 = .ok (.istore_n 2, 1) := by decide +kernel
theorem dX3_traceBack_7 : decode cX3_traceBack 7 = .ok (.iload_n 2, 1) := by decide +kernel
theorem dX3_traceBack_8 : decode cX3_traceBack 8 = .ok (.ifCond .le 33, 3) := by decide +kernel
theorem dX3_traceBack_11 : decode cX3_traceBack 11 = .ok (.aload_n 0, 1) := by decide +kernel
theorem dX3_traceBack_12 : decode cX3_traceBack 12 = .ok (.getfield 27, 3) := by decide +kernel
theorem dX3_traceBack_15 : decode cX3_traceBack 15 = .ok (.sipush 320, 3) := by decide +kernel
theorem dX3_traceBack_18 : decode cX3_traceBack 18 = .ok (.if_icmp .ge 23, 3) := by decide +kernel
theorem dX3_traceBack_21 : decode cX3_traceBack 21 = .ok (.aload_n 0, 1) := by decide +kernel
theorem dX3_traceBack_22 : decode cX3_traceBack 22 = .ok (.dup, 1) := by decide +kernel
theorem dX3_traceBack_23 : decode cX3_traceBack 23 = .ok (.getfield 27, 3) := by decide +kernel
theorem dX3_traceBack_26 : decode cX3_traceBack 26 = .ok (.iconst 1, 1) := by decide +kernel
theorem dX3_traceBack_27 : decode cX3_traceBack 27 = .ok (.iadd, 1) := by decide +kernel
theorem dX3_traceBack_28 : decode cX3_traceBack 28 = .ok (.putfield 27, 3) := by decide +kernel
theorem dX3_traceBack_31 : decode cX3_traceBack 31 = .ok (.aload_n 0, 1) := by decide +kernel
theorem dX3_traceBack_32 : decode cX3_traceBack 32 = .ok (.getfield 18, 3) := by decide +kernel
theorem dX3_traceBack_35 : decode cX3_traceBack 35 = .ok (.iload_n 2, 1) := by decide +kernel
theorem dX3_traceBack_36 : decode cX3_traceBack 36 = .ok (.iaload, 1) := by decide +kernel
theorem dX3_traceBack_37 : decode cX3_traceBack 37 = .ok (.istore_n 2, 1) := by decide +kernel
theorem dX3_traceBack_38 : decode cX3_traceBack 38 = .ok (.goto (-31), 3) := by decide +kernel
theorem dX3_traceBack_41 : decode cX3_traceBack 41 = .ok (.iload_n 1, 1) := by decide +kernel
theorem dX3_traceBack_42 : decode cX3_traceBack 42 = .ok (.istore_n 2, 1) := by decide +kernel
theorem dX3_traceBack_43 : decode cX3_traceBack 43 = .ok (.aload_n 0, 1) := by decide +kernel
theorem dX3_traceBack_44 : decode cX3_traceBack 44 = .ok (.getfield 27, 3) := by decide +kernel
theorem dX3_traceBack_47 : decode cX3_traceBack 47 = .ok (.iconst 1, 1) := by decide +kernel
theorem dX3_traceBack_48 : decode cX3_traceBack 48 = .ok (.isub, 1) := by decide +kernel
theorem dX3_traceBack_49 : decode cX3_traceBack 49 = .ok (.istore_n 3, 1) := by decide +kernel
theorem dX3_traceBack_50 : decode cX3_traceBack 50 = .ok (.iload_n 3, 1) := by decide +kernel
theorem dX3_traceBack_51 : decode cX3_traceBack 51 = .ok (.ifCond .lt 28, 3) := by decide +kernel
theorem dX3_traceBack_54 : decode cX3_traceBack 54 = .ok (.aload_n 0, 1) := by decide +kernel
theorem dX3_traceBack_55 : decode cX3_traceBack 55 = .ok (.getfield 24, 3) := by decide +kernel
theorem dX3_traceBack_58 : decode cX3_traceBack 58 = .ok (.iload_n 3, 1) := by decide +kernel
theorem dX3_traceBack_59 : decode cX3_traceBack 59 = .ok (.aload_n 0, 1) := by decide +kernel
theorem dX3_traceBack_60 : decode cX3_traceBack 60 = .ok (.getfield 21, 3) := by decide +kernel
theorem dX3_traceBack_63 : decode cX3_traceBack 63 = .ok (.iload_n 2, 1) := by decide +kernel
theorem dX3_traceBack_64 : decode cX3_traceBack 64 = .ok (.iaload, 1) := by decide +kernel
theorem dX3_traceBack_65 : decode cX3_traceBack 65 = .ok (.iastore, 1) := by decide +kernel
theorem dX3_traceBack_66 : decode cX3_traceBack 66 = .ok (.aload_n 0, 1) := by decide +kernel
theorem dX3_traceBack_67 : decode cX3_traceBack 67 = .ok (.getfield 18, 3) := by decide +kernel
theorem dX3_traceBack_70 : decode cX3_traceBack 70 = .ok (.iload_n 2, 1) := by decide +kernel
theorem dX3_traceBack_71 : decode cX3_traceBack 71 = .ok (.iaload, 1) := by decide +kernel
theorem dX3_traceBack_72 : decode cX3_traceBack 72 = .ok (.istore_n 2, 1) := by decide +kernel
theorem dX3_traceBack_73 : decode cX3_traceBack 73 = .ok (.iinc 3 (-1), 3) := by decide +kernel
theorem dX3_traceBack_76 : decode cX3_traceBack 76 = .ok (.goto (-26), 3) := by decide +kernel
theorem dX3_traceBack_79 : decode cX3_traceBack 79 = .ok (.return_, 1) := by decide +kernel
set_option maxRecDepth 100000 in
theorem w_Se_traceBack_L7 {p : Program} {l : Launch} {e : Env} {s : State} {m : MethodId} {args : Array Value} {below : List Frame} {meth : Method} {c : Code} {Q : State → Prop} {A : Nat → Prop} {D : va_G} {cI cJ cZ cO : ClassId} {q_this q_seen q_queue q_origin q_arrival q_letters : Nat} {v_queued : Int32} {v_origin : (Nat → Int32)} {v_arrival : (Nat → Int32)} {v_letters : (Nat → Int32)} {x1 : Int32} {x : (Nat → Int32) × Int32} (C0 : Cx p s m args c A D cI cJ cZ cO cX3_traceBack 4 RX3) (hQ : RtV p l e rm_Se_traceBack s m args below meth c Q A D cX3_traceBack (ws_Se_traceBack cI cJ cZ q_this q_seen q_queue q_origin q_arrival q_letters x.2 v_queued v_origin v_arrival x.1)) {K : Int32 → Int32 → Option ((Nat → Int32) × Int32)} (hK : ∀ (x2 : Int32) (v_length : Int32) (H : Heap) (locs : List Loc) (ls : Array Slot), K x2 v_length = some x → Wd s A D (ws_Se_traceBack cI cJ cZ q_this q_seen q_queue q_origin q_arrival q_letters v_length v_queued v_origin v_arrival v_letters) H locs → lv_has ls 4 [(0, .ref q_this), (1, .int x1)] → W p l e rm_Se_traceBack s m args below meth c H locs 0 0 Q (F0 m 41 ls [])) {rec : Int32 → Int32 → Option ((Nat → Int32) × Int32)} (hrec : ∀ (x2 : Int32) (v_length : Int32) (H : Heap) (locs : List Loc) (ls : Array Slot), rec x2 v_length = some x → Wd s A D (ws_Se_traceBack cI cJ cZ q_this q_seen q_queue q_origin q_arrival q_letters v_length v_queued v_origin v_arrival v_letters) H locs → lv_has ls 4 [(0, .ref q_this), (1, .int x1), (2, .int x2)] → W p l e rm_Se_traceBack s m args below meth c H locs 0 0 Q (F0 m 7 ls [])) (x2 : Int32) (v_length : Int32) {H : Heap} {locs : List Loc} {ls : Array Slot} (h : f_Se_traceBack_L7 v_origin K rec x2 v_length = some x) (w : Wd s A D (ws_Se_traceBack cI cJ cZ q_this q_seen q_queue q_origin q_arrival q_letters v_length v_queued v_origin v_arrival v_letters) H locs) (hl : lv_has ls 4 [(0, .ref q_this), (1, .int x1), (2, .int x2)]) : W p l e rm_Se_traceBack s m args below meth c H locs 0 0 Q (F0 m 7 ls []) := by
  obtain ⟨hx, hb, hml, hown, hts, -, -⟩ := id C0
  unfold f_Se_traceBack_L7 at h
  refine lv_iload_n hx hb dX3_traceBack_7 rfl (lv_at hl 2 rfl) ?_
  refine lv_if_le (tgt := 41) hx hb dX3_traceBack_8 (by decide) (fun hc => ?_) (fun hc => ?_)
  · have h := if_h hc h
    exact hK _ _ _ _ _ h w (lv_sub hl [0, 1] rfl)
  · have h := nf_h hc h
    refine lv_aload_n hx hb dX3_traceBack_11 rfl (lv_at hl 0 rfl) ?_
    refine r_get C0 w 0 rfl kf_Se 5 (by decide) lf_RX3_27 rfl dX3_traceBack_12 ?_
    refine lv_sipush (v := (320 : Int32)) hx hb dX3_traceBack_15 (by decide) ?_
    refine lv_icmp_ge (tgt := 41) hx hb dX3_traceBack_18 (by decide) (fun hc => ?_) (fun hc => ?_)
    · have h := if_h hc h
      exact hK _ _ _ _ _ h w (lv_sub hl [0, 1] rfl)
    · have h := nf_h hc h
      refine lv_aload_n hx hb dX3_traceBack_21 rfl (lv_at hl 0 rfl) ?_
      refine lv_dup hx hb dX3_traceBack_22 rfl ?_
      refine r_get C0 w 0 rfl kf_Se 5 (by decide) lf_RX3_27 rfl dX3_traceBack_23 ?_
      refine lv_iconst (v := (1 : Int32)) hx hb dX3_traceBack_26 (by decide) ?_
      refine lv_iadd hx hb dX3_traceBack_27 ?_
      refine lv_topi (fun v_length_1 ev_length_1 => ?_)
      have h := bnd_at ev_length_1 h
      refine r_put C0 w 0 rfl kf_Se 5 (by decide) lf_RX3_27 rfl rfl rfl (Nat.le_of_ble_eq_true rfl) dX3_traceBack_28 (ws' := (ws_Se_traceBack cI cJ cZ q_this q_seen q_queue q_origin q_arrival q_letters v_length_1 v_queued v_origin v_arrival v_letters)) rfl (fun H locs w => ?_)
      refine lv_aload_n hx hb dX3_traceBack_31 rfl (lv_at hl 0 rfl) ?_
      refine r_get C0 w 0 rfl kf_Se 2 (by decide) lf_RX3_18 rfl dX3_traceBack_32 ?_
      refine lv_iload_n hx hb dX3_traceBack_35 rfl (lv_at hl 2 rfl) ?_
      obtain ⟨hi, h⟩ := gIn_h h
      refine r_iald C0 w 1 rfl rfl hi dX3_traceBack_36 ?_
      refine lv_topi (fun x2_1 ex2_1 => ?_)
      have h := bnd_at ex2_1 h
      refine lv_istore_n (lv' := [(2, .int x2_1), (0, .ref q_this), (1, .int x1)]) hx hb dX3_traceBack_37 rfl hl (by decide) rfl (fun ls hl => ?_)
      refine lv_goto (tgt := 7) hx hb dX3_traceBack_38 (by decide) ?_
      exact hrec _ _ _ _ _ h w (lv_sub hl [1, 2, 0] rfl)
set_option maxRecDepth 100000 in
theorem wl_Se_traceBack_L7 {p : Program} {l : Launch} {e : Env} {s : State} {m : MethodId} {args : Array Value} {below : List Frame} {meth : Method} {c : Code} {Q : State → Prop} {A : Nat → Prop} {D : va_G} {cI cJ cZ cO : ClassId} {q_this q_seen q_queue q_origin q_arrival q_letters : Nat} {v_queued : Int32} {v_origin : (Nat → Int32)} {v_arrival : (Nat → Int32)} {v_letters : (Nat → Int32)} {x1 : Int32} {x : (Nat → Int32) × Int32} (C0 : Cx p s m args c A D cI cJ cZ cO cX3_traceBack 4 RX3) (hQ : RtV p l e rm_Se_traceBack s m args below meth c Q A D cX3_traceBack (ws_Se_traceBack cI cJ cZ q_this q_seen q_queue q_origin q_arrival q_letters x.2 v_queued v_origin v_arrival x.1)) {K : Int32 → Int32 → Option ((Nat → Int32) × Int32)} (hK : ∀ (x2 : Int32) (v_length : Int32) (H : Heap) (locs : List Loc) (ls : Array Slot), K x2 v_length = some x → Wd s A D (ws_Se_traceBack cI cJ cZ q_this q_seen q_queue q_origin q_arrival q_letters v_length v_queued v_origin v_arrival v_letters) H locs → lv_has ls 4 [(0, .ref q_this), (1, .int x1)] → W p l e rm_Se_traceBack s m args below meth c H locs 0 0 Q (F0 m 41 ls [])) : ∀ (n : Nat) (x2 : Int32) (v_length : Int32) (H : Heap) (locs : List Loc) (ls : Array Slot), itr (fun _ _ => none) (f_Se_traceBack_L7 v_origin K) n x2 v_length = some x → Wd s A D (ws_Se_traceBack cI cJ cZ q_this q_seen q_queue q_origin q_arrival q_letters v_length v_queued v_origin v_arrival v_letters) H locs → lv_has ls 4 [(0, .ref q_this), (1, .int x1), (2, .int x2)] → W p l e rm_Se_traceBack s m args below meth c H locs 0 0 Q (F0 m 7 ls []) := by
  intro n
  induction n with
  | zero => intro _ _ _ _ _ h; cases (show none = some _ from h)
  | succ n ih => intro _ _ _ _ _ h w hl; exact w_Se_traceBack_L7 C0 hQ hK ih _ _ h w hl
set_option maxRecDepth 100000 in
theorem w_Se_traceBack_L50 {p : Program} {l : Launch} {e : Env} {s : State} {m : MethodId} {args : Array Value} {below : List Frame} {meth : Method} {c : Code} {Q : State → Prop} {A : Nat → Prop} {D : va_G} {cI cJ cZ cO : ClassId} {q_this q_seen q_queue q_origin q_arrival q_letters : Nat} {v_length : Int32} {v_queued : Int32} {v_origin : (Nat → Int32)} {v_arrival : (Nat → Int32)} {x : (Nat → Int32) × Int32} (C0 : Cx p s m args c A D cI cJ cZ cO cX3_traceBack 4 RX3) (hQ : RtV p l e rm_Se_traceBack s m args below meth c Q A D cX3_traceBack (ws_Se_traceBack cI cJ cZ q_this q_seen q_queue q_origin q_arrival q_letters x.2 v_queued v_origin v_arrival x.1)) {K : Int32 → Int32 → (Nat → Int32) → Option ((Nat → Int32) × Int32)} (hK : ∀ (x2 : Int32) (x3 : Int32) (v_letters : (Nat → Int32)) (H : Heap) (locs : List Loc) (ls : Array Slot), K x2 x3 v_letters = some x → Wd s A D (ws_Se_traceBack cI cJ cZ q_this q_seen q_queue q_origin q_arrival q_letters v_length v_queued v_origin v_arrival v_letters) H locs → lv_has ls 4 [] → W p l e rm_Se_traceBack s m args below meth c H locs 0 0 Q (F0 m 79 ls [])) {rec : Int32 → Int32 → (Nat → Int32) → Option ((Nat → Int32) × Int32)} (hrec : ∀ (x2 : Int32) (x3 : Int32) (v_letters : (Nat → Int32)) (H : Heap) (locs : List Loc) (ls : Array Slot), rec x2 x3 v_letters = some x → Wd s A D (ws_Se_traceBack cI cJ cZ q_this q_seen q_queue q_origin q_arrival q_letters v_length v_queued v_origin v_arrival v_letters) H locs → lv_has ls 4 [(0, .ref q_this), (2, .int x2), (3, .int x3)] → W p l e rm_Se_traceBack s m args below meth c H locs 0 0 Q (F0 m 50 ls [])) (x2 : Int32) (x3 : Int32) (v_letters : (Nat → Int32)) {H : Heap} {locs : List Loc} {ls : Array Slot} (h : f_Se_traceBack_L50 v_origin v_arrival K rec x2 x3 v_letters = some x) (w : Wd s A D (ws_Se_traceBack cI cJ cZ q_this q_seen q_queue q_origin q_arrival q_letters v_length v_queued v_origin v_arrival v_letters) H locs) (hl : lv_has ls 4 [(0, .ref q_this), (2, .int x2), (3, .int x3)]) : W p l e rm_Se_traceBack s m args below meth c H locs 0 0 Q (F0 m 50 ls []) := by
  obtain ⟨hx, hb, hml, hown, hts, -, -⟩ := id C0
  unfold f_Se_traceBack_L50 at h
  refine lv_iload_n hx hb dX3_traceBack_50 rfl (lv_at hl 2 rfl) ?_
  refine lv_if_lt (tgt := 79) hx hb dX3_traceBack_51 (by decide) (fun hc => ?_) (fun hc => ?_)
  · have h := if_h hc h
    exact hK _ _ _ _ _ _ h w (lv_sub hl [] rfl)
  · have h := nf_h hc h
    refine lv_aload_n hx hb dX3_traceBack_54 rfl (lv_at hl 0 rfl) ?_
    refine r_get C0 w 0 rfl kf_Se 4 (by decide) lf_RX3_24 rfl dX3_traceBack_55 ?_
    refine lv_iload_n hx hb dX3_traceBack_58 rfl (lv_at hl 2 rfl) ?_
    refine lv_aload_n hx hb dX3_traceBack_59 rfl (lv_at hl 0 rfl) ?_
    refine r_get C0 w 0 rfl kf_Se 3 (by decide) lf_RX3_21 rfl dX3_traceBack_60 ?_
    refine lv_iload_n hx hb dX3_traceBack_63 rfl (lv_at hl 1 rfl) ?_
    obtain ⟨hi, h⟩ := gIn_h h
    refine r_iald C0 w 2 rfl rfl hi dX3_traceBack_64 ?_
    obtain ⟨hi, h⟩ := gIn_h h
    obtain ⟨v_letters_1, ev_letters_1⟩ : ∃ y, y = (upd v_letters x3.toNatClampNeg (v_arrival x2.toNatClampNeg)) := ⟨_, rfl⟩
    have h := bnd_at ev_letters_1 h
    refine r_iast C0 w 3 rfl (f' := v_letters_1) rfl hi ev_letters_1 dX3_traceBack_65 (ws' := (ws_Se_traceBack cI cJ cZ q_this q_seen q_queue q_origin q_arrival q_letters v_length v_queued v_origin v_arrival v_letters_1)) rfl (fun H locs w => ?_)
    refine lv_aload_n hx hb dX3_traceBack_66 rfl (lv_at hl 0 rfl) ?_
    refine r_get C0 w 0 rfl kf_Se 2 (by decide) lf_RX3_18 rfl dX3_traceBack_67 ?_
    refine lv_iload_n hx hb dX3_traceBack_70 rfl (lv_at hl 1 rfl) ?_
    obtain ⟨hi, h⟩ := gIn_h h
    refine r_iald C0 w 1 rfl rfl hi dX3_traceBack_71 ?_
    refine lv_topi (fun x2_1 ex2_1 => ?_)
    have h := bnd_at ex2_1 h
    refine lv_istore_n (lv' := [(2, .int x2_1), (0, .ref q_this), (3, .int x3)]) hx hb dX3_traceBack_72 rfl hl (by decide) rfl (fun ls hl => ?_)
    obtain ⟨x3_1, ex3_1⟩ : ∃ y : Int32, y = (x3 + (-1)) := ⟨_, rfl⟩
    have h := bnd_at ex3_1 h
    refine lv_iinc (v := x3_1) (lv' := [(3, .int x3_1), (2, .int x2_1), (0, .ref q_this)]) hx hb dX3_traceBack_73 hl (k := 2) rfl (by rw [ex3_1]; rfl) (by decide) rfl (fun ls hl => ?_)
    refine lv_goto (tgt := 50) hx hb dX3_traceBack_76 (by decide) ?_
    exact hrec _ _ _ _ _ _ h w (lv_sub hl [2, 1, 0] rfl)
set_option maxRecDepth 100000 in
theorem wl_Se_traceBack_L50 {p : Program} {l : Launch} {e : Env} {s : State} {m : MethodId} {args : Array Value} {below : List Frame} {meth : Method} {c : Code} {Q : State → Prop} {A : Nat → Prop} {D : va_G} {cI cJ cZ cO : ClassId} {q_this q_seen q_queue q_origin q_arrival q_letters : Nat} {v_length : Int32} {v_queued : Int32} {v_origin : (Nat → Int32)} {v_arrival : (Nat → Int32)} {x : (Nat → Int32) × Int32} (C0 : Cx p s m args c A D cI cJ cZ cO cX3_traceBack 4 RX3) (hQ : RtV p l e rm_Se_traceBack s m args below meth c Q A D cX3_traceBack (ws_Se_traceBack cI cJ cZ q_this q_seen q_queue q_origin q_arrival q_letters x.2 v_queued v_origin v_arrival x.1)) {K : Int32 → Int32 → (Nat → Int32) → Option ((Nat → Int32) × Int32)} (hK : ∀ (x2 : Int32) (x3 : Int32) (v_letters : (Nat → Int32)) (H : Heap) (locs : List Loc) (ls : Array Slot), K x2 x3 v_letters = some x → Wd s A D (ws_Se_traceBack cI cJ cZ q_this q_seen q_queue q_origin q_arrival q_letters v_length v_queued v_origin v_arrival v_letters) H locs → lv_has ls 4 [] → W p l e rm_Se_traceBack s m args below meth c H locs 0 0 Q (F0 m 79 ls [])) : ∀ (n : Nat) (x2 : Int32) (x3 : Int32) (v_letters : (Nat → Int32)) (H : Heap) (locs : List Loc) (ls : Array Slot), itr (fun _ _ _ => none) (f_Se_traceBack_L50 v_origin v_arrival K) n x2 x3 v_letters = some x → Wd s A D (ws_Se_traceBack cI cJ cZ q_this q_seen q_queue q_origin q_arrival q_letters v_length v_queued v_origin v_arrival v_letters) H locs → lv_has ls 4 [(0, .ref q_this), (2, .int x2), (3, .int x3)] → W p l e rm_Se_traceBack s m args below meth c H locs 0 0 Q (F0 m 50 ls []) := by
  intro n
  induction n with
  | zero => intro _ _ _ _ _ _ h; cases (show none = some _ from h)
  | succ n ih => intro _ _ _ _ _ _ h w hl; exact w_Se_traceBack_L50 C0 hQ hK ih _ _ _ h w hl
set_option maxRecDepth 100000 in
theorem c_Se_traceBack {l : Launch} {D : va_G} {cI cJ cZ cO : ClassId} {q_this q_seen q_queue q_origin q_arrival q_letters : Nat} {x1 : Int32} {v_length : Int32} {v_queued : Int32} {v_origin : (Nat → Int32)} {v_arrival : (Nat → Int32)} {v_letters : (Nat → Int32)} {x : (Nat → Int32) × Int32} (h : f_Se_traceBack x1 v_origin v_arrival v_letters = some x) : ctV l D cI cJ cZ cO yX3_traceBack cX3_traceBack 4 rm_Se_traceBack [.ref q_this, .int x1] (ws_Se_traceBack cI cJ cZ q_this q_seen q_queue q_origin q_arrival q_letters v_length v_queued v_origin v_arrival v_letters) (ws_Se_traceBack cI cJ cZ q_this q_seen q_queue q_origin q_arrival q_letters x.2 v_queued v_origin v_arrival x.1) := by
  refine ctV_of (by decide) (Nat.le_of_ble_eq_true rfl) ?_
  intro p e s m below meth c Q A ls C0 hQ w hl
  have hl : lv_has ls 4 [(0, .ref q_this), (1, .int x1)] := hl
  generalize List.toArray (α := Value) [.ref q_this, .int x1] = args at C0 hQ ⊢
  obtain ⟨hx, hb, hml, hown, hts, -, -⟩ := id C0
  unfold f_Se_traceBack at h
  refine lv_aload_n hx hb dX3_traceBack_0 rfl (lv_at hl 0 rfl) ?_
  refine lv_iconst (v := (0 : Int32)) hx hb dX3_traceBack_1 (by decide) ?_
  refine r_put C0 w 0 rfl kf_Se 5 (by decide) lf_RX3_27 rfl rfl rfl (Nat.le_of_ble_eq_true rfl) dX3_traceBack_2 (ws' := (ws_Se_traceBack cI cJ cZ q_this q_seen q_queue q_origin q_arrival q_letters (0 : Int32) v_queued v_origin v_arrival v_letters)) rfl (fun H locs w => ?_)
  refine lv_iload_n hx hb dX3_traceBack_5 rfl (lv_at hl 1 rfl) ?_
  refine lv_istore_n (lv' := [(2, .int x1), (0, .ref q_this), (1, .int x1)]) hx hb dX3_traceBack_6 rfl hl (by decide) rfl (fun ls hl => ?_)
  refine wl_Se_traceBack_L7 C0 hQ (fun x2 v_length_1 H locs ls h w hl => ?_) _ _ _ _ _ _ h w (lv_sub hl [1, 2, 0] rfl)
  refine lv_iload_n hx hb dX3_traceBack_41 rfl (lv_at hl 1 rfl) ?_
  refine lv_istore_n (lv' := [(2, .int x1), (0, .ref q_this), (1, .int x1)]) hx hb dX3_traceBack_42 rfl hl (by decide) rfl (fun ls hl => ?_)
  refine lv_aload_n hx hb dX3_traceBack_43 rfl (lv_at hl 1 rfl) ?_
  refine r_get C0 w 0 rfl kf_Se 5 (by decide) lf_RX3_27 rfl dX3_traceBack_44 ?_
  refine lv_iconst (v := (1 : Int32)) hx hb dX3_traceBack_47 (by decide) ?_
  refine lv_isub hx hb dX3_traceBack_48 ?_
  refine lv_topi (fun x3 ex3 => ?_)
  have h := bnd_at ex3 h
  refine lv_istore_n (lv' := [(3, .int x3), (2, .int x1), (0, .ref q_this), (1, .int x1)]) hx hb dX3_traceBack_49 rfl hl (by decide) rfl (fun ls hl => ?_)
  refine wl_Se_traceBack_L50 C0 hQ (fun x2_1 x3_1 v_letters_1 H locs ls h w hl => ?_) _ _ _ _ _ _ _ h w (lv_sub hl [2, 1, 0] rfl)
  cases h
  exact hQ _ _ _ _ dX3_traceBack_79 w
theorem dX3_findsDifference_0 : decode cX3_findsDifference 0 = .ok (.aload_n 0, 1) := by decide +kernel
theorem dX3_findsDifference_1 : decode cX3_findsDifference 1 = .ok (.getfield 11, 3) := by decide +kernel
theorem dX3_findsDifference_4 : decode cX3_findsDifference 4 = .ok (.iconst 0, 1) := by decide +kernel
theorem dX3_findsDifference_5 : decode cX3_findsDifference 5 = .ok (.invokestatic 34, 3) := by decide +kernel
theorem dX3_findsDifference_8 : decode cX3_findsDifference 8 = .ok (.aload_n 0, 1) := by decide +kernel
theorem dX3_findsDifference_9 : decode cX3_findsDifference 9 = .ok (.iconst 0, 1) := by decide +kernel
theorem dX3_findsDifference_10 : decode cX3_findsDifference 10 = .ok (.putfield 31, 3) := by decide +kernel
theorem dX3_findsDifference_13 : decode cX3_findsDifference 13 = .ok (.aload_n 0, 1) := by decide +kernel
theorem dX3_findsDifference_14 : decode cX3_findsDifference 14 = .ok (.iconst (-1), 1) := by decide +kernel
theorem dX3_findsDifference_15 : decode cX3_findsDifference 15 = .ok (.putfield 27, 3) := by decide +kernel
theorem dX3_findsDifference_18 : decode cX3_findsDifference 18 = .ok (.aload_n 0, 1) := by decide +kernel
theorem dX3_findsDifference_19 : decode cX3_findsDifference 19 = .ok (.iload_n 2, 1) := by decide +kernel
theorem dX3_findsDifference_20 : decode cX3_findsDifference 20 = .ok (.iload 4, 2) := by decide +kernel
theorem dX3_findsDifference_22 : decode cX3_findsDifference 22 = .ok (.iconst (-1), 1) := by decide +kernel
theorem dX3_findsDifference_23 : decode cX3_findsDifference 23 = .ok (.iconst (-1), 1) := by decide +kernel
theorem dX3_findsDifference_24 : decode cX3_findsDifference 24 = .ok (.invokevirtual 40, 3) := by decide +kernel
theorem dX3_findsDifference_27 : decode cX3_findsDifference 27 = .ok (.iconst 0, 1) := by decide +kernel
theorem dX3_findsDifference_28 : decode cX3_findsDifference 28 = .ok (.istore 5, 2) := by decide +kernel
theorem dX3_findsDifference_30 : decode cX3_findsDifference 30 = .ok (.iload 5, 2) := by decide +kernel
theorem dX3_findsDifference_32 : decode cX3_findsDifference 32 = .ok (.aload_n 0, 1) := by decide +kernel
theorem dX3_findsDifference_33 : decode cX3_findsDifference 33 = .ok (.getfield 31, 3) := by decide +kernel
theorem dX3_findsDifference_36 : decode cX3_findsDifference 36 = .ok (.if_icmp .ge 108, 3) := by decide +kernel
theorem dX3_findsDifference_39 : decode cX3_findsDifference 39 = .ok (.iload 5, 2) := by decide +kernel
theorem dX3_findsDifference_41 : decode cX3_findsDifference 41 = .ok (.sipush 320, 3) := by decide +kernel
theorem dX3_findsDifference_44 : decode cX3_findsDifference 44 = .ok (.if_icmp .ge 100, 3) := by decide +kernel
theorem dX3_findsDifference_47 : decode cX3_findsDifference 47 = .ok (.aload_n 0, 1) := by decide +kernel
theorem dX3_findsDifference_48 : decode cX3_findsDifference 48 = .ok (.getfield 15, 3) := by decide +kernel
theorem dX3_findsDifference_51 : decode cX3_findsDifference 51 = .ok (.iload 5, 2) := by decide +kernel
theorem dX3_findsDifference_53 : decode cX3_findsDifference 53 = .ok (.iaload, 1) := by decide +kernel
theorem dX3_findsDifference_54 : decode cX3_findsDifference 54 = .ok (.bipush 8, 2) := by decide +kernel
theorem dX3_findsDifference_56 : decode cX3_findsDifference 56 = .ok (.idiv, 1) := by decide +kernel
theorem dX3_findsDifference_57 : decode cX3_findsDifference 57 = .ok (.istore 6, 2) := by decide +kernel
theorem dX3_findsDifference_59 : decode cX3_findsDifference 59 = .ok (.aload_n 0, 1) := by decide +kernel
theorem dX3_findsDifference_60 : decode cX3_findsDifference 60 = .ok (.getfield 15, 3) := by decide +kernel
theorem dX3_findsDifference_63 : decode cX3_findsDifference 63 = .ok (.iload 5, 2) := by decide +kernel
theorem dX3_findsDifference_65 : decode cX3_findsDifference 65 = .ok (.iaload, 1) := by decide +kernel
theorem dX3_findsDifference_66 : decode cX3_findsDifference 66 = .ok (.bipush 8, 2) := by decide +kernel
theorem dX3_findsDifference_68 : decode cX3_findsDifference 68 = .ok (.irem, 1) := by decide +kernel
theorem dX3_findsDifference_69 : decode cX3_findsDifference 69 = .ok (.istore 7, 2) := by decide +kernel
theorem dX3_findsDifference_71 : decode cX3_findsDifference 71 = .ok (.aload_n 1, 1) := by decide +kernel
theorem dX3_findsDifference_72 : decode cX3_findsDifference 72 = .ok (.getfield 44, 3) := by decide +kernel
theorem dX3_findsDifference_75 : decode cX3_findsDifference 75 = .ok (.iload 6, 2) := by decide +kernel
theorem dX3_findsDifference_77 : decode cX3_findsDifference 77 = .ok (.iaload, 1) := by decide +kernel
theorem dX3_findsDifference_78 : decode cX3_findsDifference 78 = .ok (.aload_n 3, 1) := by decide +kernel
theorem dX3_findsDifference_79 : decode cX3_findsDifference 79 = .ok (.getfield 44, 3) := by decide +kernel
theorem dX3_findsDifference_82 : decode cX3_findsDifference 82 = .ok (.iload 7, 2) := by decide +kernel
theorem dX3_findsDifference_84 : decode cX3_findsDifference 84 = .ok (.iaload, 1) := by decide +kernel
theorem dX3_findsDifference_85 : decode cX3_findsDifference 85 = .ok (.if_icmp .eq 11, 3) := by decide +kernel
theorem dX3_findsDifference_88 : decode cX3_findsDifference 88 = .ok (.aload_n 0, 1) := by decide +kernel
theorem dX3_findsDifference_89 : decode cX3_findsDifference 89 = .ok (.iload 5, 2) := by decide +kernel
theorem dX3_findsDifference_91 : decode cX3_findsDifference 91 = .ok (.invokevirtual 49, 3) := by decide +kernel
theorem dX3_findsDifference_94 : decode cX3_findsDifference 94 = .ok (.iconst 1, 1) := by decide +kernel
theorem dX3_findsDifference_95 : decode cX3_findsDifference 95 = .ok (.ireturn, 1) := by decide +kernel
theorem dX3_findsDifference_96 : decode cX3_findsDifference 96 = .ok (.iconst 0, 1) := by decide +kernel
theorem dX3_findsDifference_97 : decode cX3_findsDifference 97 = .ok (.istore 8, 2) := by decide +kernel
theorem dX3_findsDifference_99 : decode cX3_findsDifference 99 = .ok (.iload 8, 2) := by decide +kernel
theorem dX3_findsDifference_101 : decode cX3_findsDifference 101 = .ok (.aload_n 3, 1) := by decide +kernel
theorem dX3_findsDifference_102 : decode cX3_findsDifference 102 = .ok (.getfield 53, 3) := by decide +kernel
theorem dX3_findsDifference_105 : decode cX3_findsDifference 105 = .ok (.if_icmp .ge 33, 3) := by decide +kernel
theorem dX3_findsDifference_108 : decode cX3_findsDifference 108 = .ok (.aload_n 0, 1) := by decide +kernel
theorem dX3_findsDifference_109 : decode cX3_findsDifference 109 = .ok (.aload_n 1, 1) := by decide +kernel
theorem dX3_findsDifference_110 : decode cX3_findsDifference 110 = .ok (.iload 6, 2) := by decide +kernel
theorem dX3_findsDifference_112 : decode cX3_findsDifference 112 = .ok (.iload 8, 2) := by decide +kernel
theorem dX3_findsDifference_114 : decode cX3_findsDifference 114 = .ok (.invokevirtual 55, 3) := by decide +kernel
theorem dX3_findsDifference_117 : decode cX3_findsDifference 117 = .ok (.aload_n 3, 1) := by decide +kernel
theorem dX3_findsDifference_118 : decode cX3_findsDifference 118 = .ok (.iload 7, 2) := by decide +kernel
theorem dX3_findsDifference_120 : decode cX3_findsDifference 120 = .ok (.iload 8, 2) := by decide +kernel
theorem dX3_findsDifference_122 : decode cX3_findsDifference 122 = .ok (.invokevirtual 55, 3) := by decide +kernel
theorem dX3_findsDifference_125 : decode cX3_findsDifference 125 = .ok (.iload 5, 2) := by decide +kernel
theorem dX3_findsDifference_127 : decode cX3_findsDifference 127 = .ok (.iload 8, 2) := by decide +kernel
theorem dX3_findsDifference_129 : decode cX3_findsDifference 129 = .ok (.invokevirtual 40, 3) := by decide +kernel
theorem dX3_findsDifference_132 : decode cX3_findsDifference 132 = .ok (.iinc 8 1, 3) := by decide +kernel
theorem dX3_findsDifference_135 : decode cX3_findsDifference 135 = .ok (.goto (-36), 3) := by decide +kernel
theorem dX3_findsDifference_138 : decode cX3_findsDifference 138 = .ok (.iinc 5 1, 3) := by decide +kernel
theorem dX3_findsDifference_141 : decode cX3_findsDifference 141 = .ok (.goto (-111), 3) := by decide +kernel
theorem dX3_findsDifference_144 : decode cX3_findsDifference 144 = .ok (.iconst 0, 1) := by decide +kernel
theorem dX3_findsDifference_145 : decode cX3_findsDifference 145 = .ok (.ireturn, 1) := by decide +kernel
set_option maxRecDepth 100000 in
theorem w_Se_findsDifference_L99 {p : Program} {l : Launch} {e : Env} {s : State} {m : MethodId} {args : Array Value} {below : List Frame} {meth : Method} {c : Code} {Q : State → Prop} {A : Nat → Prop} {D : va_G} {cI cJ cZ cO : ClassId} {q_this q_seen q_queue q_origin q_arrival q_letters q_o1 q_o1_moves q_o1_finals q_o3 q_o3_moves q_o3_finals : Nat} {n_o1_moves n_o1_finals n_o3_moves n_o3_finals : Nat} {v_length : Int32} {v_letters : (Nat → Int32)} {v_o1_size : Int32} {v_o1_letters : Int32} {v_o1_moves : (Nat → Int32)} {v_o1_finals : (Nat → Int32)} {v_o3_size : Int32} {v_o3_letters : Int32} {v_o3_moves : (Nat → Int32)} {v_o3_finals : (Nat → Int32)} {x5 : Int32} {x6 : Int32} {x7 : Int32} {x : Int32 × (Nat → Int32) × (Nat → Int32) × (Nat → Int32) × (Nat → Int32) × (Nat → Int32) × Int32 × Int32} (C0 : Cx p s m args c A D cI cJ cZ cO cX3_findsDifference 9 RX3) (hQ : RtI p l e rm_Se_findsDifference s m args below meth c Q A D cX3_findsDifference .boolean (ws_Se_findsDifference cI cJ cZ q_this q_seen q_queue q_origin q_arrival q_letters q_o1 q_o1_moves q_o1_finals q_o3 q_o3_moves q_o3_finals n_o1_moves n_o1_finals n_o3_moves n_o3_finals x.2.2.2.2.2.2.1 x.2.2.2.2.2.2.2 x.2.1 x.2.2.1 x.2.2.2.1 x.2.2.2.2.1 x.2.2.2.2.2.1 v_o1_size v_o1_letters v_o1_moves v_o1_finals v_o3_size v_o3_letters v_o3_moves v_o3_finals) x.1) {K : Int32 → (Nat → Int32) → (Nat → Int32) → (Nat → Int32) → (Nat → Int32) → Int32 → Option (Int32 × (Nat → Int32) × (Nat → Int32) × (Nat → Int32) × (Nat → Int32) × (Nat → Int32) × Int32 × Int32)} (hK : ∀ (x8 : Int32) (v_seen : (Nat → Int32)) (v_queue : (Nat → Int32)) (v_origin : (Nat → Int32)) (v_arrival : (Nat → Int32)) (v_queued : Int32) (H : Heap) (locs : List Loc) (ls : Array Slot), K x8 v_seen v_queue v_origin v_arrival v_queued = some x → Wd s A D (ws_Se_findsDifference cI cJ cZ q_this q_seen q_queue q_origin q_arrival q_letters q_o1 q_o1_moves q_o1_finals q_o3 q_o3_moves q_o3_finals n_o1_moves n_o1_finals n_o3_moves n_o3_finals v_length v_queued v_seen v_queue v_origin v_arrival v_letters v_o1_size v_o1_letters v_o1_moves v_o1_finals v_o3_size v_o3_letters v_o3_moves v_o3_finals) H locs → lv_has ls 9 [(0, .ref q_this), (1, .ref q_o1), (3, .ref q_o3), (5, .int x5)] → W p l e rm_Se_findsDifference s m args below meth c H locs 0 0 Q (F0 m 138 ls [])) {rec : Int32 → (Nat → Int32) → (Nat → Int32) → (Nat → Int32) → (Nat → Int32) → Int32 → Option (Int32 × (Nat → Int32) × (Nat → Int32) × (Nat → Int32) × (Nat → Int32) × (Nat → Int32) × Int32 × Int32)} (hrec : ∀ (x8 : Int32) (v_seen : (Nat → Int32)) (v_queue : (Nat → Int32)) (v_origin : (Nat → Int32)) (v_arrival : (Nat → Int32)) (v_queued : Int32) (H : Heap) (locs : List Loc) (ls : Array Slot), rec x8 v_seen v_queue v_origin v_arrival v_queued = some x → Wd s A D (ws_Se_findsDifference cI cJ cZ q_this q_seen q_queue q_origin q_arrival q_letters q_o1 q_o1_moves q_o1_finals q_o3 q_o3_moves q_o3_finals n_o1_moves n_o1_finals n_o3_moves n_o3_finals v_length v_queued v_seen v_queue v_origin v_arrival v_letters v_o1_size v_o1_letters v_o1_moves v_o1_finals v_o3_size v_o3_letters v_o3_moves v_o3_finals) H locs → lv_has ls 9 [(0, .ref q_this), (1, .ref q_o1), (3, .ref q_o3), (5, .int x5), (6, .int x6), (7, .int x7), (8, .int x8)] → W p l e rm_Se_findsDifference s m args below meth c H locs 0 0 Q (F0 m 99 ls [])) (x8 : Int32) (v_seen : (Nat → Int32)) (v_queue : (Nat → Int32)) (v_origin : (Nat → Int32)) (v_arrival : (Nat → Int32)) (v_queued : Int32) {H : Heap} {locs : List Loc} {ls : Array Slot} (h : f_Se_findsDifference_L99 n_o1_moves n_o3_moves v_o1_moves v_o3_letters v_o3_moves x5 x6 x7 K rec x8 v_seen v_queue v_origin v_arrival v_queued = some x) (w : Wd s A D (ws_Se_findsDifference cI cJ cZ q_this q_seen q_queue q_origin q_arrival q_letters q_o1 q_o1_moves q_o1_finals q_o3 q_o3_moves q_o3_finals n_o1_moves n_o1_finals n_o3_moves n_o3_finals v_length v_queued v_seen v_queue v_origin v_arrival v_letters v_o1_size v_o1_letters v_o1_moves v_o1_finals v_o3_size v_o3_letters v_o3_moves v_o3_finals) H locs) (hl : lv_has ls 9 [(0, .ref q_this), (1, .ref q_o1), (3, .ref q_o3), (5, .int x5), (6, .int x6), (7, .int x7), (8, .int x8)]) : W p l e rm_Se_findsDifference s m args below meth c H locs 0 0 Q (F0 m 99 ls []) := by
  obtain ⟨hx, hb, hml, hown, hts, -, -⟩ := id C0
  unfold f_Se_findsDifference_L99 at h
  refine lv_iload hx hb dX3_findsDifference_99 (lv_at hl 6 rfl) ?_
  refine lv_aload_n hx hb dX3_findsDifference_101 rfl (lv_at hl 2 rfl) ?_
  refine r_get C0 w 9 rfl kf_Au 3 (by decide) lf_RX3_53 rfl dX3_findsDifference_102 ?_
  refine lv_icmp_ge (tgt := 138) hx hb dX3_findsDifference_105 (by decide) (fun hc => ?_) (fun hc => ?_)
  · have h := if_h hc h
    exact hK _ _ _ _ _ _ _ _ _ h w (lv_sub hl [0, 1, 2, 3] rfl)
  · have h := nf_h hc h
    refine lv_aload_n hx hb dX3_findsDifference_108 rfl (lv_at hl 0 rfl) ?_
    refine lv_aload_n hx hb dX3_findsDifference_109 rfl (lv_at hl 1 rfl) ?_
    refine lv_iload hx hb dX3_findsDifference_110 (lv_at hl 4 rfl) ?_
    refine lv_iload hx hb dX3_findsDifference_112 (lv_at hl 6 rfl) ?_
    obtain ⟨r, hcall, h⟩ := bd1_h h
    obtain ⟨wr, hp, hp'⟩ := rd_of (ws := (ws_Se_findsDifference cI cJ cZ q_this q_seen q_queue q_origin q_arrival q_letters q_o1 q_o1_moves q_o1_finals q_o3 q_o3_moves q_o3_finals n_o1_moves n_o1_finals n_o3_moves n_o3_finals v_length v_queued v_seen v_queue v_origin v_arrival v_letters v_o1_size v_o1_letters v_o1_moves v_o1_finals v_o3_size v_o3_letters v_o3_moves v_o3_finals)) (wc := (ws_Au_next cI cJ cZ q_o1 q_o1_moves q_o1_finals n_o1_moves v_o1_size v_o1_letters v_o1_moves)) [6, 7] rfl rfl
    refine r_VI (r := r) (As := [.int x6, .int x8]) (rest := [.ref q_this]) (wc' := (ws_Au_next cI cJ cZ q_o1 q_o1_moves q_o1_finals n_o1_moves v_o1_size v_o1_letters v_o1_moves)) (ws' := (ws_Se_findsDifference cI cJ cZ q_this q_seen q_queue q_origin q_arrival q_letters q_o1 q_o1_moves q_o1_finals q_o3 q_o3_moves q_o3_finals n_o1_moves n_o1_finals n_o3_moves n_o3_finals v_length v_queued v_seen v_queue v_origin v_arrival v_letters v_o1_size v_o1_letters v_o1_moves v_o1_finals v_o3_size v_o3_letters v_o3_moves v_o3_finals)) C0 w (c_Au_next hcall) hp hp' lm_RX3_55 mv_Au_next ⟨rfl, rfl⟩ ⟨by decide, by decide⟩ ⟨Nat.zero_le _, Nat.zero_le _⟩ (q0 := 6) rfl rfl rfl rfl hl rfl (Nat.le_of_ble_eq_true rfl) dX3_findsDifference_114 (fun H locs w => ?_)
    refine lv_aload_n hx hb dX3_findsDifference_117 rfl (lv_at hl 2 rfl) ?_
    refine lv_iload hx hb dX3_findsDifference_118 (lv_at hl 5 rfl) ?_
    refine lv_iload hx hb dX3_findsDifference_120 (lv_at hl 6 rfl) ?_
    obtain ⟨r_1, hcall, h⟩ := bd1_h h
    obtain ⟨wr, hp, hp'⟩ := rd_of (ws := (ws_Se_findsDifference cI cJ cZ q_this q_seen q_queue q_origin q_arrival q_letters q_o1 q_o1_moves q_o1_finals q_o3 q_o3_moves q_o3_finals n_o1_moves n_o1_finals n_o3_moves n_o3_finals v_length v_queued v_seen v_queue v_origin v_arrival v_letters v_o1_size v_o1_letters v_o1_moves v_o1_finals v_o3_size v_o3_letters v_o3_moves v_o3_finals)) (wc := (ws_Au_next cI cJ cZ q_o3 q_o3_moves q_o3_finals n_o3_moves v_o3_size v_o3_letters v_o3_moves)) [9, 10] rfl rfl
    refine r_VI (r := r_1) (As := [.int x7, .int x8]) (rest := [.int r, .ref q_this]) (wc' := (ws_Au_next cI cJ cZ q_o3 q_o3_moves q_o3_finals n_o3_moves v_o3_size v_o3_letters v_o3_moves)) (ws' := (ws_Se_findsDifference cI cJ cZ q_this q_seen q_queue q_origin q_arrival q_letters q_o1 q_o1_moves q_o1_finals q_o3 q_o3_moves q_o3_finals n_o1_moves n_o1_finals n_o3_moves n_o3_finals v_length v_queued v_seen v_queue v_origin v_arrival v_letters v_o1_size v_o1_letters v_o1_moves v_o1_finals v_o3_size v_o3_letters v_o3_moves v_o3_finals)) C0 w (c_Au_next hcall) hp hp' lm_RX3_55 mv_Au_next ⟨rfl, rfl⟩ ⟨by decide, by decide⟩ ⟨Nat.zero_le _, Nat.zero_le _⟩ (q0 := 9) rfl rfl rfl rfl hl rfl (Nat.le_of_ble_eq_true rfl) dX3_findsDifference_122 (fun H locs w => ?_)
    refine lv_iload hx hb dX3_findsDifference_125 (lv_at hl 3 rfl) ?_
    refine lv_iload hx hb dX3_findsDifference_127 (lv_at hl 6 rfl) ?_
    obtain ⟨v_seen_1, v_queue_1, v_origin_1, v_arrival_1, v_queued_1, hcall, h⟩ := bd5_h h
    have hp := sp_of (ws := (ws_Se_findsDifference cI cJ cZ q_this q_seen q_queue q_origin q_arrival q_letters q_o1 q_o1_moves q_o1_finals q_o3 q_o3_moves q_o3_finals n_o1_moves n_o1_finals n_o3_moves n_o3_finals v_length v_queued v_seen v_queue v_origin v_arrival v_letters v_o1_size v_o1_letters v_o1_moves v_o1_finals v_o3_size v_o3_letters v_o3_moves v_o3_finals)) (wc := (ws_Se_meet cI cJ cZ q_this q_seen q_queue q_origin q_arrival q_letters v_length v_queued v_seen v_queue v_origin v_arrival)) [0, 1, 2, 3, 4] [5, 6, 7, 8, 9, 10, 11] rfl rfl
    have hp' : Rp (pk (ws_Se_findsDifference cI cJ cZ q_this q_seen q_queue q_origin q_arrival q_letters q_o1 q_o1_moves q_o1_finals q_o3 q_o3_moves q_o3_finals n_o1_moves n_o1_finals n_o3_moves n_o3_finals v_length v_queued v_seen v_queue v_origin v_arrival v_letters v_o1_size v_o1_letters v_o1_moves v_o1_finals v_o3_size v_o3_letters v_o3_moves v_o3_finals) [5, 6, 7, 8, 9, 10, 11] ++ (ws_Se_meet cI cJ cZ q_this q_seen q_queue q_origin q_arrival q_letters v_length v_queued_1 v_seen_1 v_queue_1 v_origin_1 v_arrival_1)) (ws_Se_findsDifference cI cJ cZ q_this q_seen q_queue q_origin q_arrival q_letters q_o1 q_o1_moves q_o1_finals q_o3 q_o3_moves q_o3_finals n_o1_moves n_o1_finals n_o3_moves n_o3_finals v_length v_queued_1 v_seen_1 v_queue_1 v_origin_1 v_arrival_1 v_letters v_o1_size v_o1_letters v_o1_moves v_o1_finals v_o3_size v_o3_letters v_o3_moves v_o3_finals) := ⟨[7, 8, 9, 10, 11, 0, 1, 2, 3, 4, 5, 6], rfl, rfl⟩
    refine r_VV (As := [.int r, .int r_1, .int x5, .int x8]) (rest := []) (wc' := (ws_Se_meet cI cJ cZ q_this q_seen q_queue q_origin q_arrival q_letters v_length v_queued_1 v_seen_1 v_queue_1 v_origin_1 v_arrival_1)) (ws' := (ws_Se_findsDifference cI cJ cZ q_this q_seen q_queue q_origin q_arrival q_letters q_o1 q_o1_moves q_o1_finals q_o3 q_o3_moves q_o3_finals n_o1_moves n_o1_finals n_o3_moves n_o3_finals v_length v_queued_1 v_seen_1 v_queue_1 v_origin_1 v_arrival_1 v_letters v_o1_size v_o1_letters v_o1_moves v_o1_finals v_o3_size v_o3_letters v_o3_moves v_o3_finals)) C0 w (c_Se_meet hcall) hp hp' lm_RX3_40 mv_Se_meet ⟨rfl, rfl⟩ ⟨by decide, by decide⟩ ⟨Nat.zero_le _, Nat.zero_le _⟩ (q0 := 0) rfl rfl rfl rfl hl rfl (Nat.le_of_ble_eq_true rfl) dX3_findsDifference_129 (fun H locs w => ?_)
    obtain ⟨x8_1, ex8_1⟩ : ∃ y : Int32, y = (x8 + 1) := ⟨_, rfl⟩
    have h := bnd_at ex8_1 h
    refine lv_iinc (v := x8_1) (lv' := [(8, .int x8_1), (0, .ref q_this), (1, .ref q_o1), (3, .ref q_o3), (5, .int x5), (6, .int x6), (7, .int x7)]) hx hb dX3_findsDifference_132 hl (k := 6) rfl (by rw [ex8_1]; rfl) (by decide) rfl (fun ls hl => ?_)
    refine lv_goto (tgt := 99) hx hb dX3_findsDifference_135 (by decide) ?_
    exact hrec _ _ _ _ _ _ _ _ _ h w (lv_sub hl [1, 2, 3, 4, 5, 6, 0] rfl)
set_option maxRecDepth 100000 in
theorem wl_Se_findsDifference_L99 {p : Program} {l : Launch} {e : Env} {s : State} {m : MethodId} {args : Array Value} {below : List Frame} {meth : Method} {c : Code} {Q : State → Prop} {A : Nat → Prop} {D : va_G} {cI cJ cZ cO : ClassId} {q_this q_seen q_queue q_origin q_arrival q_letters q_o1 q_o1_moves q_o1_finals q_o3 q_o3_moves q_o3_finals : Nat} {n_o1_moves n_o1_finals n_o3_moves n_o3_finals : Nat} {v_length : Int32} {v_letters : (Nat → Int32)} {v_o1_size : Int32} {v_o1_letters : Int32} {v_o1_moves : (Nat → Int32)} {v_o1_finals : (Nat → Int32)} {v_o3_size : Int32} {v_o3_letters : Int32} {v_o3_moves : (Nat → Int32)} {v_o3_finals : (Nat → Int32)} {x5 : Int32} {x6 : Int32} {x7 : Int32} {x : Int32 × (Nat → Int32) × (Nat → Int32) × (Nat → Int32) × (Nat → Int32) × (Nat → Int32) × Int32 × Int32} (C0 : Cx p s m args c A D cI cJ cZ cO cX3_findsDifference 9 RX3) (hQ : RtI p l e rm_Se_findsDifference s m args below meth c Q A D cX3_findsDifference .boolean (ws_Se_findsDifference cI cJ cZ q_this q_seen q_queue q_origin q_arrival q_letters q_o1 q_o1_moves q_o1_finals q_o3 q_o3_moves q_o3_finals n_o1_moves n_o1_finals n_o3_moves n_o3_finals x.2.2.2.2.2.2.1 x.2.2.2.2.2.2.2 x.2.1 x.2.2.1 x.2.2.2.1 x.2.2.2.2.1 x.2.2.2.2.2.1 v_o1_size v_o1_letters v_o1_moves v_o1_finals v_o3_size v_o3_letters v_o3_moves v_o3_finals) x.1) {K : Int32 → (Nat → Int32) → (Nat → Int32) → (Nat → Int32) → (Nat → Int32) → Int32 → Option (Int32 × (Nat → Int32) × (Nat → Int32) × (Nat → Int32) × (Nat → Int32) × (Nat → Int32) × Int32 × Int32)} (hK : ∀ (x8 : Int32) (v_seen : (Nat → Int32)) (v_queue : (Nat → Int32)) (v_origin : (Nat → Int32)) (v_arrival : (Nat → Int32)) (v_queued : Int32) (H : Heap) (locs : List Loc) (ls : Array Slot), K x8 v_seen v_queue v_origin v_arrival v_queued = some x → Wd s A D (ws_Se_findsDifference cI cJ cZ q_this q_seen q_queue q_origin q_arrival q_letters q_o1 q_o1_moves q_o1_finals q_o3 q_o3_moves q_o3_finals n_o1_moves n_o1_finals n_o3_moves n_o3_finals v_length v_queued v_seen v_queue v_origin v_arrival v_letters v_o1_size v_o1_letters v_o1_moves v_o1_finals v_o3_size v_o3_letters v_o3_moves v_o3_finals) H locs → lv_has ls 9 [(0, .ref q_this), (1, .ref q_o1), (3, .ref q_o3), (5, .int x5)] → W p l e rm_Se_findsDifference s m args below meth c H locs 0 0 Q (F0 m 138 ls [])) : ∀ (n : Nat) (x8 : Int32) (v_seen : (Nat → Int32)) (v_queue : (Nat → Int32)) (v_origin : (Nat → Int32)) (v_arrival : (Nat → Int32)) (v_queued : Int32) (H : Heap) (locs : List Loc) (ls : Array Slot), itr (fun _ _ _ _ _ _ => none) (f_Se_findsDifference_L99 n_o1_moves n_o3_moves v_o1_moves v_o3_letters v_o3_moves x5 x6 x7 K) n x8 v_seen v_queue v_origin v_arrival v_queued = some x → Wd s A D (ws_Se_findsDifference cI cJ cZ q_this q_seen q_queue q_origin q_arrival q_letters q_o1 q_o1_moves q_o1_finals q_o3 q_o3_moves q_o3_finals n_o1_moves n_o1_finals n_o3_moves n_o3_finals v_length v_queued v_seen v_queue v_origin v_arrival v_letters v_o1_size v_o1_letters v_o1_moves v_o1_finals v_o3_size v_o3_letters v_o3_moves v_o3_finals) H locs → lv_has ls 9 [(0, .ref q_this), (1, .ref q_o1), (3, .ref q_o3), (5, .int x5), (6, .int x6), (7, .int x7), (8, .int x8)] → W p l e rm_Se_findsDifference s m args below meth c H locs 0 0 Q (F0 m 99 ls []) := by
  intro n
  induction n with
  | zero => intro _ _ _ _ _ _ _ _ _ h; cases (show none = some _ from h)
  | succ n ih => intro _ _ _ _ _ _ _ _ _ h w hl; exact w_Se_findsDifference_L99 C0 hQ hK ih _ _ _ _ _ _ h w hl
set_option maxRecDepth 100000 in
theorem w_Se_findsDifference_L30 {p : Program} {l : Launch} {e : Env} {s : State} {m : MethodId} {args : Array Value} {below : List Frame} {meth : Method} {c : Code} {Q : State → Prop} {A : Nat → Prop} {D : va_G} {cI cJ cZ cO : ClassId} {q_this q_seen q_queue q_origin q_arrival q_letters q_o1 q_o1_moves q_o1_finals q_o3 q_o3_moves q_o3_finals : Nat} {n_o1_moves n_o1_finals n_o3_moves n_o3_finals : Nat} {v_length : Int32} {v_letters : (Nat → Int32)} {v_o1_size : Int32} {v_o1_letters : Int32} {v_o1_moves : (Nat → Int32)} {v_o1_finals : (Nat → Int32)} {v_o3_size : Int32} {v_o3_letters : Int32} {v_o3_moves : (Nat → Int32)} {v_o3_finals : (Nat → Int32)} {x : Int32 × (Nat → Int32) × (Nat → Int32) × (Nat → Int32) × (Nat → Int32) × (Nat → Int32) × Int32 × Int32} (C0 : Cx p s m args c A D cI cJ cZ cO cX3_findsDifference 9 RX3) (hQ : RtI p l e rm_Se_findsDifference s m args below meth c Q A D cX3_findsDifference .boolean (ws_Se_findsDifference cI cJ cZ q_this q_seen q_queue q_origin q_arrival q_letters q_o1 q_o1_moves q_o1_finals q_o3 q_o3_moves q_o3_finals n_o1_moves n_o1_finals n_o3_moves n_o3_finals x.2.2.2.2.2.2.1 x.2.2.2.2.2.2.2 x.2.1 x.2.2.1 x.2.2.2.1 x.2.2.2.2.1 x.2.2.2.2.2.1 v_o1_size v_o1_letters v_o1_moves v_o1_finals v_o3_size v_o3_letters v_o3_moves v_o3_finals) x.1) {K : Int32 → (Nat → Int32) → (Nat → Int32) → (Nat → Int32) → (Nat → Int32) → Int32 → Option (Int32 × (Nat → Int32) × (Nat → Int32) × (Nat → Int32) × (Nat → Int32) × (Nat → Int32) × Int32 × Int32)} (hK : ∀ (x5 : Int32) (v_seen : (Nat → Int32)) (v_queue : (Nat → Int32)) (v_origin : (Nat → Int32)) (v_arrival : (Nat → Int32)) (v_queued : Int32) (H : Heap) (locs : List Loc) (ls : Array Slot), K x5 v_seen v_queue v_origin v_arrival v_queued = some x → Wd s A D (ws_Se_findsDifference cI cJ cZ q_this q_seen q_queue q_origin q_arrival q_letters q_o1 q_o1_moves q_o1_finals q_o3 q_o3_moves q_o3_finals n_o1_moves n_o1_finals n_o3_moves n_o3_finals v_length v_queued v_seen v_queue v_origin v_arrival v_letters v_o1_size v_o1_letters v_o1_moves v_o1_finals v_o3_size v_o3_letters v_o3_moves v_o3_finals) H locs → lv_has ls 9 [] → W p l e rm_Se_findsDifference s m args below meth c H locs 0 0 Q (F0 m 144 ls [])) {rec : Int32 → (Nat → Int32) → (Nat → Int32) → (Nat → Int32) → (Nat → Int32) → Int32 → Option (Int32 × (Nat → Int32) × (Nat → Int32) × (Nat → Int32) × (Nat → Int32) × (Nat → Int32) × Int32 × Int32)} (hrec : ∀ (x5 : Int32) (v_seen : (Nat → Int32)) (v_queue : (Nat → Int32)) (v_origin : (Nat → Int32)) (v_arrival : (Nat → Int32)) (v_queued : Int32) (H : Heap) (locs : List Loc) (ls : Array Slot), rec x5 v_seen v_queue v_origin v_arrival v_queued = some x → Wd s A D (ws_Se_findsDifference cI cJ cZ q_this q_seen q_queue q_origin q_arrival q_letters q_o1 q_o1_moves q_o1_finals q_o3 q_o3_moves q_o3_finals n_o1_moves n_o1_finals n_o3_moves n_o3_finals v_length v_queued v_seen v_queue v_origin v_arrival v_letters v_o1_size v_o1_letters v_o1_moves v_o1_finals v_o3_size v_o3_letters v_o3_moves v_o3_finals) H locs → lv_has ls 9 [(0, .ref q_this), (1, .ref q_o1), (3, .ref q_o3), (5, .int x5)] → W p l e rm_Se_findsDifference s m args below meth c H locs 0 0 Q (F0 m 30 ls [])) (x5 : Int32) (v_seen : (Nat → Int32)) (v_queue : (Nat → Int32)) (v_origin : (Nat → Int32)) (v_arrival : (Nat → Int32)) (v_queued : Int32) {H : Heap} {locs : List Loc} {ls : Array Slot} (h : f_Se_findsDifference_L30 n_o1_moves n_o1_finals n_o3_moves n_o3_finals v_letters v_o1_moves v_o1_finals v_o3_letters v_o3_moves v_o3_finals K rec x5 v_seen v_queue v_origin v_arrival v_queued = some x) (w : Wd s A D (ws_Se_findsDifference cI cJ cZ q_this q_seen q_queue q_origin q_arrival q_letters q_o1 q_o1_moves q_o1_finals q_o3 q_o3_moves q_o3_finals n_o1_moves n_o1_finals n_o3_moves n_o3_finals v_length v_queued v_seen v_queue v_origin v_arrival v_letters v_o1_size v_o1_letters v_o1_moves v_o1_finals v_o3_size v_o3_letters v_o3_moves v_o3_finals) H locs) (hl : lv_has ls 9 [(0, .ref q_this), (1, .ref q_o1), (3, .ref q_o3), (5, .int x5)]) : W p l e rm_Se_findsDifference s m args below meth c H locs 0 0 Q (F0 m 30 ls []) := by
  obtain ⟨hx, hb, hml, hown, hts, -, -⟩ := id C0
  unfold f_Se_findsDifference_L30 at h
  refine lv_iload hx hb dX3_findsDifference_30 (lv_at hl 3 rfl) ?_
  refine lv_aload_n hx hb dX3_findsDifference_32 rfl (lv_at hl 0 rfl) ?_
  refine r_get C0 w 0 rfl kf_Se 6 (by decide) lf_RX3_31 rfl dX3_findsDifference_33 ?_
  refine lv_icmp_ge (tgt := 144) hx hb dX3_findsDifference_36 (by decide) (fun hc => ?_) (fun hc => ?_)
  · have h := if_h hc h
    exact hK _ _ _ _ _ _ _ _ _ h w (lv_sub hl [] rfl)
  · have h := nf_h hc h
    refine lv_iload hx hb dX3_findsDifference_39 (lv_at hl 3 rfl) ?_
    refine lv_sipush (v := (320 : Int32)) hx hb dX3_findsDifference_41 (by decide) ?_
    refine lv_icmp_ge (tgt := 144) hx hb dX3_findsDifference_44 (by decide) (fun hc => ?_) (fun hc => ?_)
    · have h := if_h hc h
      exact hK _ _ _ _ _ _ _ _ _ h w (lv_sub hl [] rfl)
    · have h := nf_h hc h
      refine lv_aload_n hx hb dX3_findsDifference_47 rfl (lv_at hl 0 rfl) ?_
      refine r_get C0 w 0 rfl kf_Se 1 (by decide) lf_RX3_15 rfl dX3_findsDifference_48 ?_
      refine lv_iload hx hb dX3_findsDifference_51 (lv_at hl 3 rfl) ?_
      obtain ⟨hi, h⟩ := gIn_h h
      refine r_iald C0 w 2 rfl rfl hi dX3_findsDifference_53 ?_
      refine lv_bipush (v := (8 : Int32)) hx hb dX3_findsDifference_54 (by decide) ?_
      refine lv_idiv hx hb dX3_findsDifference_56 (by decide) ?_
      refine lv_topi (fun x6 ex6 => ?_)
      have h := bnd_at ex6 h
      refine lv_istore (lv' := [(6, .int x6), (0, .ref q_this), (1, .ref q_o1), (3, .ref q_o3), (5, .int x5)]) hx hb dX3_findsDifference_57 hl (by decide) rfl (fun ls hl => ?_)
      refine lv_aload_n hx hb dX3_findsDifference_59 rfl (lv_at hl 1 rfl) ?_
      refine r_get C0 w 0 rfl kf_Se 1 (by decide) lf_RX3_15 rfl dX3_findsDifference_60 ?_
      refine lv_iload hx hb dX3_findsDifference_63 (lv_at hl 4 rfl) ?_
      obtain ⟨hi, h⟩ := gIn_h h
      refine r_iald C0 w 2 rfl rfl hi dX3_findsDifference_65 ?_
      refine lv_bipush (v := (8 : Int32)) hx hb dX3_findsDifference_66 (by decide) ?_
      refine lv_irem hx hb dX3_findsDifference_68 (by decide) ?_
      refine lv_topi (fun x7 ex7 => ?_)
      have h := bnd_at ex7 h
      refine lv_istore (lv' := [(7, .int x7), (6, .int x6), (0, .ref q_this), (1, .ref q_o1), (3, .ref q_o3), (5, .int x5)]) hx hb dX3_findsDifference_69 hl (by decide) rfl (fun ls hl => ?_)
      refine lv_aload_n hx hb dX3_findsDifference_71 rfl (lv_at hl 3 rfl) ?_
      refine r_get C0 w 6 rfl kf_Au 1 (by decide) lf_RX3_44 rfl dX3_findsDifference_72 ?_
      refine lv_iload hx hb dX3_findsDifference_75 (lv_at hl 1 rfl) ?_
      obtain ⟨hi, h⟩ := gIn_h h
      refine r_iald C0 w 8 rfl rfl hi dX3_findsDifference_77 ?_
      refine lv_aload_n hx hb dX3_findsDifference_78 rfl (lv_at hl 4 rfl) ?_
      refine r_get C0 w 9 rfl kf_Au 1 (by decide) lf_RX3_44 rfl dX3_findsDifference_79 ?_
      refine lv_iload hx hb dX3_findsDifference_82 (lv_at hl 0 rfl) ?_
      obtain ⟨hi, h⟩ := gIn_h h
      refine r_iald C0 w 11 rfl rfl hi dX3_findsDifference_84 ?_
      refine lv_icmp_eq (tgt := 96) hx hb dX3_findsDifference_85 (by decide) (fun hc => ?_) (fun hc => ?_)
      · have h := if_h hc h
        refine lv_iconst (v := (0 : Int32)) hx hb dX3_findsDifference_96 (by decide) ?_
        refine lv_istore (lv' := [(8, .int (0 : Int32)), (7, .int x7), (6, .int x6), (0, .ref q_this), (1, .ref q_o1), (3, .ref q_o3), (5, .int x5)]) hx hb dX3_findsDifference_97 hl (by decide) rfl (fun ls hl => ?_)
        refine wl_Se_findsDifference_L99 C0 hQ (fun x8 v_seen_1 v_queue_1 v_origin_1 v_arrival_1 v_queued_1 H locs ls h w hl => ?_) _ _ _ _ _ _ _ _ _ _ h w (lv_sub hl [3, 4, 5, 6, 2, 1, 0] rfl)
        obtain ⟨x5_1, ex5_1⟩ : ∃ y : Int32, y = (x5 + 1) := ⟨_, rfl⟩
        have h := bnd_at ex5_1 h
        refine lv_iinc (v := x5_1) (lv' := [(5, .int x5_1), (0, .ref q_this), (1, .ref q_o1), (3, .ref q_o3)]) hx hb dX3_findsDifference_138 hl (k := 3) rfl (by rw [ex5_1]; rfl) (by decide) rfl (fun ls hl => ?_)
        refine lv_goto (tgt := 30) hx hb dX3_findsDifference_141 (by decide) ?_
        exact hrec _ _ _ _ _ _ _ _ _ h w (lv_sub hl [1, 2, 3, 0] rfl)
      · have h := nf_h hc h
        refine lv_aload_n hx hb dX3_findsDifference_88 rfl (lv_at hl 2 rfl) ?_
        refine lv_iload hx hb dX3_findsDifference_89 (lv_at hl 5 rfl) ?_
        obtain ⟨v_letters_1, v_length_1, hcall, h⟩ := bd2_h h
        have hp := sp_of (ws := (ws_Se_findsDifference cI cJ cZ q_this q_seen q_queue q_origin q_arrival q_letters q_o1 q_o1_moves q_o1_finals q_o3 q_o3_moves q_o3_finals n_o1_moves n_o1_finals n_o3_moves n_o3_finals v_length v_queued v_seen v_queue v_origin v_arrival v_letters v_o1_size v_o1_letters v_o1_moves v_o1_finals v_o3_size v_o3_letters v_o3_moves v_o3_finals)) (wc := (ws_Se_traceBack cI cJ cZ q_this q_seen q_queue q_origin q_arrival q_letters v_length v_queued v_origin v_arrival v_letters)) [0, 3, 4, 5] [1, 2, 6, 7, 8, 9, 10, 11] rfl rfl
        have hp' : Rp (pk (ws_Se_findsDifference cI cJ cZ q_this q_seen q_queue q_origin q_arrival q_letters q_o1 q_o1_moves q_o1_finals q_o3 q_o3_moves q_o3_finals n_o1_moves n_o1_finals n_o3_moves n_o3_finals v_length v_queued v_seen v_queue v_origin v_arrival v_letters v_o1_size v_o1_letters v_o1_moves v_o1_finals v_o3_size v_o3_letters v_o3_moves v_o3_finals) [1, 2, 6, 7, 8, 9, 10, 11] ++ (ws_Se_traceBack cI cJ cZ q_this q_seen q_queue q_origin q_arrival q_letters v_length_1 v_queued v_origin v_arrival v_letters_1)) (ws_Se_findsDifference cI cJ cZ q_this q_seen q_queue q_origin q_arrival q_letters q_o1 q_o1_moves q_o1_finals q_o3 q_o3_moves q_o3_finals n_o1_moves n_o1_finals n_o3_moves n_o3_finals v_length_1 v_queued v_seen v_queue v_origin v_arrival v_letters_1 v_o1_size v_o1_letters v_o1_moves v_o1_finals v_o3_size v_o3_letters v_o3_moves v_o3_finals) := ⟨[8, 0, 1, 9, 10, 11, 2, 3, 4, 5, 6, 7], rfl, rfl⟩
        refine r_VV (As := [.int x5]) (rest := []) (wc' := (ws_Se_traceBack cI cJ cZ q_this q_seen q_queue q_origin q_arrival q_letters v_length_1 v_queued v_origin v_arrival v_letters_1)) (ws' := (ws_Se_findsDifference cI cJ cZ q_this q_seen q_queue q_origin q_arrival q_letters q_o1 q_o1_moves q_o1_finals q_o3 q_o3_moves q_o3_finals n_o1_moves n_o1_finals n_o3_moves n_o3_finals v_length_1 v_queued v_seen v_queue v_origin v_arrival v_letters_1 v_o1_size v_o1_letters v_o1_moves v_o1_finals v_o3_size v_o3_letters v_o3_moves v_o3_finals)) C0 w (c_Se_traceBack hcall) hp hp' lm_RX3_49 mv_Se_traceBack ⟨rfl, rfl⟩ ⟨by decide, by decide⟩ ⟨Nat.zero_le _, Nat.zero_le _⟩ (q0 := 0) rfl rfl rfl rfl hl rfl (Nat.le_of_ble_eq_true rfl) dX3_findsDifference_91 (fun H locs w => ?_)
        refine lv_iconst (v := (1 : Int32)) hx hb dX3_findsDifference_94 (by decide) ?_
        cases h
        exact hQ _ _ _ _ dX3_findsDifference_95 (gB_n (v := (1 : Int32)) (Or.inr rfl)) w
set_option maxRecDepth 100000 in
theorem wl_Se_findsDifference_L30 {p : Program} {l : Launch} {e : Env} {s : State} {m : MethodId} {args : Array Value} {below : List Frame} {meth : Method} {c : Code} {Q : State → Prop} {A : Nat → Prop} {D : va_G} {cI cJ cZ cO : ClassId} {q_this q_seen q_queue q_origin q_arrival q_letters q_o1 q_o1_moves q_o1_finals q_o3 q_o3_moves q_o3_finals : Nat} {n_o1_moves n_o1_finals n_o3_moves n_o3_finals : Nat} {v_length : Int32} {v_letters : (Nat → Int32)} {v_o1_size : Int32} {v_o1_letters : Int32} {v_o1_moves : (Nat → Int32)} {v_o1_finals : (Nat → Int32)} {v_o3_size : Int32} {v_o3_letters : Int32} {v_o3_moves : (Nat → Int32)} {v_o3_finals : (Nat → Int32)} {x : Int32 × (Nat → Int32) × (Nat → Int32) × (Nat → Int32) × (Nat → Int32) × (Nat → Int32) × Int32 × Int32} (C0 : Cx p s m args c A D cI cJ cZ cO cX3_findsDifference 9 RX3) (hQ : RtI p l e rm_Se_findsDifference s m args below meth c Q A D cX3_findsDifference .boolean (ws_Se_findsDifference cI cJ cZ q_this q_seen q_queue q_origin q_arrival q_letters q_o1 q_o1_moves q_o1_finals q_o3 q_o3_moves q_o3_finals n_o1_moves n_o1_finals n_o3_moves n_o3_finals x.2.2.2.2.2.2.1 x.2.2.2.2.2.2.2 x.2.1 x.2.2.1 x.2.2.2.1 x.2.2.2.2.1 x.2.2.2.2.2.1 v_o1_size v_o1_letters v_o1_moves v_o1_finals v_o3_size v_o3_letters v_o3_moves v_o3_finals) x.1) {K : Int32 → (Nat → Int32) → (Nat → Int32) → (Nat → Int32) → (Nat → Int32) → Int32 → Option (Int32 × (Nat → Int32) × (Nat → Int32) × (Nat → Int32) × (Nat → Int32) × (Nat → Int32) × Int32 × Int32)} (hK : ∀ (x5 : Int32) (v_seen : (Nat → Int32)) (v_queue : (Nat → Int32)) (v_origin : (Nat → Int32)) (v_arrival : (Nat → Int32)) (v_queued : Int32) (H : Heap) (locs : List Loc) (ls : Array Slot), K x5 v_seen v_queue v_origin v_arrival v_queued = some x → Wd s A D (ws_Se_findsDifference cI cJ cZ q_this q_seen q_queue q_origin q_arrival q_letters q_o1 q_o1_moves q_o1_finals q_o3 q_o3_moves q_o3_finals n_o1_moves n_o1_finals n_o3_moves n_o3_finals v_length v_queued v_seen v_queue v_origin v_arrival v_letters v_o1_size v_o1_letters v_o1_moves v_o1_finals v_o3_size v_o3_letters v_o3_moves v_o3_finals) H locs → lv_has ls 9 [] → W p l e rm_Se_findsDifference s m args below meth c H locs 0 0 Q (F0 m 144 ls [])) : ∀ (n : Nat) (x5 : Int32) (v_seen : (Nat → Int32)) (v_queue : (Nat → Int32)) (v_origin : (Nat → Int32)) (v_arrival : (Nat → Int32)) (v_queued : Int32) (H : Heap) (locs : List Loc) (ls : Array Slot), itr (fun _ _ _ _ _ _ => none) (f_Se_findsDifference_L30 n_o1_moves n_o1_finals n_o3_moves n_o3_finals v_letters v_o1_moves v_o1_finals v_o3_letters v_o3_moves v_o3_finals K) n x5 v_seen v_queue v_origin v_arrival v_queued = some x → Wd s A D (ws_Se_findsDifference cI cJ cZ q_this q_seen q_queue q_origin q_arrival q_letters q_o1 q_o1_moves q_o1_finals q_o3 q_o3_moves q_o3_finals n_o1_moves n_o1_finals n_o3_moves n_o3_finals v_length v_queued v_seen v_queue v_origin v_arrival v_letters v_o1_size v_o1_letters v_o1_moves v_o1_finals v_o3_size v_o3_letters v_o3_moves v_o3_finals) H locs → lv_has ls 9 [(0, .ref q_this), (1, .ref q_o1), (3, .ref q_o3), (5, .int x5)] → W p l e rm_Se_findsDifference s m args below meth c H locs 0 0 Q (F0 m 30 ls []) := by
  intro n
  induction n with
  | zero => intro _ _ _ _ _ _ _ _ _ h; cases (show none = some _ from h)
  | succ n ih => intro _ _ _ _ _ _ _ _ _ h w hl; exact w_Se_findsDifference_L30 C0 hQ hK ih _ _ _ _ _ _ h w hl
set_option maxRecDepth 100000 in
theorem c_Se_findsDifference {l : Launch} {D : va_G} {cI cJ cZ cO : ClassId} {q_this q_seen q_queue q_origin q_arrival q_letters q_o1 q_o1_moves q_o1_finals q_o3 q_o3_moves q_o3_finals : Nat} {n_o1_moves n_o1_finals n_o3_moves n_o3_finals : Nat} {x2 : Int32} {x4 : Int32} {v_length : Int32} {v_queued : Int32} {v_seen : (Nat → Int32)} {v_queue : (Nat → Int32)} {v_origin : (Nat → Int32)} {v_arrival : (Nat → Int32)} {v_letters : (Nat → Int32)} {v_o1_size : Int32} {v_o1_letters : Int32} {v_o1_moves : (Nat → Int32)} {v_o1_finals : (Nat → Int32)} {v_o3_size : Int32} {v_o3_letters : Int32} {v_o3_moves : (Nat → Int32)} {v_o3_finals : (Nat → Int32)} {x : Int32 × (Nat → Int32) × (Nat → Int32) × (Nat → Int32) × (Nat → Int32) × (Nat → Int32) × Int32 × Int32} (h : f_Se_findsDifference n_o1_moves n_o1_finals n_o3_moves n_o3_finals x2 x4 v_seen v_queue v_origin v_arrival v_letters v_o1_moves v_o1_finals v_o3_letters v_o3_moves v_o3_finals = some x) : ctI l D cI cJ cZ cO yX3_findsDifference cX3_findsDifference 9 .boolean rm_Se_findsDifference [.ref q_this, .ref q_o1, .int x2, .ref q_o3, .int x4] (ws_Se_findsDifference cI cJ cZ q_this q_seen q_queue q_origin q_arrival q_letters q_o1 q_o1_moves q_o1_finals q_o3 q_o3_moves q_o3_finals n_o1_moves n_o1_finals n_o3_moves n_o3_finals v_length v_queued v_seen v_queue v_origin v_arrival v_letters v_o1_size v_o1_letters v_o1_moves v_o1_finals v_o3_size v_o3_letters v_o3_moves v_o3_finals) (ws_Se_findsDifference cI cJ cZ q_this q_seen q_queue q_origin q_arrival q_letters q_o1 q_o1_moves q_o1_finals q_o3 q_o3_moves q_o3_finals n_o1_moves n_o1_finals n_o3_moves n_o3_finals x.2.2.2.2.2.2.1 x.2.2.2.2.2.2.2 x.2.1 x.2.2.1 x.2.2.2.1 x.2.2.2.2.1 x.2.2.2.2.2.1 v_o1_size v_o1_letters v_o1_moves v_o1_finals v_o3_size v_o3_letters v_o3_moves v_o3_finals) x.1 := by
  refine ctI_of (by decide) (Nat.le_of_ble_eq_true rfl) ?_
  intro p e s m below meth c Q A ls C0 hQ w hl
  have hl : lv_has ls 9 [(0, .ref q_this), (1, .ref q_o1), (2, .int x2), (3, .ref q_o3), (4, .int x4)] := hl
  generalize List.toArray (α := Value) [.ref q_this, .ref q_o1, .int x2, .ref q_o3, .int x4] = args at C0 hQ ⊢
  obtain ⟨hx, hb, hml, hown, hts, -, -⟩ := id C0
  unfold f_Se_findsDifference at h
  refine lv_aload_n hx hb dX3_findsDifference_0 rfl (lv_at hl 0 rfl) ?_
  refine r_get C0 w 0 rfl kf_Se 0 (by decide) lf_RX3_11 rfl dX3_findsDifference_1 ?_
  refine lv_iconst (v := (0 : Int32)) hx hb dX3_findsDifference_4 (by decide) ?_
  obtain ⟨v_seen_1, hcall, h⟩ := bd1_h h
  have hp := sp_of (ws := (ws_Se_findsDifference cI cJ cZ q_this q_seen q_queue q_origin q_arrival q_letters q_o1 q_o1_moves q_o1_finals q_o3 q_o3_moves q_o3_finals n_o1_moves n_o1_finals n_o3_moves n_o3_finals v_length v_queued v_seen v_queue v_origin v_arrival v_letters v_o1_size v_o1_letters v_o1_moves v_o1_finals v_o3_size v_o3_letters v_o3_moves v_o3_finals)) (wc := (ws_Ar_fill cI cJ cZ q_seen 320 v_seen)) [1] [0, 2, 3, 4, 5, 6, 7, 8, 9, 10, 11] rfl rfl
  have hp' : Rp (pk (ws_Se_findsDifference cI cJ cZ q_this q_seen q_queue q_origin q_arrival q_letters q_o1 q_o1_moves q_o1_finals q_o3 q_o3_moves q_o3_finals n_o1_moves n_o1_finals n_o3_moves n_o3_finals v_length v_queued v_seen v_queue v_origin v_arrival v_letters v_o1_size v_o1_letters v_o1_moves v_o1_finals v_o3_size v_o3_letters v_o3_moves v_o3_finals) [0, 2, 3, 4, 5, 6, 7, 8, 9, 10, 11] ++ (ws_Ar_fill cI cJ cZ q_seen 320 v_seen_1)) (ws_Se_findsDifference cI cJ cZ q_this q_seen q_queue q_origin q_arrival q_letters q_o1 q_o1_moves q_o1_finals q_o3 q_o3_moves q_o3_finals n_o1_moves n_o1_finals n_o3_moves n_o3_finals v_length v_queued v_seen_1 v_queue v_origin v_arrival v_letters v_o1_size v_o1_letters v_o1_moves v_o1_finals v_o3_size v_o3_letters v_o3_moves v_o3_finals) := ⟨[0, 11, 1, 2, 3, 4, 5, 6, 7, 8, 9, 10], rfl, rfl⟩
  refine r_SV (As := [.ref q_seen, .int (0 : Int32)]) (rest := []) (wc' := (ws_Ar_fill cI cJ cZ q_seen 320 v_seen_1)) (ws' := (ws_Se_findsDifference cI cJ cZ q_this q_seen q_queue q_origin q_arrival q_letters q_o1 q_o1_moves q_o1_finals q_o3 q_o3_moves q_o3_finals n_o1_moves n_o1_finals n_o3_moves n_o3_finals v_length v_queued v_seen_1 v_queue v_origin v_arrival v_letters v_o1_size v_o1_letters v_o1_moves v_o1_finals v_o3_size v_o3_letters v_o3_moves v_o3_finals)) C0 w (c_Ar_fill hcall) hp hp' lm_RX3_34 ms_Ar_fill ⟨rfl, rfl⟩ ⟨by decide, by decide⟩ ⟨Nat.zero_le _, Nat.zero_le _⟩ rfl hl rfl (Nat.le_of_ble_eq_true rfl) dX3_findsDifference_5 (fun H locs w => ?_)
  refine lv_aload_n hx hb dX3_findsDifference_8 rfl (lv_at hl 0 rfl) ?_
  refine lv_iconst (v := (0 : Int32)) hx hb dX3_findsDifference_9 (by decide) ?_
  refine r_put C0 w 0 rfl kf_Se 6 (by decide) lf_RX3_31 rfl rfl rfl (Nat.le_of_ble_eq_true rfl) dX3_findsDifference_10 (ws' := (ws_Se_findsDifference cI cJ cZ q_this q_seen q_queue q_origin q_arrival q_letters q_o1 q_o1_moves q_o1_finals q_o3 q_o3_moves q_o3_finals n_o1_moves n_o1_finals n_o3_moves n_o3_finals v_length (0 : Int32) v_seen_1 v_queue v_origin v_arrival v_letters v_o1_size v_o1_letters v_o1_moves v_o1_finals v_o3_size v_o3_letters v_o3_moves v_o3_finals)) rfl (fun H locs w => ?_)
  refine lv_aload_n hx hb dX3_findsDifference_13 rfl (lv_at hl 0 rfl) ?_
  refine lv_iconst (v := (-1 : Int32)) hx hb dX3_findsDifference_14 (by decide) ?_
  refine r_put C0 w 0 rfl kf_Se 5 (by decide) lf_RX3_27 rfl rfl rfl (Nat.le_of_ble_eq_true rfl) dX3_findsDifference_15 (ws' := (ws_Se_findsDifference cI cJ cZ q_this q_seen q_queue q_origin q_arrival q_letters q_o1 q_o1_moves q_o1_finals q_o3 q_o3_moves q_o3_finals n_o1_moves n_o1_finals n_o3_moves n_o3_finals (-1 : Int32) (0 : Int32) v_seen_1 v_queue v_origin v_arrival v_letters v_o1_size v_o1_letters v_o1_moves v_o1_finals v_o3_size v_o3_letters v_o3_moves v_o3_finals)) rfl (fun H locs w => ?_)
  refine lv_aload_n hx hb dX3_findsDifference_18 rfl (lv_at hl 0 rfl) ?_
  refine lv_iload_n hx hb dX3_findsDifference_19 rfl (lv_at hl 2 rfl) ?_
  refine lv_iload hx hb dX3_findsDifference_20 (lv_at hl 4 rfl) ?_
  refine lv_iconst (v := (-1 : Int32)) hx hb dX3_findsDifference_22 (by decide) ?_
  refine lv_iconst (v := (-1 : Int32)) hx hb dX3_findsDifference_23 (by decide) ?_
  obtain ⟨v_seen_2, v_queue_1, v_origin_1, v_arrival_1, v_queued_1, hcall, h⟩ := bd5_h h
  have hp := sp_of (ws := (ws_Se_findsDifference cI cJ cZ q_this q_seen q_queue q_origin q_arrival q_letters q_o1 q_o1_moves q_o1_finals q_o3 q_o3_moves q_o3_finals n_o1_moves n_o1_finals n_o3_moves n_o3_finals (-1 : Int32) (0 : Int32) v_seen_1 v_queue v_origin v_arrival v_letters v_o1_size v_o1_letters v_o1_moves v_o1_finals v_o3_size v_o3_letters v_o3_moves v_o3_finals)) (wc := (ws_Se_meet cI cJ cZ q_this q_seen q_queue q_origin q_arrival q_letters (-1 : Int32) (0 : Int32) v_seen_1 v_queue v_origin v_arrival)) [0, 1, 2, 3, 4] [5, 6, 7, 8, 9, 10, 11] rfl rfl
  have hp' : Rp (pk (ws_Se_findsDifference cI cJ cZ q_this q_seen q_queue q_origin q_arrival q_letters q_o1 q_o1_moves q_o1_finals q_o3 q_o3_moves q_o3_finals n_o1_moves n_o1_finals n_o3_moves n_o3_finals (-1 : Int32) (0 : Int32) v_seen_1 v_queue v_origin v_arrival v_letters v_o1_size v_o1_letters v_o1_moves v_o1_finals v_o3_size v_o3_letters v_o3_moves v_o3_finals) [5, 6, 7, 8, 9, 10, 11] ++ (ws_Se_meet cI cJ cZ q_this q_seen q_queue q_origin q_arrival q_letters (-1 : Int32) v_queued_1 v_seen_2 v_queue_1 v_origin_1 v_arrival_1)) (ws_Se_findsDifference cI cJ cZ q_this q_seen q_queue q_origin q_arrival q_letters q_o1 q_o1_moves q_o1_finals q_o3 q_o3_moves q_o3_finals n_o1_moves n_o1_finals n_o3_moves n_o3_finals (-1 : Int32) v_queued_1 v_seen_2 v_queue_1 v_origin_1 v_arrival_1 v_letters v_o1_size v_o1_letters v_o1_moves v_o1_finals v_o3_size v_o3_letters v_o3_moves v_o3_finals) := ⟨[7, 8, 9, 10, 11, 0, 1, 2, 3, 4, 5, 6], rfl, rfl⟩
  refine r_VV (As := [.int x2, .int x4, .int (-1 : Int32), .int (-1 : Int32)]) (rest := []) (wc' := (ws_Se_meet cI cJ cZ q_this q_seen q_queue q_origin q_arrival q_letters (-1 : Int32) v_queued_1 v_seen_2 v_queue_1 v_origin_1 v_arrival_1)) (ws' := (ws_Se_findsDifference cI cJ cZ q_this q_seen q_queue q_origin q_arrival q_letters q_o1 q_o1_moves q_o1_finals q_o3 q_o3_moves q_o3_finals n_o1_moves n_o1_finals n_o3_moves n_o3_finals (-1 : Int32) v_queued_1 v_seen_2 v_queue_1 v_origin_1 v_arrival_1 v_letters v_o1_size v_o1_letters v_o1_moves v_o1_finals v_o3_size v_o3_letters v_o3_moves v_o3_finals)) C0 w (c_Se_meet hcall) hp hp' lm_RX3_40 mv_Se_meet ⟨rfl, rfl⟩ ⟨by decide, by decide⟩ ⟨Nat.zero_le _, Nat.zero_le _⟩ (q0 := 0) rfl rfl rfl rfl hl rfl (Nat.le_of_ble_eq_true rfl) dX3_findsDifference_24 (fun H locs w => ?_)
  refine lv_iconst (v := (0 : Int32)) hx hb dX3_findsDifference_27 (by decide) ?_
  refine lv_istore (lv' := [(5, .int (0 : Int32)), (0, .ref q_this), (1, .ref q_o1), (2, .int x2), (3, .ref q_o3), (4, .int x4)]) hx hb dX3_findsDifference_28 hl (by decide) rfl (fun ls hl => ?_)
  refine wl_Se_findsDifference_L30 C0 hQ (fun x5 v_seen_3 v_queue_2 v_origin_2 v_arrival_2 v_queued_2 H locs ls h w hl => ?_) _ _ _ _ _ _ _ _ _ _ h w (lv_sub hl [1, 2, 4, 0] rfl)
  refine lv_iconst (v := (0 : Int32)) hx hb dX3_findsDifference_144 (by decide) ?_
  cases h
  exact hQ _ _ _ _ dX3_findsDifference_145 (gB_n (v := (0 : Int32)) (Or.inl rfl)) w
set_option maxRecDepth 100000 in
theorem w_Se_findsDifference_a_L99 {p : Program} {l : Launch} {e : Env} {s : State} {m : MethodId} {args : Array Value} {below : List Frame} {meth : Method} {c : Code} {Q : State → Prop} {A : Nat → Prop} {D : va_G} {cI cJ cZ cO : ClassId} {q_this q_seen q_queue q_origin q_arrival q_letters q_o1 q_o1_moves q_o1_finals : Nat} {n_o1_moves n_o1_finals : Nat} {v_length : Int32} {v_letters : (Nat → Int32)} {v_o1_size : Int32} {v_o1_letters : Int32} {v_o1_moves : (Nat → Int32)} {v_o1_finals : (Nat → Int32)} {x5 : Int32} {x6 : Int32} {x7 : Int32} {x : Int32 × (Nat → Int32) × (Nat → Int32) × (Nat → Int32) × (Nat → Int32) × (Nat → Int32) × Int32 × Int32} (C0 : Cx p s m args c A D cI cJ cZ cO cX3_findsDifference 9 RX3) (hQ : RtI p l e rm_Se_findsDifference_a s m args below meth c Q A D cX3_findsDifference .boolean (ws_Se_findsDifference_a cI cJ cZ q_this q_seen q_queue q_origin q_arrival q_letters q_o1 q_o1_moves q_o1_finals n_o1_moves n_o1_finals x.2.2.2.2.2.2.1 x.2.2.2.2.2.2.2 x.2.1 x.2.2.1 x.2.2.2.1 x.2.2.2.2.1 x.2.2.2.2.2.1 v_o1_size v_o1_letters v_o1_moves v_o1_finals) x.1) {K : Int32 → (Nat → Int32) → (Nat → Int32) → (Nat → Int32) → (Nat → Int32) → Int32 → Option (Int32 × (Nat → Int32) × (Nat → Int32) × (Nat → Int32) × (Nat → Int32) × (Nat → Int32) × Int32 × Int32)} (hK : ∀ (x8 : Int32) (v_seen : (Nat → Int32)) (v_queue : (Nat → Int32)) (v_origin : (Nat → Int32)) (v_arrival : (Nat → Int32)) (v_queued : Int32) (H : Heap) (locs : List Loc) (ls : Array Slot), K x8 v_seen v_queue v_origin v_arrival v_queued = some x → Wd s A D (ws_Se_findsDifference_a cI cJ cZ q_this q_seen q_queue q_origin q_arrival q_letters q_o1 q_o1_moves q_o1_finals n_o1_moves n_o1_finals v_length v_queued v_seen v_queue v_origin v_arrival v_letters v_o1_size v_o1_letters v_o1_moves v_o1_finals) H locs → lv_has ls 9 [(0, .ref q_this), (1, .ref q_o1), (3, .ref q_o1), (5, .int x5)] → W p l e rm_Se_findsDifference_a s m args below meth c H locs 0 0 Q (F0 m 138 ls [])) {rec : Int32 → (Nat → Int32) → (Nat → Int32) → (Nat → Int32) → (Nat → Int32) → Int32 → Option (Int32 × (Nat → Int32) × (Nat → Int32) × (Nat → Int32) × (Nat → Int32) × (Nat → Int32) × Int32 × Int32)} (hrec : ∀ (x8 : Int32) (v_seen : (Nat → Int32)) (v_queue : (Nat → Int32)) (v_origin : (Nat → Int32)) (v_arrival : (Nat → Int32)) (v_queued : Int32) (H : Heap) (locs : List Loc) (ls : Array Slot), rec x8 v_seen v_queue v_origin v_arrival v_queued = some x → Wd s A D (ws_Se_findsDifference_a cI cJ cZ q_this q_seen q_queue q_origin q_arrival q_letters q_o1 q_o1_moves q_o1_finals n_o1_moves n_o1_finals v_length v_queued v_seen v_queue v_origin v_arrival v_letters v_o1_size v_o1_letters v_o1_moves v_o1_finals) H locs → lv_has ls 9 [(0, .ref q_this), (1, .ref q_o1), (3, .ref q_o1), (5, .int x5), (6, .int x6), (7, .int x7), (8, .int x8)] → W p l e rm_Se_findsDifference_a s m args below meth c H locs 0 0 Q (F0 m 99 ls [])) (x8 : Int32) (v_seen : (Nat → Int32)) (v_queue : (Nat → Int32)) (v_origin : (Nat → Int32)) (v_arrival : (Nat → Int32)) (v_queued : Int32) {H : Heap} {locs : List Loc} {ls : Array Slot} (h : f_Se_findsDifference_a_L99 n_o1_moves v_o1_letters v_o1_moves x5 x6 x7 K rec x8 v_seen v_queue v_origin v_arrival v_queued = some x) (w : Wd s A D (ws_Se_findsDifference_a cI cJ cZ q_this q_seen q_queue q_origin q_arrival q_letters q_o1 q_o1_moves q_o1_finals n_o1_moves n_o1_finals v_length v_queued v_seen v_queue v_origin v_arrival v_letters v_o1_size v_o1_letters v_o1_moves v_o1_finals) H locs) (hl : lv_has ls 9 [(0, .ref q_this), (1, .ref q_o1), (3, .ref q_o1), (5, .int x5), (6, .int x6), (7, .int x7), (8, .int x8)]) : W p l e rm_Se_findsDifference_a s m args below meth c H locs 0 0 Q (F0 m 99 ls []) := by
  obtain ⟨hx, hb, hml, hown, hts, -, -⟩ := id C0
  unfold f_Se_findsDifference_a_L99 at h
  refine lv_iload hx hb dX3_findsDifference_99 (lv_at hl 6 rfl) ?_
  refine lv_aload_n hx hb dX3_findsDifference_101 rfl (lv_at hl 2 rfl) ?_
  refine r_get C0 w 6 rfl kf_Au 3 (by decide) lf_RX3_53 rfl dX3_findsDifference_102 ?_
  refine lv_icmp_ge (tgt := 138) hx hb dX3_findsDifference_105 (by decide) (fun hc => ?_) (fun hc => ?_)
  · have h := if_h hc h
    exact hK _ _ _ _ _ _ _ _ _ h w (lv_sub hl [0, 1, 2, 3] rfl)
  · have h := nf_h hc h
    refine lv_aload_n hx hb dX3_findsDifference_108 rfl (lv_at hl 0 rfl) ?_
    refine lv_aload_n hx hb dX3_findsDifference_109 rfl (lv_at hl 1 rfl) ?_
    refine lv_iload hx hb dX3_findsDifference_110 (lv_at hl 4 rfl) ?_
    refine lv_iload hx hb dX3_findsDifference_112 (lv_at hl 6 rfl) ?_
    obtain ⟨r, hcall, h⟩ := bd1_h h
    obtain ⟨wr, hp, hp'⟩ := rd_of (ws := (ws_Se_findsDifference_a cI cJ cZ q_this q_seen q_queue q_origin q_arrival q_letters q_o1 q_o1_moves q_o1_finals n_o1_moves n_o1_finals v_length v_queued v_seen v_queue v_origin v_arrival v_letters v_o1_size v_o1_letters v_o1_moves v_o1_finals)) (wc := (ws_Au_next cI cJ cZ q_o1 q_o1_moves q_o1_finals n_o1_moves v_o1_size v_o1_letters v_o1_moves)) [6, 7] rfl rfl
    refine r_VI (r := r) (As := [.int x6, .int x8]) (rest := [.ref q_this]) (wc' := (ws_Au_next cI cJ cZ q_o1 q_o1_moves q_o1_finals n_o1_moves v_o1_size v_o1_letters v_o1_moves)) (ws' := (ws_Se_findsDifference_a cI cJ cZ q_this q_seen q_queue q_origin q_arrival q_letters q_o1 q_o1_moves q_o1_finals n_o1_moves n_o1_finals v_length v_queued v_seen v_queue v_origin v_arrival v_letters v_o1_size v_o1_letters v_o1_moves v_o1_finals)) C0 w (c_Au_next hcall) hp hp' lm_RX3_55 mv_Au_next ⟨rfl, rfl⟩ ⟨by decide, by decide⟩ ⟨Nat.zero_le _, Nat.zero_le _⟩ (q0 := 6) rfl rfl rfl rfl hl rfl (Nat.le_of_ble_eq_true rfl) dX3_findsDifference_114 (fun H locs w => ?_)
    refine lv_aload_n hx hb dX3_findsDifference_117 rfl (lv_at hl 2 rfl) ?_
    refine lv_iload hx hb dX3_findsDifference_118 (lv_at hl 5 rfl) ?_
    refine lv_iload hx hb dX3_findsDifference_120 (lv_at hl 6 rfl) ?_
    obtain ⟨r_1, hcall, h⟩ := bd1_h h
    obtain ⟨wr, hp, hp'⟩ := rd_of (ws := (ws_Se_findsDifference_a cI cJ cZ q_this q_seen q_queue q_origin q_arrival q_letters q_o1 q_o1_moves q_o1_finals n_o1_moves n_o1_finals v_length v_queued v_seen v_queue v_origin v_arrival v_letters v_o1_size v_o1_letters v_o1_moves v_o1_finals)) (wc := (ws_Au_next cI cJ cZ q_o1 q_o1_moves q_o1_finals n_o1_moves v_o1_size v_o1_letters v_o1_moves)) [6, 7] rfl rfl
    refine r_VI (r := r_1) (As := [.int x7, .int x8]) (rest := [.int r, .ref q_this]) (wc' := (ws_Au_next cI cJ cZ q_o1 q_o1_moves q_o1_finals n_o1_moves v_o1_size v_o1_letters v_o1_moves)) (ws' := (ws_Se_findsDifference_a cI cJ cZ q_this q_seen q_queue q_origin q_arrival q_letters q_o1 q_o1_moves q_o1_finals n_o1_moves n_o1_finals v_length v_queued v_seen v_queue v_origin v_arrival v_letters v_o1_size v_o1_letters v_o1_moves v_o1_finals)) C0 w (c_Au_next hcall) hp hp' lm_RX3_55 mv_Au_next ⟨rfl, rfl⟩ ⟨by decide, by decide⟩ ⟨Nat.zero_le _, Nat.zero_le _⟩ (q0 := 6) rfl rfl rfl rfl hl rfl (Nat.le_of_ble_eq_true rfl) dX3_findsDifference_122 (fun H locs w => ?_)
    refine lv_iload hx hb dX3_findsDifference_125 (lv_at hl 3 rfl) ?_
    refine lv_iload hx hb dX3_findsDifference_127 (lv_at hl 6 rfl) ?_
    obtain ⟨v_seen_1, v_queue_1, v_origin_1, v_arrival_1, v_queued_1, hcall, h⟩ := bd5_h h
    have hp := sp_of (ws := (ws_Se_findsDifference_a cI cJ cZ q_this q_seen q_queue q_origin q_arrival q_letters q_o1 q_o1_moves q_o1_finals n_o1_moves n_o1_finals v_length v_queued v_seen v_queue v_origin v_arrival v_letters v_o1_size v_o1_letters v_o1_moves v_o1_finals)) (wc := (ws_Se_meet cI cJ cZ q_this q_seen q_queue q_origin q_arrival q_letters v_length v_queued v_seen v_queue v_origin v_arrival)) [0, 1, 2, 3, 4] [5, 6, 7, 8] rfl rfl
    have hp' : Rp (pk (ws_Se_findsDifference_a cI cJ cZ q_this q_seen q_queue q_origin q_arrival q_letters q_o1 q_o1_moves q_o1_finals n_o1_moves n_o1_finals v_length v_queued v_seen v_queue v_origin v_arrival v_letters v_o1_size v_o1_letters v_o1_moves v_o1_finals) [5, 6, 7, 8] ++ (ws_Se_meet cI cJ cZ q_this q_seen q_queue q_origin q_arrival q_letters v_length v_queued_1 v_seen_1 v_queue_1 v_origin_1 v_arrival_1)) (ws_Se_findsDifference_a cI cJ cZ q_this q_seen q_queue q_origin q_arrival q_letters q_o1 q_o1_moves q_o1_finals n_o1_moves n_o1_finals v_length v_queued_1 v_seen_1 v_queue_1 v_origin_1 v_arrival_1 v_letters v_o1_size v_o1_letters v_o1_moves v_o1_finals) := ⟨[4, 5, 6, 7, 8, 0, 1, 2, 3], rfl, rfl⟩
    refine r_VV (As := [.int r, .int r_1, .int x5, .int x8]) (rest := []) (wc' := (ws_Se_meet cI cJ cZ q_this q_seen q_queue q_origin q_arrival q_letters v_length v_queued_1 v_seen_1 v_queue_1 v_origin_1 v_arrival_1)) (ws' := (ws_Se_findsDifference_a cI cJ cZ q_this q_seen q_queue q_origin q_arrival q_letters q_o1 q_o1_moves q_o1_finals n_o1_moves n_o1_finals v_length v_queued_1 v_seen_1 v_queue_1 v_origin_1 v_arrival_1 v_letters v_o1_size v_o1_letters v_o1_moves v_o1_finals)) C0 w (c_Se_meet hcall) hp hp' lm_RX3_40 mv_Se_meet ⟨rfl, rfl⟩ ⟨by decide, by decide⟩ ⟨Nat.zero_le _, Nat.zero_le _⟩ (q0 := 0) rfl rfl rfl rfl hl rfl (Nat.le_of_ble_eq_true rfl) dX3_findsDifference_129 (fun H locs w => ?_)
    obtain ⟨x8_1, ex8_1⟩ : ∃ y : Int32, y = (x8 + 1) := ⟨_, rfl⟩
    have h := bnd_at ex8_1 h
    refine lv_iinc (v := x8_1) (lv' := [(8, .int x8_1), (0, .ref q_this), (1, .ref q_o1), (3, .ref q_o1), (5, .int x5), (6, .int x6), (7, .int x7)]) hx hb dX3_findsDifference_132 hl (k := 6) rfl (by rw [ex8_1]; rfl) (by decide) rfl (fun ls hl => ?_)
    refine lv_goto (tgt := 99) hx hb dX3_findsDifference_135 (by decide) ?_
    exact hrec _ _ _ _ _ _ _ _ _ h w (lv_sub hl [1, 2, 3, 4, 5, 6, 0] rfl)
set_option maxRecDepth 100000 in
theorem wl_Se_findsDifference_a_L99 {p : Program} {l : Launch} {e : Env} {s : State} {m : MethodId} {args : Array Value} {below : List Frame} {meth : Method} {c : Code} {Q : State → Prop} {A : Nat → Prop} {D : va_G} {cI cJ cZ cO : ClassId} {q_this q_seen q_queue q_origin q_arrival q_letters q_o1 q_o1_moves q_o1_finals : Nat} {n_o1_moves n_o1_finals : Nat} {v_length : Int32} {v_letters : (Nat → Int32)} {v_o1_size : Int32} {v_o1_letters : Int32} {v_o1_moves : (Nat → Int32)} {v_o1_finals : (Nat → Int32)} {x5 : Int32} {x6 : Int32} {x7 : Int32} {x : Int32 × (Nat → Int32) × (Nat → Int32) × (Nat → Int32) × (Nat → Int32) × (Nat → Int32) × Int32 × Int32} (C0 : Cx p s m args c A D cI cJ cZ cO cX3_findsDifference 9 RX3) (hQ : RtI p l e rm_Se_findsDifference_a s m args below meth c Q A D cX3_findsDifference .boolean (ws_Se_findsDifference_a cI cJ cZ q_this q_seen q_queue q_origin q_arrival q_letters q_o1 q_o1_moves q_o1_finals n_o1_moves n_o1_finals x.2.2.2.2.2.2.1 x.2.2.2.2.2.2.2 x.2.1 x.2.2.1 x.2.2.2.1 x.2.2.2.2.1 x.2.2.2.2.2.1 v_o1_size v_o1_letters v_o1_moves v_o1_finals) x.1) {K : Int32 → (Nat → Int32) → (Nat → Int32) → (Nat → Int32) → (Nat → Int32) → Int32 → Option (Int32 × (Nat → Int32) × (Nat → Int32) × (Nat → Int32) × (Nat → Int32) × (Nat → Int32) × Int32 × Int32)} (hK : ∀ (x8 : Int32) (v_seen : (Nat → Int32)) (v_queue : (Nat → Int32)) (v_origin : (Nat → Int32)) (v_arrival : (Nat → Int32)) (v_queued : Int32) (H : Heap) (locs : List Loc) (ls : Array Slot), K x8 v_seen v_queue v_origin v_arrival v_queued = some x → Wd s A D (ws_Se_findsDifference_a cI cJ cZ q_this q_seen q_queue q_origin q_arrival q_letters q_o1 q_o1_moves q_o1_finals n_o1_moves n_o1_finals v_length v_queued v_seen v_queue v_origin v_arrival v_letters v_o1_size v_o1_letters v_o1_moves v_o1_finals) H locs → lv_has ls 9 [(0, .ref q_this), (1, .ref q_o1), (3, .ref q_o1), (5, .int x5)] → W p l e rm_Se_findsDifference_a s m args below meth c H locs 0 0 Q (F0 m 138 ls [])) : ∀ (n : Nat) (x8 : Int32) (v_seen : (Nat → Int32)) (v_queue : (Nat → Int32)) (v_origin : (Nat → Int32)) (v_arrival : (Nat → Int32)) (v_queued : Int32) (H : Heap) (locs : List Loc) (ls : Array Slot), itr (fun _ _ _ _ _ _ => none) (f_Se_findsDifference_a_L99 n_o1_moves v_o1_letters v_o1_moves x5 x6 x7 K) n x8 v_seen v_queue v_origin v_arrival v_queued = some x → Wd s A D (ws_Se_findsDifference_a cI cJ cZ q_this q_seen q_queue q_origin q_arrival q_letters q_o1 q_o1_moves q_o1_finals n_o1_moves n_o1_finals v_length v_queued v_seen v_queue v_origin v_arrival v_letters v_o1_size v_o1_letters v_o1_moves v_o1_finals) H locs → lv_has ls 9 [(0, .ref q_this), (1, .ref q_o1), (3, .ref q_o1), (5, .int x5), (6, .int x6), (7, .int x7), (8, .int x8)] → W p l e rm_Se_findsDifference_a s m args below meth c H locs 0 0 Q (F0 m 99 ls []) := by
  intro n
  induction n with
  | zero => intro _ _ _ _ _ _ _ _ _ h; cases (show none = some _ from h)
  | succ n ih => intro _ _ _ _ _ _ _ _ _ h w hl; exact w_Se_findsDifference_a_L99 C0 hQ hK ih _ _ _ _ _ _ h w hl
set_option maxRecDepth 100000 in
theorem w_Se_findsDifference_a_L30 {p : Program} {l : Launch} {e : Env} {s : State} {m : MethodId} {args : Array Value} {below : List Frame} {meth : Method} {c : Code} {Q : State → Prop} {A : Nat → Prop} {D : va_G} {cI cJ cZ cO : ClassId} {q_this q_seen q_queue q_origin q_arrival q_letters q_o1 q_o1_moves q_o1_finals : Nat} {n_o1_moves n_o1_finals : Nat} {v_length : Int32} {v_letters : (Nat → Int32)} {v_o1_size : Int32} {v_o1_letters : Int32} {v_o1_moves : (Nat → Int32)} {v_o1_finals : (Nat → Int32)} {x : Int32 × (Nat → Int32) × (Nat → Int32) × (Nat → Int32) × (Nat → Int32) × (Nat → Int32) × Int32 × Int32} (C0 : Cx p s m args c A D cI cJ cZ cO cX3_findsDifference 9 RX3) (hQ : RtI p l e rm_Se_findsDifference_a s m args below meth c Q A D cX3_findsDifference .boolean (ws_Se_findsDifference_a cI cJ cZ q_this q_seen q_queue q_origin q_arrival q_letters q_o1 q_o1_moves q_o1_finals n_o1_moves n_o1_finals x.2.2.2.2.2.2.1 x.2.2.2.2.2.2.2 x.2.1 x.2.2.1 x.2.2.2.1 x.2.2.2.2.1 x.2.2.2.2.2.1 v_o1_size v_o1_letters v_o1_moves v_o1_finals) x.1) {K : Int32 → (Nat → Int32) → (Nat → Int32) → (Nat → Int32) → (Nat → Int32) → Int32 → Option (Int32 × (Nat → Int32) × (Nat → Int32) × (Nat → Int32) × (Nat → Int32) × (Nat → Int32) × Int32 × Int32)} (hK : ∀ (x5 : Int32) (v_seen : (Nat → Int32)) (v_queue : (Nat → Int32)) (v_origin : (Nat → Int32)) (v_arrival : (Nat → Int32)) (v_queued : Int32) (H : Heap) (locs : List Loc) (ls : Array Slot), K x5 v_seen v_queue v_origin v_arrival v_queued = some x → Wd s A D (ws_Se_findsDifference_a cI cJ cZ q_this q_seen q_queue q_origin q_arrival q_letters q_o1 q_o1_moves q_o1_finals n_o1_moves n_o1_finals v_length v_queued v_seen v_queue v_origin v_arrival v_letters v_o1_size v_o1_letters v_o1_moves v_o1_finals) H locs → lv_has ls 9 [] → W p l e rm_Se_findsDifference_a s m args below meth c H locs 0 0 Q (F0 m 144 ls [])) {rec : Int32 → (Nat → Int32) → (Nat → Int32) → (Nat → Int32) → (Nat → Int32) → Int32 → Option (Int32 × (Nat → Int32) × (Nat → Int32) × (Nat → Int32) × (Nat → Int32) × (Nat → Int32) × Int32 × Int32)} (hrec : ∀ (x5 : Int32) (v_seen : (Nat → Int32)) (v_queue : (Nat → Int32)) (v_origin : (Nat → Int32)) (v_arrival : (Nat → Int32)) (v_queued : Int32) (H : Heap) (locs : List Loc) (ls : Array Slot), rec x5 v_seen v_queue v_origin v_arrival v_queued = some x → Wd s A D (ws_Se_findsDifference_a cI cJ cZ q_this q_seen q_queue q_origin q_arrival q_letters q_o1 q_o1_moves q_o1_finals n_o1_moves n_o1_finals v_length v_queued v_seen v_queue v_origin v_arrival v_letters v_o1_size v_o1_letters v_o1_moves v_o1_finals) H locs → lv_has ls 9 [(0, .ref q_this), (1, .ref q_o1), (3, .ref q_o1), (5, .int x5)] → W p l e rm_Se_findsDifference_a s m args below meth c H locs 0 0 Q (F0 m 30 ls [])) (x5 : Int32) (v_seen : (Nat → Int32)) (v_queue : (Nat → Int32)) (v_origin : (Nat → Int32)) (v_arrival : (Nat → Int32)) (v_queued : Int32) {H : Heap} {locs : List Loc} {ls : Array Slot} (h : f_Se_findsDifference_a_L30 n_o1_moves n_o1_finals v_letters v_o1_letters v_o1_moves v_o1_finals K rec x5 v_seen v_queue v_origin v_arrival v_queued = some x) (w : Wd s A D (ws_Se_findsDifference_a cI cJ cZ q_this q_seen q_queue q_origin q_arrival q_letters q_o1 q_o1_moves q_o1_finals n_o1_moves n_o1_finals v_length v_queued v_seen v_queue v_origin v_arrival v_letters v_o1_size v_o1_letters v_o1_moves v_o1_finals) H locs) (hl : lv_has ls 9 [(0, .ref q_this), (1, .ref q_o1), (3, .ref q_o1), (5, .int x5)]) : W p l e rm_Se_findsDifference_a s m args below meth c H locs 0 0 Q (F0 m 30 ls []) := by
  obtain ⟨hx, hb, hml, hown, hts, -, -⟩ := id C0
  unfold f_Se_findsDifference_a_L30 at h
  refine lv_iload hx hb dX3_findsDifference_30 (lv_at hl 3 rfl) ?_
  refine lv_aload_n hx hb dX3_findsDifference_32 rfl (lv_at hl 0 rfl) ?_
  refine r_get C0 w 0 rfl kf_Se 6 (by decide) lf_RX3_31 rfl dX3_findsDifference_33 ?_
  refine lv_icmp_ge (tgt := 144) hx hb dX3_findsDifference_36 (by decide) (fun hc => ?_) (fun hc => ?_)
  · have h := if_h hc h
    exact hK _ _ _ _ _ _ _ _ _ h w (lv_sub hl [] rfl)
  · have h := nf_h hc h
    refine lv_iload hx hb dX3_findsDifference_39 (lv_at hl 3 rfl) ?_
    refine lv_sipush (v := (320 : Int32)) hx hb dX3_findsDifference_41 (by decide) ?_
    refine lv_icmp_ge (tgt := 144) hx hb dX3_findsDifference_44 (by decide) (fun hc => ?_) (fun hc => ?_)
    · have h := if_h hc h
      exact hK _ _ _ _ _ _ _ _ _ h w (lv_sub hl [] rfl)
    · have h := nf_h hc h
      refine lv_aload_n hx hb dX3_findsDifference_47 rfl (lv_at hl 0 rfl) ?_
      refine r_get C0 w 0 rfl kf_Se 1 (by decide) lf_RX3_15 rfl dX3_findsDifference_48 ?_
      refine lv_iload hx hb dX3_findsDifference_51 (lv_at hl 3 rfl) ?_
      obtain ⟨hi, h⟩ := gIn_h h
      refine r_iald C0 w 2 rfl rfl hi dX3_findsDifference_53 ?_
      refine lv_bipush (v := (8 : Int32)) hx hb dX3_findsDifference_54 (by decide) ?_
      refine lv_idiv hx hb dX3_findsDifference_56 (by decide) ?_
      refine lv_topi (fun x6 ex6 => ?_)
      have h := bnd_at ex6 h
      refine lv_istore (lv' := [(6, .int x6), (0, .ref q_this), (1, .ref q_o1), (3, .ref q_o1), (5, .int x5)]) hx hb dX3_findsDifference_57 hl (by decide) rfl (fun ls hl => ?_)
      refine lv_aload_n hx hb dX3_findsDifference_59 rfl (lv_at hl 1 rfl) ?_
      refine r_get C0 w 0 rfl kf_Se 1 (by decide) lf_RX3_15 rfl dX3_findsDifference_60 ?_
      refine lv_iload hx hb dX3_findsDifference_63 (lv_at hl 4 rfl) ?_
      obtain ⟨hi, h⟩ := gIn_h h
      refine r_iald C0 w 2 rfl rfl hi dX3_findsDifference_65 ?_
      refine lv_bipush (v := (8 : Int32)) hx hb dX3_findsDifference_66 (by decide) ?_
      refine lv_irem hx hb dX3_findsDifference_68 (by decide) ?_
      refine lv_topi (fun x7 ex7 => ?_)
      have h := bnd_at ex7 h
      refine lv_istore (lv' := [(7, .int x7), (6, .int x6), (0, .ref q_this), (1, .ref q_o1), (3, .ref q_o1), (5, .int x5)]) hx hb dX3_findsDifference_69 hl (by decide) rfl (fun ls hl => ?_)
      refine lv_aload_n hx hb dX3_findsDifference_71 rfl (lv_at hl 3 rfl) ?_
      refine r_get C0 w 6 rfl kf_Au 1 (by decide) lf_RX3_44 rfl dX3_findsDifference_72 ?_
      refine lv_iload hx hb dX3_findsDifference_75 (lv_at hl 1 rfl) ?_
      obtain ⟨hi, h⟩ := gIn_h h
      refine r_iald C0 w 8 rfl rfl hi dX3_findsDifference_77 ?_
      refine lv_aload_n hx hb dX3_findsDifference_78 rfl (lv_at hl 4 rfl) ?_
      refine r_get C0 w 6 rfl kf_Au 1 (by decide) lf_RX3_44 rfl dX3_findsDifference_79 ?_
      refine lv_iload hx hb dX3_findsDifference_82 (lv_at hl 0 rfl) ?_
      obtain ⟨hi, h⟩ := gIn_h h
      refine r_iald C0 w 8 rfl rfl hi dX3_findsDifference_84 ?_
      refine lv_icmp_eq (tgt := 96) hx hb dX3_findsDifference_85 (by decide) (fun hc => ?_) (fun hc => ?_)
      · have h := if_h hc h
        refine lv_iconst (v := (0 : Int32)) hx hb dX3_findsDifference_96 (by decide) ?_
        refine lv_istore (lv' := [(8, .int (0 : Int32)), (7, .int x7), (6, .int x6), (0, .ref q_this), (1, .ref q_o1), (3, .ref q_o1), (5, .int x5)]) hx hb dX3_findsDifference_97 hl (by decide) rfl (fun ls hl => ?_)
        refine wl_Se_findsDifference_a_L99 C0 hQ (fun x8 v_seen_1 v_queue_1 v_origin_1 v_arrival_1 v_queued_1 H locs ls h w hl => ?_) _ _ _ _ _ _ _ _ _ _ h w (lv_sub hl [3, 4, 5, 6, 2, 1, 0] rfl)
        obtain ⟨x5_1, ex5_1⟩ : ∃ y : Int32, y = (x5 + 1) := ⟨_, rfl⟩
        have h := bnd_at ex5_1 h
        refine lv_iinc (v := x5_1) (lv' := [(5, .int x5_1), (0, .ref q_this), (1, .ref q_o1), (3, .ref q_o1)]) hx hb dX3_findsDifference_138 hl (k := 3) rfl (by rw [ex5_1]; rfl) (by decide) rfl (fun ls hl => ?_)
        refine lv_goto (tgt := 30) hx hb dX3_findsDifference_141 (by decide) ?_
        exact hrec _ _ _ _ _ _ _ _ _ h w (lv_sub hl [1, 2, 3, 0] rfl)
      · have h := nf_h hc h
        refine lv_aload_n hx hb dX3_findsDifference_88 rfl (lv_at hl 2 rfl) ?_
        refine lv_iload hx hb dX3_findsDifference_89 (lv_at hl 5 rfl) ?_
        obtain ⟨v_letters_1, v_length_1, hcall, h⟩ := bd2_h h
        have hp := sp_of (ws := (ws_Se_findsDifference_a cI cJ cZ q_this q_seen q_queue q_origin q_arrival q_letters q_o1 q_o1_moves q_o1_finals n_o1_moves n_o1_finals v_length v_queued v_seen v_queue v_origin v_arrival v_letters v_o1_size v_o1_letters v_o1_moves v_o1_finals)) (wc := (ws_Se_traceBack cI cJ cZ q_this q_seen q_queue q_origin q_arrival q_letters v_length v_queued v_origin v_arrival v_letters)) [0, 3, 4, 5] [1, 2, 6, 7, 8] rfl rfl
        have hp' : Rp (pk (ws_Se_findsDifference_a cI cJ cZ q_this q_seen q_queue q_origin q_arrival q_letters q_o1 q_o1_moves q_o1_finals n_o1_moves n_o1_finals v_length v_queued v_seen v_queue v_origin v_arrival v_letters v_o1_size v_o1_letters v_o1_moves v_o1_finals) [1, 2, 6, 7, 8] ++ (ws_Se_traceBack cI cJ cZ q_this q_seen q_queue q_origin q_arrival q_letters v_length_1 v_queued v_origin v_arrival v_letters_1)) (ws_Se_findsDifference_a cI cJ cZ q_this q_seen q_queue q_origin q_arrival q_letters q_o1 q_o1_moves q_o1_finals n_o1_moves n_o1_finals v_length_1 v_queued v_seen v_queue v_origin v_arrival v_letters_1 v_o1_size v_o1_letters v_o1_moves v_o1_finals) := ⟨[5, 0, 1, 6, 7, 8, 2, 3, 4], rfl, rfl⟩
        refine r_VV (As := [.int x5]) (rest := []) (wc' := (ws_Se_traceBack cI cJ cZ q_this q_seen q_queue q_origin q_arrival q_letters v_length_1 v_queued v_origin v_arrival v_letters_1)) (ws' := (ws_Se_findsDifference_a cI cJ cZ q_this q_seen q_queue q_origin q_arrival q_letters q_o1 q_o1_moves q_o1_finals n_o1_moves n_o1_finals v_length_1 v_queued v_seen v_queue v_origin v_arrival v_letters_1 v_o1_size v_o1_letters v_o1_moves v_o1_finals)) C0 w (c_Se_traceBack hcall) hp hp' lm_RX3_49 mv_Se_traceBack ⟨rfl, rfl⟩ ⟨by decide, by decide⟩ ⟨Nat.zero_le _, Nat.zero_le _⟩ (q0 := 0) rfl rfl rfl rfl hl rfl (Nat.le_of_ble_eq_true rfl) dX3_findsDifference_91 (fun H locs w => ?_)
        refine lv_iconst (v := (1 : Int32)) hx hb dX3_findsDifference_94 (by decide) ?_
        cases h
        exact hQ _ _ _ _ dX3_findsDifference_95 (gB_n (v := (1 : Int32)) (Or.inr rfl)) w
set_option maxRecDepth 100000 in
theorem wl_Se_findsDifference_a_L30 {p : Program} {l : Launch} {e : Env} {s : State} {m : MethodId} {args : Array Value} {below : List Frame} {meth : Method} {c : Code} {Q : State → Prop} {A : Nat → Prop} {D : va_G} {cI cJ cZ cO : ClassId} {q_this q_seen q_queue q_origin q_arrival q_letters q_o1 q_o1_moves q_o1_finals : Nat} {n_o1_moves n_o1_finals : Nat} {v_length : Int32} {v_letters : (Nat → Int32)} {v_o1_size : Int32} {v_o1_letters : Int32} {v_o1_moves : (Nat → Int32)} {v_o1_finals : (Nat → Int32)} {x : Int32 × (Nat → Int32) × (Nat → Int32) × (Nat → Int32) × (Nat → Int32) × (Nat → Int32) × Int32 × Int32} (C0 : Cx p s m args c A D cI cJ cZ cO cX3_findsDifference 9 RX3) (hQ : RtI p l e rm_Se_findsDifference_a s m args below meth c Q A D cX3_findsDifference .boolean (ws_Se_findsDifference_a cI cJ cZ q_this q_seen q_queue q_origin q_arrival q_letters q_o1 q_o1_moves q_o1_finals n_o1_moves n_o1_finals x.2.2.2.2.2.2.1 x.2.2.2.2.2.2.2 x.2.1 x.2.2.1 x.2.2.2.1 x.2.2.2.2.1 x.2.2.2.2.2.1 v_o1_size v_o1_letters v_o1_moves v_o1_finals) x.1) {K : Int32 → (Nat → Int32) → (Nat → Int32) → (Nat → Int32) → (Nat → Int32) → Int32 → Option (Int32 × (Nat → Int32) × (Nat → Int32) × (Nat → Int32) × (Nat → Int32) × (Nat → Int32) × Int32 × Int32)} (hK : ∀ (x5 : Int32) (v_seen : (Nat → Int32)) (v_queue : (Nat → Int32)) (v_origin : (Nat → Int32)) (v_arrival : (Nat → Int32)) (v_queued : Int32) (H : Heap) (locs : List Loc) (ls : Array Slot), K x5 v_seen v_queue v_origin v_arrival v_queued = some x → Wd s A D (ws_Se_findsDifference_a cI cJ cZ q_this q_seen q_queue q_origin q_arrival q_letters q_o1 q_o1_moves q_o1_finals n_o1_moves n_o1_finals v_length v_queued v_seen v_queue v_origin v_arrival v_letters v_o1_size v_o1_letters v_o1_moves v_o1_finals) H locs → lv_has ls 9 [] → W p l e rm_Se_findsDifference_a s m args below meth c H locs 0 0 Q (F0 m 144 ls [])) : ∀ (n : Nat) (x5 : Int32) (v_seen : (Nat → Int32)) (v_queue : (Nat → Int32)) (v_origin : (Nat → Int32)) (v_arrival : (Nat → Int32)) (v_queued : Int32) (H : Heap) (locs : List Loc) (ls : Array Slot), itr (fun _ _ _ _ _ _ => none) (f_Se_findsDifference_a_L30 n_o1_moves n_o1_finals v_letters v_o1_letters v_o1_moves v_o1_finals K) n x5 v_seen v_queue v_origin v_arrival v_queued = some x → Wd s A D (ws_Se_findsDifference_a cI cJ cZ q_this q_seen q_queue q_origin q_arrival q_letters q_o1 q_o1_moves q_o1_finals n_o1_moves n_o1_finals v_length v_queued v_seen v_queue v_origin v_arrival v_letters v_o1_size v_o1_letters v_o1_moves v_o1_finals) H locs → lv_has ls 9 [(0, .ref q_this), (1, .ref q_o1), (3, .ref q_o1), (5, .int x5)] → W p l e rm_Se_findsDifference_a s m args below meth c H locs 0 0 Q (F0 m 30 ls []) := by
  intro n
  induction n with
  | zero => intro _ _ _ _ _ _ _ _ _ h; cases (show none = some _ from h)
  | succ n ih => intro _ _ _ _ _ _ _ _ _ h w hl; exact w_Se_findsDifference_a_L30 C0 hQ hK ih _ _ _ _ _ _ h w hl
set_option maxRecDepth 100000 in
theorem c_Se_findsDifference_a {l : Launch} {D : va_G} {cI cJ cZ cO : ClassId} {q_this q_seen q_queue q_origin q_arrival q_letters q_o1 q_o1_moves q_o1_finals : Nat} {n_o1_moves n_o1_finals : Nat} {x2 : Int32} {x4 : Int32} {v_length : Int32} {v_queued : Int32} {v_seen : (Nat → Int32)} {v_queue : (Nat → Int32)} {v_origin : (Nat → Int32)} {v_arrival : (Nat → Int32)} {v_letters : (Nat → Int32)} {v_o1_size : Int32} {v_o1_letters : Int32} {v_o1_moves : (Nat → Int32)} {v_o1_finals : (Nat → Int32)} {x : Int32 × (Nat → Int32) × (Nat → Int32) × (Nat → Int32) × (Nat → Int32) × (Nat → Int32) × Int32 × Int32} (h : f_Se_findsDifference_a n_o1_moves n_o1_finals x2 x4 v_seen v_queue v_origin v_arrival v_letters v_o1_letters v_o1_moves v_o1_finals = some x) : ctI l D cI cJ cZ cO yX3_findsDifference cX3_findsDifference 9 .boolean rm_Se_findsDifference_a [.ref q_this, .ref q_o1, .int x2, .ref q_o1, .int x4] (ws_Se_findsDifference_a cI cJ cZ q_this q_seen q_queue q_origin q_arrival q_letters q_o1 q_o1_moves q_o1_finals n_o1_moves n_o1_finals v_length v_queued v_seen v_queue v_origin v_arrival v_letters v_o1_size v_o1_letters v_o1_moves v_o1_finals) (ws_Se_findsDifference_a cI cJ cZ q_this q_seen q_queue q_origin q_arrival q_letters q_o1 q_o1_moves q_o1_finals n_o1_moves n_o1_finals x.2.2.2.2.2.2.1 x.2.2.2.2.2.2.2 x.2.1 x.2.2.1 x.2.2.2.1 x.2.2.2.2.1 x.2.2.2.2.2.1 v_o1_size v_o1_letters v_o1_moves v_o1_finals) x.1 := by
  refine ctI_of (by decide) (Nat.le_of_ble_eq_true rfl) ?_
  intro p e s m below meth c Q A ls C0 hQ w hl
  have hl : lv_has ls 9 [(0, .ref q_this), (1, .ref q_o1), (2, .int x2), (3, .ref q_o1), (4, .int x4)] := hl
  generalize List.toArray (α := Value) [.ref q_this, .ref q_o1, .int x2, .ref q_o1, .int x4] = args at C0 hQ ⊢
  obtain ⟨hx, hb, hml, hown, hts, -, -⟩ := id C0
  unfold f_Se_findsDifference_a at h
  refine lv_aload_n hx hb dX3_findsDifference_0 rfl (lv_at hl 0 rfl) ?_
  refine r_get C0 w 0 rfl kf_Se 0 (by decide) lf_RX3_11 rfl dX3_findsDifference_1 ?_
  refine lv_iconst (v := (0 : Int32)) hx hb dX3_findsDifference_4 (by decide) ?_
  obtain ⟨v_seen_1, hcall, h⟩ := bd1_h h
  have hp := sp_of (ws := (ws_Se_findsDifference_a cI cJ cZ q_this q_seen q_queue q_origin q_arrival q_letters q_o1 q_o1_moves q_o1_finals n_o1_moves n_o1_finals v_length v_queued v_seen v_queue v_origin v_arrival v_letters v_o1_size v_o1_letters v_o1_moves v_o1_finals)) (wc := (ws_Ar_fill cI cJ cZ q_seen 320 v_seen)) [1] [0, 2, 3, 4, 5, 6, 7, 8] rfl rfl
  have hp' : Rp (pk (ws_Se_findsDifference_a cI cJ cZ q_this q_seen q_queue q_origin q_arrival q_letters q_o1 q_o1_moves q_o1_finals n_o1_moves n_o1_finals v_length v_queued v_seen v_queue v_origin v_arrival v_letters v_o1_size v_o1_letters v_o1_moves v_o1_finals) [0, 2, 3, 4, 5, 6, 7, 8] ++ (ws_Ar_fill cI cJ cZ q_seen 320 v_seen_1)) (ws_Se_findsDifference_a cI cJ cZ q_this q_seen q_queue q_origin q_arrival q_letters q_o1 q_o1_moves q_o1_finals n_o1_moves n_o1_finals v_length v_queued v_seen_1 v_queue v_origin v_arrival v_letters v_o1_size v_o1_letters v_o1_moves v_o1_finals) := ⟨[0, 8, 1, 2, 3, 4, 5, 6, 7], rfl, rfl⟩
  refine r_SV (As := [.ref q_seen, .int (0 : Int32)]) (rest := []) (wc' := (ws_Ar_fill cI cJ cZ q_seen 320 v_seen_1)) (ws' := (ws_Se_findsDifference_a cI cJ cZ q_this q_seen q_queue q_origin q_arrival q_letters q_o1 q_o1_moves q_o1_finals n_o1_moves n_o1_finals v_length v_queued v_seen_1 v_queue v_origin v_arrival v_letters v_o1_size v_o1_letters v_o1_moves v_o1_finals)) C0 w (c_Ar_fill hcall) hp hp' lm_RX3_34 ms_Ar_fill ⟨rfl, rfl⟩ ⟨by decide, by decide⟩ ⟨Nat.zero_le _, Nat.zero_le _⟩ rfl hl rfl (Nat.le_of_ble_eq_true rfl) dX3_findsDifference_5 (fun H locs w => ?_)
  refine lv_aload_n hx hb dX3_findsDifference_8 rfl (lv_at hl 0 rfl) ?_
  refine lv_iconst (v := (0 : Int32)) hx hb dX3_findsDifference_9 (by decide) ?_
  refine r_put C0 w 0 rfl kf_Se 6 (by decide) lf_RX3_31 rfl rfl rfl (Nat.le_of_ble_eq_true rfl) dX3_findsDifference_10 (ws' := (ws_Se_findsDifference_a cI cJ cZ q_this q_seen q_queue q_origin q_arrival q_letters q_o1 q_o1_moves q_o1_finals n_o1_moves n_o1_finals v_length (0 : Int32) v_seen_1 v_queue v_origin v_arrival v_letters v_o1_size v_o1_letters v_o1_moves v_o1_finals)) rfl (fun H locs w => ?_)
  refine lv_aload_n hx hb dX3_findsDifference_13 rfl (lv_at hl 0 rfl) ?_
  refine lv_iconst (v := (-1 : Int32)) hx hb dX3_findsDifference_14 (by decide) ?_
  refine r_put C0 w 0 rfl kf_Se 5 (by decide) lf_RX3_27 rfl rfl rfl (Nat.le_of_ble_eq_true rfl) dX3_findsDifference_15 (ws' := (ws_Se_findsDifference_a cI cJ cZ q_this q_seen q_queue q_origin q_arrival q_letters q_o1 q_o1_moves q_o1_finals n_o1_moves n_o1_finals (-1 : Int32) (0 : Int32) v_seen_1 v_queue v_origin v_arrival v_letters v_o1_size v_o1_letters v_o1_moves v_o1_finals)) rfl (fun H locs w => ?_)
  refine lv_aload_n hx hb dX3_findsDifference_18 rfl (lv_at hl 0 rfl) ?_
  refine lv_iload_n hx hb dX3_findsDifference_19 rfl (lv_at hl 2 rfl) ?_
  refine lv_iload hx hb dX3_findsDifference_20 (lv_at hl 4 rfl) ?_
  refine lv_iconst (v := (-1 : Int32)) hx hb dX3_findsDifference_22 (by decide) ?_
  refine lv_iconst (v := (-1 : Int32)) hx hb dX3_findsDifference_23 (by decide) ?_
  obtain ⟨v_seen_2, v_queue_1, v_origin_1, v_arrival_1, v_queued_1, hcall, h⟩ := bd5_h h
  have hp := sp_of (ws := (ws_Se_findsDifference_a cI cJ cZ q_this q_seen q_queue q_origin q_arrival q_letters q_o1 q_o1_moves q_o1_finals n_o1_moves n_o1_finals (-1 : Int32) (0 : Int32) v_seen_1 v_queue v_origin v_arrival v_letters v_o1_size v_o1_letters v_o1_moves v_o1_finals)) (wc := (ws_Se_meet cI cJ cZ q_this q_seen q_queue q_origin q_arrival q_letters (-1 : Int32) (0 : Int32) v_seen_1 v_queue v_origin v_arrival)) [0, 1, 2, 3, 4] [5, 6, 7, 8] rfl rfl
  have hp' : Rp (pk (ws_Se_findsDifference_a cI cJ cZ q_this q_seen q_queue q_origin q_arrival q_letters q_o1 q_o1_moves q_o1_finals n_o1_moves n_o1_finals (-1 : Int32) (0 : Int32) v_seen_1 v_queue v_origin v_arrival v_letters v_o1_size v_o1_letters v_o1_moves v_o1_finals) [5, 6, 7, 8] ++ (ws_Se_meet cI cJ cZ q_this q_seen q_queue q_origin q_arrival q_letters (-1 : Int32) v_queued_1 v_seen_2 v_queue_1 v_origin_1 v_arrival_1)) (ws_Se_findsDifference_a cI cJ cZ q_this q_seen q_queue q_origin q_arrival q_letters q_o1 q_o1_moves q_o1_finals n_o1_moves n_o1_finals (-1 : Int32) v_queued_1 v_seen_2 v_queue_1 v_origin_1 v_arrival_1 v_letters v_o1_size v_o1_letters v_o1_moves v_o1_finals) := ⟨[4, 5, 6, 7, 8, 0, 1, 2, 3], rfl, rfl⟩
  refine r_VV (As := [.int x2, .int x4, .int (-1 : Int32), .int (-1 : Int32)]) (rest := []) (wc' := (ws_Se_meet cI cJ cZ q_this q_seen q_queue q_origin q_arrival q_letters (-1 : Int32) v_queued_1 v_seen_2 v_queue_1 v_origin_1 v_arrival_1)) (ws' := (ws_Se_findsDifference_a cI cJ cZ q_this q_seen q_queue q_origin q_arrival q_letters q_o1 q_o1_moves q_o1_finals n_o1_moves n_o1_finals (-1 : Int32) v_queued_1 v_seen_2 v_queue_1 v_origin_1 v_arrival_1 v_letters v_o1_size v_o1_letters v_o1_moves v_o1_finals)) C0 w (c_Se_meet hcall) hp hp' lm_RX3_40 mv_Se_meet ⟨rfl, rfl⟩ ⟨by decide, by decide⟩ ⟨Nat.zero_le _, Nat.zero_le _⟩ (q0 := 0) rfl rfl rfl rfl hl rfl (Nat.le_of_ble_eq_true rfl) dX3_findsDifference_24 (fun H locs w => ?_)
  refine lv_iconst (v := (0 : Int32)) hx hb dX3_findsDifference_27 (by decide) ?_
  refine lv_istore (lv' := [(5, .int (0 : Int32)), (0, .ref q_this), (1, .ref q_o1), (2, .int x2), (3, .ref q_o1), (4, .int x4)]) hx hb dX3_findsDifference_28 hl (by decide) rfl (fun ls hl => ?_)
  refine wl_Se_findsDifference_a_L30 C0 hQ (fun x5 v_seen_3 v_queue_2 v_origin_2 v_arrival_2 v_queued_2 H locs ls h w hl => ?_) _ _ _ _ _ _ _ _ _ _ h w (lv_sub hl [1, 2, 4, 0] rfl)
  refine lv_iconst (v := (0 : Int32)) hx hb dX3_findsDifference_144 (by decide) ?_
  cases h
  exact hQ _ _ _ _ dX3_findsDifference_145 (gB_n (v := (0 : Int32)) (Or.inl rfl)) w
theorem dX3_letterOrLength_0 : decode cX3_letterOrLength 0 = .ok (.iload_n 1, 1) := by decide +kernel
theorem dX3_letterOrLength_1 : decode cX3_letterOrLength 1 = .ok (.iconst (-1), 1) := by decide +kernel
theorem dX3_letterOrLength_2 : decode cX3_letterOrLength 2 = .ok (.if_icmp .ne 8, 3) := by decide +kernel
theorem dX3_letterOrLength_5 : decode cX3_letterOrLength 5 = .ok (.aload_n 0, 1) := by decide +kernel
theorem dX3_letterOrLength_6 : decode cX3_letterOrLength 6 = .ok (.getfield 27, 3) := by decide +kernel
theorem dX3_letterOrLength_9 : decode cX3_letterOrLength 9 = .ok (.ireturn, 1) := by decide +kernel
theorem dX3_letterOrLength_10 : decode cX3_letterOrLength 10 = .ok (.iload_n 1, 1) := by decide +kernel
theorem dX3_letterOrLength_11 : decode cX3_letterOrLength 11 = .ok (.aload_n 0, 1) := by decide +kernel
theorem dX3_letterOrLength_12 : decode cX3_letterOrLength 12 = .ok (.getfield 27, 3) := by decide +kernel
theorem dX3_letterOrLength_15 : decode cX3_letterOrLength 15 = .ok (.if_icmp .ge 12, 3) := by decide +kernel
theorem dX3_letterOrLength_18 : decode cX3_letterOrLength 18 = .ok (.aload_n 0, 1) := by decide +kernel
theorem dX3_letterOrLength_19 : decode cX3_letterOrLength 19 = .ok (.getfield 24, 3) := by decide +kernel
theorem dX3_letterOrLength_22 : decode cX3_letterOrLength 22 = .ok (.iload_n 1, 1) := by decide +kernel
theorem dX3_letterOrLength_23 : decode cX3_letterOrLength 23 = .ok (.iaload, 1) := by decide +kernel
theorem dX3_letterOrLength_24 : decode cX3_letterOrLength 24 = .ok (.goto 4, 3) := by decide +kernel
theorem dX3_letterOrLength_27 : decode cX3_letterOrLength 27 = .ok (.iconst (-1), 1) := by decide +kernel
theorem dX3_letterOrLength_28 : decode cX3_letterOrLength 28 = .ok (.ireturn, 1) := by decide +kernel
set_option maxRecDepth 100000 in
theorem c_Se_letterOrLength {l : Launch} {D : va_G} {cI cJ cZ cO : ClassId} {q_this q_seen q_queue q_origin q_arrival q_letters : Nat} {x1 : Int32} {v_length : Int32} {v_queued : Int32} {v_letters : (Nat → Int32)} {x : Int32} (h : f_Se_letterOrLength x1 v_length v_letters = some x) : ctI l D cI cJ cZ cO yX3_letterOrLength cX3_letterOrLength 2 .int rm_Se_letterOrLength [.ref q_this, .int x1] (ws_Se_letterOrLength cI cJ cZ q_this q_seen q_queue q_origin q_arrival q_letters v_length v_queued v_letters) (ws_Se_letterOrLength cI cJ cZ q_this q_seen q_queue q_origin q_arrival q_letters v_length v_queued v_letters) x := by
  refine ctI_of (by decide) (Nat.le_of_ble_eq_true rfl) ?_
  intro p e s m below meth c Q A ls C0 hQ w hl
  have hl : lv_has ls 2 [(0, .ref q_this), (1, .int x1)] := hl
  generalize List.toArray (α := Value) [.ref q_this, .int x1] = args at C0 hQ ⊢
  obtain ⟨hx, hb, hml, hown, hts, -, -⟩ := id C0
  unfold f_Se_letterOrLength at h
  refine lv_iload_n hx hb dX3_letterOrLength_0 rfl (lv_at hl 1 rfl) ?_
  refine lv_iconst (v := (-1 : Int32)) hx hb dX3_letterOrLength_1 (by decide) ?_
  refine lv_icmp_ne (tgt := 10) hx hb dX3_letterOrLength_2 (by decide) (fun hc => ?_) (fun hc => ?_)
  · have h := nf_h hc h
    refine lv_iload_n hx hb dX3_letterOrLength_10 rfl (lv_at hl 1 rfl) ?_
    refine lv_aload_n hx hb dX3_letterOrLength_11 rfl (lv_at hl 0 rfl) ?_
    refine r_get C0 w 0 rfl kf_Se 5 (by decide) lf_RX3_27 rfl dX3_letterOrLength_12 ?_
    refine lv_icmp_ge (tgt := 27) hx hb dX3_letterOrLength_15 (by decide) (fun hc => ?_) (fun hc => ?_)
    · have h := if_h hc h
      refine lv_iconst (v := (-1 : Int32)) hx hb dX3_letterOrLength_27 (by decide) ?_
      cases h
      exact hQ _ _ _ _ dX3_letterOrLength_28 rfl w
    · have h := nf_h hc h
      refine lv_aload_n hx hb dX3_letterOrLength_18 rfl (lv_at hl 0 rfl) ?_
      refine r_get C0 w 0 rfl kf_Se 4 (by decide) lf_RX3_24 rfl dX3_letterOrLength_19 ?_
      refine lv_iload_n hx hb dX3_letterOrLength_22 rfl (lv_at hl 1 rfl) ?_
      obtain ⟨hi, h⟩ := gIn_h h
      refine r_iald C0 w 1 rfl rfl hi dX3_letterOrLength_23 ?_
      refine lv_goto (tgt := 28) hx hb dX3_letterOrLength_24 (by decide) ?_
      cases h
      exact hQ _ _ _ _ dX3_letterOrLength_28 rfl w
  · have h := if_h hc h
    refine lv_aload_n hx hb dX3_letterOrLength_5 rfl (lv_at hl 0 rfl) ?_
    refine r_get C0 w 0 rfl kf_Se 5 (by decide) lf_RX3_27 rfl dX3_letterOrLength_6 ?_
    cases h
    exact hQ _ _ _ _ dX3_letterOrLength_9 rfl w
theorem dX9_distinguish_0 : decode cX9_distinguish 0 = .ok (.aload_n 0, 1) := by decide +kernel
theorem dX9_distinguish_1 : decode cX9_distinguish 1 = .ok (.getfield 10, 3) := by decide +kernel
theorem dX9_distinguish_4 : decode cX9_distinguish 4 = .ok (.getfield 35, 3) := by decide +kernel
theorem dX9_distinguish_7 : decode cX9_distinguish 7 = .ok (.getfield 39, 3) := by decide +kernel
theorem dX9_distinguish_10 : decode cX9_distinguish 10 = .ok (.astore 4, 2) := by decide +kernel
theorem dX9_distinguish_12 : decode cX9_distinguish 12 = .ok (.aload 4, 2) := by decide +kernel
theorem dX9_distinguish_14 : decode cX9_distinguish 14 = .ok (.iload_n 1, 1) := by decide +kernel
theorem dX9_distinguish_15 : decode cX9_distinguish 15 = .ok (.invokevirtual 57, 3) := by decide +kernel
theorem dX9_distinguish_18 : decode cX9_distinguish 18 = .ok (.ifCond .eq 17, 3) := by decide +kernel
theorem dX9_distinguish_21 : decode cX9_distinguish 21 = .ok (.aload 4, 2) := by decide +kernel
theorem dX9_distinguish_23 : decode cX9_distinguish 23 = .ok (.iload_n 2, 1) := by decide +kernel
theorem dX9_distinguish_24 : decode cX9_distinguish 24 = .ok (.invokevirtual 57, 3) := by decide +kernel
theorem dX9_distinguish_27 : decode cX9_distinguish 27 = .ok (.ifCond .eq 8, 3) := by decide +kernel
theorem dX9_distinguish_30 : decode cX9_distinguish 30 = .ok (.iload_n 3, 1) := by decide +kernel
theorem dX9_distinguish_31 : decode cX9_distinguish 31 = .ok (.iconst (-1), 1) := by decide +kernel
theorem dX9_distinguish_32 : decode cX9_distinguish 32 = .ok (.if_icmp .ge 6, 3) := by decide +kernel
theorem dX9_distinguish_35 : decode cX9_distinguish 35 = .ok (.bipush (-2), 2) := by decide +kernel
theorem dX9_distinguish_37 : decode cX9_distinguish 37 = .ok (.ireturn, 1) := by decide +kernel
theorem dX9_distinguish_38 : decode cX9_distinguish 38 = .ok (.aload_n 0, 1) := by decide +kernel
theorem dX9_distinguish_39 : decode cX9_distinguish 39 = .ok (.getfield 31, 3) := by decide +kernel
theorem dX9_distinguish_42 : decode cX9_distinguish 42 = .ok (.aload 4, 2) := by decide +kernel
theorem dX9_distinguish_44 : decode cX9_distinguish 44 = .ok (.iload_n 1, 1) := by decide +kernel
theorem dX9_distinguish_45 : decode cX9_distinguish 45 = .ok (.aload 4, 2) := by decide +kernel
theorem dX9_distinguish_47 : decode cX9_distinguish 47 = .ok (.iload_n 2, 1) := by decide +kernel
theorem dX9_distinguish_48 : decode cX9_distinguish 48 = .ok (.invokevirtual 99, 3) := by decide +kernel
theorem dX9_distinguish_51 : decode cX9_distinguish 51 = .ok (.pop, 1) := by decide +kernel
theorem dX9_distinguish_52 : decode cX9_distinguish 52 = .ok (.aload_n 0, 1) := by decide +kernel
theorem dX9_distinguish_53 : decode cX9_distinguish 53 = .ok (.getfield 31, 3) := by decide +kernel
theorem dX9_distinguish_56 : decode cX9_distinguish 56 = .ok (.iload_n 3, 1) := by decide +kernel
theorem dX9_distinguish_57 : decode cX9_distinguish 57 = .ok (.invokevirtual 103, 3) := by decide +kernel
theorem dX9_distinguish_60 : decode cX9_distinguish 60 = .ok (.ireturn, 1) := by decide +kernel
set_option maxRecDepth 100000 in
theorem c_TL_distinguish {l : Launch} {D : va_G} {cI cJ cZ cO : ClassId} {q_this q_world q_slots q_text q_search q_world_teacher q_world_learner q_world_teacher_machine q_world_teacher_lies q_world_teacher_machine_moves q_world_teacher_machine_finals q_search_seen q_search_queue q_search_origin q_search_arrival q_search_letters : Nat} {x1 : Int32} {x2 : Int32} {x3 : Int32} {v_textLength : Int32} {v_world_teacher_lieCount : Int32} {v_world_teacher_machine_size : Int32} {v_world_teacher_machine_letters : Int32} {v_world_teacher_machine_moves : (Nat → Int32)} {v_world_teacher_machine_finals : (Nat → Int32)} {v_search_length : Int32} {v_search_queued : Int32} {v_search_seen : (Nat → Int32)} {v_search_queue : (Nat → Int32)} {v_search_origin : (Nat → Int32)} {v_search_arrival : (Nat → Int32)} {v_search_letters : (Nat → Int32)} {x : Int32 × (Nat → Int32) × (Nat → Int32) × (Nat → Int32) × (Nat → Int32) × (Nat → Int32) × Int32 × Int32} (h : f_TL_distinguish x1 x2 x3 v_world_teacher_machine_size v_world_teacher_machine_letters v_world_teacher_machine_moves v_world_teacher_machine_finals v_search_length v_search_queued v_search_seen v_search_queue v_search_origin v_search_arrival v_search_letters = some x) : ctI l D cI cJ cZ cO yX9_distinguish cX9_distinguish 5 .int rm_TL_distinguish [.ref q_this, .int x1, .int x2, .int x3] (ws_TL_distinguish cI cJ cZ q_this q_world q_slots q_text q_search q_world_teacher q_world_learner q_world_teacher_machine q_world_teacher_lies q_world_teacher_machine_moves q_world_teacher_machine_finals q_search_seen q_search_queue q_search_origin q_search_arrival q_search_letters v_textLength v_world_teacher_lieCount v_world_teacher_machine_size v_world_teacher_machine_letters v_world_teacher_machine_moves v_world_teacher_machine_finals v_search_length v_search_queued v_search_seen v_search_queue v_search_origin v_search_arrival v_search_letters) (ws_TL_distinguish cI cJ cZ q_this q_world q_slots q_text q_search q_world_teacher q_world_learner q_world_teacher_machine q_world_teacher_lies q_world_teacher_machine_moves q_world_teacher_machine_finals q_search_seen q_search_queue q_search_origin q_search_arrival q_search_letters v_textLength v_world_teacher_lieCount v_world_teacher_machine_size v_world_teacher_machine_letters v_world_teacher_machine_moves v_world_teacher_machine_finals x.2.2.2.2.2.2.1 x.2.2.2.2.2.2.2 x.2.1 x.2.2.1 x.2.2.2.1 x.2.2.2.2.1 x.2.2.2.2.2.1) x.1 := by
  refine ctI_of (by decide) (Nat.le_of_ble_eq_true rfl) ?_
  intro p e s m below meth c Q A ls C0 hQ w hl
  have hl : lv_has ls 5 [(0, .ref q_this), (1, .int x1), (2, .int x2), (3, .int x3)] := hl
  generalize List.toArray (α := Value) [.ref q_this, .int x1, .int x2, .int x3] = args at C0 hQ ⊢
  obtain ⟨hx, hb, hml, hown, hts, -, -⟩ := id C0
  unfold f_TL_distinguish at h
  refine lv_aload_n hx hb dX9_distinguish_0 rfl (lv_at hl 0 rfl) ?_
  refine r_get C0 w 0 rfl kf_TL 0 (by decide) lf_RX9_10 rfl dX9_distinguish_1 ?_
  refine r_get C0 w 1 rfl kf_Wo 0 (by decide) lf_RX9_35 rfl dX9_distinguish_4 ?_
  refine r_get C0 w 2 rfl kf_Te 0 (by decide) lf_RX9_39 rfl dX9_distinguish_7 ?_
  refine lv_astore (lv' := [(4, .ref q_world_teacher_machine), (0, .ref q_this), (1, .int x1), (2, .int x2), (3, .int x3)]) hx hb dX9_distinguish_10 hl (by decide) rfl (fun ls hl => ?_)
  refine lv_aload hx hb dX9_distinguish_12 (lv_at hl 0 rfl) ?_
  refine lv_iload_n hx hb dX9_distinguish_14 rfl (lv_at hl 2 rfl) ?_
  obtain ⟨r, hcall, h⟩ := bd1_h h
  obtain ⟨wr, hp, hp'⟩ := rd_of (ws := (ws_TL_distinguish cI cJ cZ q_this q_world q_slots q_text q_search q_world_teacher q_world_learner q_world_teacher_machine q_world_teacher_lies q_world_teacher_machine_moves q_world_teacher_machine_finals q_search_seen q_search_queue q_search_origin q_search_arrival q_search_letters v_textLength v_world_teacher_lieCount v_world_teacher_machine_size v_world_teacher_machine_letters v_world_teacher_machine_moves v_world_teacher_machine_finals v_search_length v_search_queued v_search_seen v_search_queue v_search_origin v_search_arrival v_search_letters)) (wc := (ws_Au_hasState cI cJ cZ q_world_teacher_machine q_world_teacher_machine_moves q_world_teacher_machine_finals v_world_teacher_machine_size v_world_teacher_machine_letters)) [3] rfl rfl
  refine r_VI (r := r) (As := [.int x1]) (rest := []) (wc' := (ws_Au_hasState cI cJ cZ q_world_teacher_machine q_world_teacher_machine_moves q_world_teacher_machine_finals v_world_teacher_machine_size v_world_teacher_machine_letters)) (ws' := (ws_TL_distinguish cI cJ cZ q_this q_world q_slots q_text q_search q_world_teacher q_world_learner q_world_teacher_machine q_world_teacher_lies q_world_teacher_machine_moves q_world_teacher_machine_finals q_search_seen q_search_queue q_search_origin q_search_arrival q_search_letters v_textLength v_world_teacher_lieCount v_world_teacher_machine_size v_world_teacher_machine_letters v_world_teacher_machine_moves v_world_teacher_machine_finals v_search_length v_search_queued v_search_seen v_search_queue v_search_origin v_search_arrival v_search_letters)) C0 w (c_Au_hasState hcall) hp hp' lm_RX9_57 mv_Au_hasState ⟨rfl, rfl⟩ ⟨by decide, by decide⟩ ⟨Nat.zero_le _, Nat.zero_le _⟩ (q0 := 3) rfl rfl rfl rfl hl rfl (Nat.le_of_ble_eq_true rfl) dX9_distinguish_15 (fun H locs w => ?_)
  refine lv_if_eq (tgt := 35) hx hb dX9_distinguish_18 (by decide) (fun hc => ?_) (fun hc => ?_)
  · have h := if_h hc h
    refine lv_bipush (v := (-2 : Int32)) hx hb dX9_distinguish_35 (by decide) ?_
    cases h
    exact hQ _ _ _ _ dX9_distinguish_37 rfl w
  · have h := nf_h hc h
    refine lv_aload hx hb dX9_distinguish_21 (lv_at hl 0 rfl) ?_
    refine lv_iload_n hx hb dX9_distinguish_23 rfl (lv_at hl 3 rfl) ?_
    obtain ⟨r_1, hcall, h⟩ := bd1_h h
    obtain ⟨wr, hp, hp'⟩ := rd_of (ws := (ws_TL_distinguish cI cJ cZ q_this q_world q_slots q_text q_search q_world_teacher q_world_learner q_world_teacher_machine q_world_teacher_lies q_world_teacher_machine_moves q_world_teacher_machine_finals q_search_seen q_search_queue q_search_origin q_search_arrival q_search_letters v_textLength v_world_teacher_lieCount v_world_teacher_machine_size v_world_teacher_machine_letters v_world_teacher_machine_moves v_world_teacher_machine_finals v_search_length v_search_queued v_search_seen v_search_queue v_search_origin v_search_arrival v_search_letters)) (wc := (ws_Au_hasState cI cJ cZ q_world_teacher_machine q_world_teacher_machine_moves q_world_teacher_machine_finals v_world_teacher_machine_size v_world_teacher_machine_letters)) [3] rfl rfl
    refine r_VI (r := r_1) (As := [.int x2]) (rest := []) (wc' := (ws_Au_hasState cI cJ cZ q_world_teacher_machine q_world_teacher_machine_moves q_world_teacher_machine_finals v_world_teacher_machine_size v_world_teacher_machine_letters)) (ws' := (ws_TL_distinguish cI cJ cZ q_this q_world q_slots q_text q_search q_world_teacher q_world_learner q_world_teacher_machine q_world_teacher_lies q_world_teacher_machine_moves q_world_teacher_machine_finals q_search_seen q_search_queue q_search_origin q_search_arrival q_search_letters v_textLength v_world_teacher_lieCount v_world_teacher_machine_size v_world_teacher_machine_letters v_world_teacher_machine_moves v_world_teacher_machine_finals v_search_length v_search_queued v_search_seen v_search_queue v_search_origin v_search_arrival v_search_letters)) C0 w (c_Au_hasState hcall) hp hp' lm_RX9_57 mv_Au_hasState ⟨rfl, rfl⟩ ⟨by decide, by decide⟩ ⟨Nat.zero_le _, Nat.zero_le _⟩ (q0 := 3) rfl rfl rfl rfl hl rfl (Nat.le_of_ble_eq_true rfl) dX9_distinguish_24 (fun H locs w => ?_)
    refine lv_if_eq (tgt := 35) hx hb dX9_distinguish_27 (by decide) (fun hc => ?_) (fun hc => ?_)
    · have h := if_h hc h
      refine lv_bipush (v := (-2 : Int32)) hx hb dX9_distinguish_35 (by decide) ?_
      cases h
      exact hQ _ _ _ _ dX9_distinguish_37 rfl w
    · have h := nf_h hc h
      refine lv_iload_n hx hb dX9_distinguish_30 rfl (lv_at hl 4 rfl) ?_
      refine lv_iconst (v := (-1 : Int32)) hx hb dX9_distinguish_31 (by decide) ?_
      refine lv_icmp_ge (tgt := 38) hx hb dX9_distinguish_32 (by decide) (fun hc => ?_) (fun hc => ?_)
      · have h := if_h hc h
        refine lv_aload_n hx hb dX9_distinguish_38 rfl (lv_at hl 1 rfl) ?_
        refine r_get C0 w 0 rfl kf_TL 4 (by decide) lf_RX9_31 rfl dX9_distinguish_39 ?_
        refine lv_aload hx hb dX9_distinguish_42 (lv_at hl 0 rfl) ?_
        refine lv_iload_n hx hb dX9_distinguish_44 rfl (lv_at hl 2 rfl) ?_
        refine lv_aload hx hb dX9_distinguish_45 (lv_at hl 0 rfl) ?_
        refine lv_iload_n hx hb dX9_distinguish_47 rfl (lv_at hl 3 rfl) ?_
        obtain ⟨r_2, v_search_seen_1, v_search_queue_1, v_search_origin_1, v_search_arrival_1, v_search_letters_1, v_search_length_1, v_search_queued_1, hcall, h⟩ := bd8_h h
        have hp := sp_of (ws := (ws_TL_distinguish cI cJ cZ q_this q_world q_slots q_text q_search q_world_teacher q_world_learner q_world_teacher_machine q_world_teacher_lies q_world_teacher_machine_moves q_world_teacher_machine_finals q_search_seen q_search_queue q_search_origin q_search_arrival q_search_letters v_textLength v_world_teacher_lieCount v_world_teacher_machine_size v_world_teacher_machine_letters v_world_teacher_machine_moves v_world_teacher_machine_finals v_search_length v_search_queued v_search_seen v_search_queue v_search_origin v_search_arrival v_search_letters)) (wc := (ws_Se_findsDifference_a cI cJ cZ q_search q_search_seen q_search_queue q_search_origin q_search_arrival q_search_letters q_world_teacher_machine q_world_teacher_machine_moves q_world_teacher_machine_finals 24 8 v_search_length v_search_queued v_search_seen v_search_queue v_search_origin v_search_arrival v_search_letters v_world_teacher_machine_size v_world_teacher_machine_letters v_world_teacher_machine_moves v_world_teacher_machine_finals)) [6, 7, 8, 9, 10, 11, 3, 4, 5] [0, 1, 2] rfl rfl
        have hp' : Rp (pk (ws_TL_distinguish cI cJ cZ q_this q_world q_slots q_text q_search q_world_teacher q_world_learner q_world_teacher_machine q_world_teacher_lies q_world_teacher_machine_moves q_world_teacher_machine_finals q_search_seen q_search_queue q_search_origin q_search_arrival q_search_letters v_textLength v_world_teacher_lieCount v_world_teacher_machine_size v_world_teacher_machine_letters v_world_teacher_machine_moves v_world_teacher_machine_finals v_search_length v_search_queued v_search_seen v_search_queue v_search_origin v_search_arrival v_search_letters) [0, 1, 2] ++ (ws_Se_findsDifference_a cI cJ cZ q_search q_search_seen q_search_queue q_search_origin q_search_arrival q_search_letters q_world_teacher_machine q_world_teacher_machine_moves q_world_teacher_machine_finals 24 8 v_search_length_1 v_search_queued_1 v_search_seen_1 v_search_queue_1 v_search_origin_1 v_search_arrival_1 v_search_letters_1 v_world_teacher_machine_size v_world_teacher_machine_letters v_world_teacher_machine_moves v_world_teacher_machine_finals)) (ws_TL_distinguish cI cJ cZ q_this q_world q_slots q_text q_search q_world_teacher q_world_learner q_world_teacher_machine q_world_teacher_lies q_world_teacher_machine_moves q_world_teacher_machine_finals q_search_seen q_search_queue q_search_origin q_search_arrival q_search_letters v_textLength v_world_teacher_lieCount v_world_teacher_machine_size v_world_teacher_machine_letters v_world_teacher_machine_moves v_world_teacher_machine_finals v_search_length_1 v_search_queued_1 v_search_seen_1 v_search_queue_1 v_search_origin_1 v_search_arrival_1 v_search_letters_1) := ⟨[0, 1, 2, 9, 10, 11, 3, 4, 5, 6, 7, 8], rfl, rfl⟩
        refine r_VI (r := r_2) (As := [.ref q_world_teacher_machine, .int x1, .ref q_world_teacher_machine, .int x2]) (rest := []) (wc' := (ws_Se_findsDifference_a cI cJ cZ q_search q_search_seen q_search_queue q_search_origin q_search_arrival q_search_letters q_world_teacher_machine q_world_teacher_machine_moves q_world_teacher_machine_finals 24 8 v_search_length_1 v_search_queued_1 v_search_seen_1 v_search_queue_1 v_search_origin_1 v_search_arrival_1 v_search_letters_1 v_world_teacher_machine_size v_world_teacher_machine_letters v_world_teacher_machine_moves v_world_teacher_machine_finals)) (ws' := (ws_TL_distinguish cI cJ cZ q_this q_world q_slots q_text q_search q_world_teacher q_world_learner q_world_teacher_machine q_world_teacher_lies q_world_teacher_machine_moves q_world_teacher_machine_finals q_search_seen q_search_queue q_search_origin q_search_arrival q_search_letters v_textLength v_world_teacher_lieCount v_world_teacher_machine_size v_world_teacher_machine_letters v_world_teacher_machine_moves v_world_teacher_machine_finals v_search_length_1 v_search_queued_1 v_search_seen_1 v_search_queue_1 v_search_origin_1 v_search_arrival_1 v_search_letters_1)) C0 w (c_Se_findsDifference_a hcall) hp hp' lm_RX9_99 mv_Se_findsDifference_a ⟨rfl, rfl⟩ ⟨by decide, by decide⟩ ⟨Nat.zero_le _, Nat.zero_le _⟩ (q0 := 6) rfl rfl rfl rfl hl rfl (Nat.le_of_ble_eq_true rfl) dX9_distinguish_48 (fun H locs w => ?_)
        refine lv_pop hx hb dX9_distinguish_51 rfl ?_
        refine lv_aload_n hx hb dX9_distinguish_52 rfl (lv_at hl 1 rfl) ?_
        refine r_get C0 w 0 rfl kf_TL 4 (by decide) lf_RX9_31 rfl dX9_distinguish_53 ?_
        refine lv_iload_n hx hb dX9_distinguish_56 rfl (lv_at hl 4 rfl) ?_
        obtain ⟨r_3, hcall, h⟩ := bd1_h h
        obtain ⟨wr, hp, hp'⟩ := rd_of (ws := (ws_TL_distinguish cI cJ cZ q_this q_world q_slots q_text q_search q_world_teacher q_world_learner q_world_teacher_machine q_world_teacher_lies q_world_teacher_machine_moves q_world_teacher_machine_finals q_search_seen q_search_queue q_search_origin q_search_arrival q_search_letters v_textLength v_world_teacher_lieCount v_world_teacher_machine_size v_world_teacher_machine_letters v_world_teacher_machine_moves v_world_teacher_machine_finals v_search_length_1 v_search_queued_1 v_search_seen_1 v_search_queue_1 v_search_origin_1 v_search_arrival_1 v_search_letters_1)) (wc := (ws_Se_letterOrLength cI cJ cZ q_search q_search_seen q_search_queue q_search_origin q_search_arrival q_search_letters v_search_length_1 v_search_queued_1 v_search_letters_1)) [6, 11] rfl rfl
        refine r_VI (r := r_3) (As := [.int x3]) (rest := []) (wc' := (ws_Se_letterOrLength cI cJ cZ q_search q_search_seen q_search_queue q_search_origin q_search_arrival q_search_letters v_search_length_1 v_search_queued_1 v_search_letters_1)) (ws' := (ws_TL_distinguish cI cJ cZ q_this q_world q_slots q_text q_search q_world_teacher q_world_learner q_world_teacher_machine q_world_teacher_lies q_world_teacher_machine_moves q_world_teacher_machine_finals q_search_seen q_search_queue q_search_origin q_search_arrival q_search_letters v_textLength v_world_teacher_lieCount v_world_teacher_machine_size v_world_teacher_machine_letters v_world_teacher_machine_moves v_world_teacher_machine_finals v_search_length_1 v_search_queued_1 v_search_seen_1 v_search_queue_1 v_search_origin_1 v_search_arrival_1 v_search_letters_1)) C0 w (c_Se_letterOrLength hcall) hp hp' lm_RX9_103 mv_Se_letterOrLength ⟨rfl, rfl⟩ ⟨by decide, by decide⟩ ⟨Nat.zero_le _, Nat.zero_le _⟩ (q0 := 6) rfl rfl rfl rfl hl rfl (Nat.le_of_ble_eq_true rfl) dX9_distinguish_57 (fun H locs w => ?_)
        cases h
        exact hQ _ _ _ _ dX9_distinguish_60 rfl w
      · have h := nf_h hc h
        refine lv_bipush (v := (-2 : Int32)) hx hb dX9_distinguish_35 (by decide) ?_
        cases h
        exact hQ _ _ _ _ dX9_distinguish_37 rfl w
theorem dX9_hasEarlierEqual_0 : decode cX9_hasEarlierEqual 0 = .ok (.aload_n 0, 1) := by decide +kernel
theorem dX9_hasEarlierEqual_1 : decode cX9_hasEarlierEqual 1 = .ok (.getfield 10, 3) := by decide +kernel
theorem dX9_hasEarlierEqual_4 : decode cX9_hasEarlierEqual 4 = .ok (.getfield 35, 3) := by decide +kernel
theorem dX9_hasEarlierEqual_7 : decode cX9_hasEarlierEqual 7 = .ok (.getfield 39, 3) := by decide +kernel
theorem dX9_hasEarlierEqual_10 : decode cX9_hasEarlierEqual 10 = .ok (.astore_n 2, 1) := by decide +kernel
theorem dX9_hasEarlierEqual_11 : decode cX9_hasEarlierEqual 11 = .ok (.iconst 0, 1) := by decide +kernel
theorem dX9_hasEarlierEqual_12 : decode cX9_hasEarlierEqual 12 = .ok (.istore_n 3, 1) := by decide +kernel
theorem dX9_hasEarlierEqual_13 : decode cX9_hasEarlierEqual 13 = .ok (.iload_n 3, 1) := by decide +kernel
theorem dX9_hasEarlierEqual_14 : decode cX9_hasEarlierEqual 14 = .ok (.iload_n 1, 1) := by decide +kernel
theorem dX9_hasEarlierEqual_15 : decode cX9_hasEarlierEqual 15 = .ok (.if_icmp .ge 34, 3) := by decide +kernel
theorem dX9_hasEarlierEqual_18 : decode cX9_hasEarlierEqual 18 = .ok (.aload_n 2, 1) := by decide +kernel
theorem dX9_hasEarlierEqual_19 : decode cX9_hasEarlierEqual 19 = .ok (.iload_n 3, 1) := by decide +kernel
theorem dX9_hasEarlierEqual_20 : decode cX9_hasEarlierEqual 20 = .ok (.invokevirtual 92, 3) := by decide +kernel
theorem dX9_hasEarlierEqual_23 : decode cX9_hasEarlierEqual 23 = .ok (.iconst (-1), 1) := by decide +kernel
theorem dX9_hasEarlierEqual_24 : decode cX9_hasEarlierEqual 24 = .ok (.if_icmp .eq 19, 3) := by decide +kernel
theorem dX9_hasEarlierEqual_27 : decode cX9_hasEarlierEqual 27 = .ok (.aload_n 0, 1) := by decide +kernel
theorem dX9_hasEarlierEqual_28 : decode cX9_hasEarlierEqual 28 = .ok (.getfield 31, 3) := by decide +kernel
theorem dX9_hasEarlierEqual_31 : decode cX9_hasEarlierEqual 31 = .ok (.aload_n 2, 1) := by decide +kernel
theorem dX9_hasEarlierEqual_32 : decode cX9_hasEarlierEqual 32 = .ok (.iload_n 3, 1) := by decide +kernel
theorem dX9_hasEarlierEqual_33 : decode cX9_hasEarlierEqual 33 = .ok (.aload_n 2, 1) := by decide +kernel
theorem dX9_hasEarlierEqual_34 : decode cX9_hasEarlierEqual 34 = .ok (.iload_n 1, 1) := by decide +kernel
theorem dX9_hasEarlierEqual_35 : decode cX9_hasEarlierEqual 35 = .ok (.invokevirtual 99, 3) := by decide +kernel
theorem dX9_hasEarlierEqual_38 : decode cX9_hasEarlierEqual 38 = .ok (.ifCond .ne 5, 3) := by decide +kernel
theorem dX9_hasEarlierEqual_41 : decode cX9_hasEarlierEqual 41 = .ok (.iconst 1, 1) := by decide +kernel
theorem dX9_hasEarlierEqual_42 : decode cX9_hasEarlierEqual 42 = .ok (.ireturn, 1) := by decide +kernel
theorem dX9_hasEarlierEqual_43 : decode cX9_hasEarlierEqual 43 = .ok (.iinc 3 1, 3) := by decide +kernel
theorem dX9_hasEarlierEqual_46 : decode cX9_hasEarlierEqual 46 = .ok (.goto (-33), 3) := by decide +kernel
theorem dX9_hasEarlierEqual_49 : decode cX9_hasEarlierEqual 49 = .ok (.iconst 0, 1) := by decide +kernel
theorem dX9_hasEarlierEqual_50 : decode cX9_hasEarlierEqual 50 = .ok (.ireturn, 1) := by decide +kernel
set_option maxRecDepth 100000 in
theorem w_TL_hasEarlierEqual_J43 {p : Program} {l : Launch} {e : Env} {s : State} {m : MethodId} {args : Array Value} {below : List Frame} {meth : Method} {c : Code} {Q : State → Prop} {A : Nat → Prop} {D : va_G} {cI cJ cZ cO : ClassId} {q_this q_world q_slots q_text q_search q_world_teacher q_world_learner q_world_teacher_machine q_world_teacher_lies q_world_teacher_machine_moves q_world_teacher_machine_finals q_search_seen q_search_queue q_search_origin q_search_arrival q_search_letters : Nat} {v_textLength : Int32} {v_world_teacher_lieCount : Int32} {v_world_teacher_machine_size : Int32} {v_world_teacher_machine_letters : Int32} {v_world_teacher_machine_moves : (Nat → Int32)} {v_world_teacher_machine_finals : (Nat → Int32)} {v_search_length : Int32} {v_search_queued : Int32} {v_search_seen : (Nat → Int32)} {v_search_queue : (Nat → Int32)} {v_search_origin : (Nat → Int32)} {v_search_arrival : (Nat → Int32)} {v_search_letters : (Nat → Int32)} {x : Int32 × (Nat → Int32) × (Nat → Int32) × (Nat → Int32) × (Nat → Int32) × (Nat → Int32) × Int32 × Int32} {x1 : Int32} {x3 : Int32} (C0 : Cx p s m args c A D cI cJ cZ cO cX9_hasEarlierEqual 4 RX9) (hQ : RtI p l e rm_TL_hasEarlierEqual s m args below meth c Q A D cX9_hasEarlierEqual .boolean (ws_TL_hasEarlierEqual cI cJ cZ q_this q_world q_slots q_text q_search q_world_teacher q_world_learner q_world_teacher_machine q_world_teacher_lies q_world_teacher_machine_moves q_world_teacher_machine_finals q_search_seen q_search_queue q_search_origin q_search_arrival q_search_letters v_textLength v_world_teacher_lieCount v_world_teacher_machine_size v_world_teacher_machine_letters v_world_teacher_machine_moves v_world_teacher_machine_finals x.2.2.2.2.2.2.1 x.2.2.2.2.2.2.2 x.2.1 x.2.2.1 x.2.2.2.1 x.2.2.2.2.1 x.2.2.2.2.2.1) x.1) {K : Int32 → (Nat → Int32) → (Nat → Int32) → (Nat → Int32) → (Nat → Int32) → (Nat → Int32) → Int32 → Int32 → Option (Int32 × (Nat → Int32) × (Nat → Int32) × (Nat → Int32) × (Nat → Int32) × (Nat → Int32) × Int32 × Int32)} (hK : ∀ (y3 : Int32) (u_search_seen : (Nat → Int32)) (u_search_queue : (Nat → Int32)) (u_search_origin : (Nat → Int32)) (u_search_arrival : (Nat → Int32)) (u_search_letters : (Nat → Int32)) (u_search_length : Int32) (u_search_queued : Int32) (H : Heap) (locs : List Loc) (ls : Array Slot), K y3 u_search_seen u_search_queue u_search_origin u_search_arrival u_search_letters u_search_length u_search_queued = some x → Wd s A D (ws_TL_hasEarlierEqual cI cJ cZ q_this q_world q_slots q_text q_search q_world_teacher q_world_learner q_world_teacher_machine q_world_teacher_lies q_world_teacher_machine_moves q_world_teacher_machine_finals q_search_seen q_search_queue q_search_origin q_search_arrival q_search_letters v_textLength v_world_teacher_lieCount v_world_teacher_machine_size v_world_teacher_machine_letters v_world_teacher_machine_moves v_world_teacher_machine_finals u_search_length u_search_queued u_search_seen u_search_queue u_search_origin u_search_arrival u_search_letters) H locs → lv_has ls 4 [] → W p l e rm_TL_hasEarlierEqual s m args below meth c H locs 0 0 Q (F0 m 49 ls [])) {rec : Int32 → (Nat → Int32) → (Nat → Int32) → (Nat → Int32) → (Nat → Int32) → (Nat → Int32) → Int32 → Int32 → Option (Int32 × (Nat → Int32) × (Nat → Int32) × (Nat → Int32) × (Nat → Int32) × (Nat → Int32) × Int32 × Int32)} (hrec : ∀ (y3 : Int32) (u_search_seen : (Nat → Int32)) (u_search_queue : (Nat → Int32)) (u_search_origin : (Nat → Int32)) (u_search_arrival : (Nat → Int32)) (u_search_letters : (Nat → Int32)) (u_search_length : Int32) (u_search_queued : Int32) (H : Heap) (locs : List Loc) (ls : Array Slot), rec y3 u_search_seen u_search_queue u_search_origin u_search_arrival u_search_letters u_search_length u_search_queued = some x → Wd s A D (ws_TL_hasEarlierEqual cI cJ cZ q_this q_world q_slots q_text q_search q_world_teacher q_world_learner q_world_teacher_machine q_world_teacher_lies q_world_teacher_machine_moves q_world_teacher_machine_finals q_search_seen q_search_queue q_search_origin q_search_arrival q_search_letters v_textLength v_world_teacher_lieCount v_world_teacher_machine_size v_world_teacher_machine_letters v_world_teacher_machine_moves v_world_teacher_machine_finals u_search_length u_search_queued u_search_seen u_search_queue u_search_origin u_search_arrival u_search_letters) H locs → lv_has ls 4 [(0, .ref q_this), (1, .int x1), (2, .ref q_world_teacher_machine), (3, .int y3)] → W p l e rm_TL_hasEarlierEqual s m args below meth c H locs 0 0 Q (F0 m 13 ls [])) {H : Heap} {locs : List Loc} {ls : Array Slot} (h : f_TL_hasEarlierEqual_J43 rec x3 v_search_length v_search_queued v_search_seen v_search_queue v_search_origin v_search_arrival v_search_letters = some x) (w : Wd s A D (ws_TL_hasEarlierEqual cI cJ cZ q_this q_world q_slots q_text q_search q_world_teacher q_world_learner q_world_teacher_machine q_world_teacher_lies q_world_teacher_machine_moves q_world_teacher_machine_finals q_search_seen q_search_queue q_search_origin q_search_arrival q_search_letters v_textLength v_world_teacher_lieCount v_world_teacher_machine_size v_world_teacher_machine_letters v_world_teacher_machine_moves v_world_teacher_machine_finals v_search_length v_search_queued v_search_seen v_search_queue v_search_origin v_search_arrival v_search_letters) H locs) (hl : lv_has ls 4 [(0, .ref q_this), (1, .int x1), (2, .ref q_world_teacher_machine), (3, .int x3)]) : W p l e rm_TL_hasEarlierEqual s m args below meth c H locs 0 0 Q (F0 m 43 ls []) := by
  obtain ⟨hx, hb, hml, hown, hts, -, -⟩ := id C0
  unfold f_TL_hasEarlierEqual_J43 at h
  obtain ⟨x3_1, ex3_1⟩ : ∃ y : Int32, y = (x3 + 1) := ⟨_, rfl⟩
  have h := bnd_at ex3_1 h
  refine lv_iinc (v := x3_1) (lv' := [(3, .int x3_1), (0, .ref q_this), (1, .int x1), (2, .ref q_world_teacher_machine)]) hx hb dX9_hasEarlierEqual_43 hl (k := 3) rfl (by rw [ex3_1]; rfl) (by decide) rfl (fun ls hl => ?_)
  refine lv_goto (tgt := 13) hx hb dX9_hasEarlierEqual_46 (by decide) ?_
  exact hrec _ _ _ _ _ _ _ _ _ _ _ h w (lv_sub hl [1, 2, 3, 0] rfl)
set_option maxRecDepth 100000 in
theorem w_TL_hasEarlierEqual_L13 {p : Program} {l : Launch} {e : Env} {s : State} {m : MethodId} {args : Array Value} {below : List Frame} {meth : Method} {c : Code} {Q : State → Prop} {A : Nat → Prop} {D : va_G} {cI cJ cZ cO : ClassId} {q_this q_world q_slots q_text q_search q_world_teacher q_world_learner q_world_teacher_machine q_world_teacher_lies q_world_teacher_machine_moves q_world_teacher_machine_finals q_search_seen q_search_queue q_search_origin q_search_arrival q_search_letters : Nat} {v_textLength : Int32} {v_world_teacher_lieCount : Int32} {v_world_teacher_machine_size : Int32} {v_world_teacher_machine_letters : Int32} {v_world_teacher_machine_moves : (Nat → Int32)} {v_world_teacher_machine_finals : (Nat → Int32)} {x1 : Int32} {x : Int32 × (Nat → Int32) × (Nat → Int32) × (Nat → Int32) × (Nat → Int32) × (Nat → Int32) × Int32 × Int32} (C0 : Cx p s m args c A D cI cJ cZ cO cX9_hasEarlierEqual 4 RX9) (hQ : RtI p l e rm_TL_hasEarlierEqual s m args below meth c Q A D cX9_hasEarlierEqual .boolean (ws_TL_hasEarlierEqual cI cJ cZ q_this q_world q_slots q_text q_search q_world_teacher q_world_learner q_world_teacher_machine q_world_teacher_lies q_world_teacher_machine_moves q_world_teacher_machine_finals q_search_seen q_search_queue q_search_origin q_search_arrival q_search_letters v_textLength v_world_teacher_lieCount v_world_teacher_machine_size v_world_teacher_machine_letters v_world_teacher_machine_moves v_world_teacher_machine_finals x.2.2.2.2.2.2.1 x.2.2.2.2.2.2.2 x.2.1 x.2.2.1 x.2.2.2.1 x.2.2.2.2.1 x.2.2.2.2.2.1) x.1) {K : Int32 → (Nat → Int32) → (Nat → Int32) → (Nat → Int32) → (Nat → Int32) → (Nat → Int32) → Int32 → Int32 → Option (Int32 × (Nat → Int32) × (Nat → Int32) × (Nat → Int32) × (Nat → Int32) × (Nat → Int32) × Int32 × Int32)} (hK : ∀ (x3 : Int32) (v_search_seen : (Nat → Int32)) (v_search_queue : (Nat → Int32)) (v_search_origin : (Nat → Int32)) (v_search_arrival : (Nat → Int32)) (v_search_letters : (Nat → Int32)) (v_search_length : Int32) (v_search_queued : Int32) (H : Heap) (locs : List Loc) (ls : Array Slot), K x3 v_search_seen v_search_queue v_search_origin v_search_arrival v_search_letters v_search_length v_search_queued = some x → Wd s A D (ws_TL_hasEarlierEqual cI cJ cZ q_this q_world q_slots q_text q_search q_world_teacher q_world_learner q_world_teacher_machine q_world_teacher_lies q_world_teacher_machine_moves q_world_teacher_machine_finals q_search_seen q_search_queue q_search_origin q_search_arrival q_search_letters v_textLength v_world_teacher_lieCount v_world_teacher_machine_size v_world_teacher_machine_letters v_world_teacher_machine_moves v_world_teacher_machine_finals v_search_length v_search_queued v_search_seen v_search_queue v_search_origin v_search_arrival v_search_letters) H locs → lv_has ls 4 [] → W p l e rm_TL_hasEarlierEqual s m args below meth c H locs 0 0 Q (F0 m 49 ls [])) {rec : Int32 → (Nat → Int32) → (Nat → Int32) → (Nat → Int32) → (Nat → Int32) → (Nat → Int32) → Int32 → Int32 → Option (Int32 × (Nat → Int32) × (Nat → Int32) × (Nat → Int32) × (Nat → Int32) × (Nat → Int32) × Int32 × Int32)} (hrec : ∀ (x3 : Int32) (v_search_seen : (Nat → Int32)) (v_search_queue : (Nat → Int32)) (v_search_origin : (Nat → Int32)) (v_search_arrival : (Nat → Int32)) (v_search_letters : (Nat → Int32)) (v_search_length : Int32) (v_search_queued : Int32) (H : Heap) (locs : List Loc) (ls : Array Slot), rec x3 v_search_seen v_search_queue v_search_origin v_search_arrival v_search_letters v_search_length v_search_queued = some x → Wd s A D (ws_TL_hasEarlierEqual cI cJ cZ q_this q_world q_slots q_text q_search q_world_teacher q_world_learner q_world_teacher_machine q_world_teacher_lies q_world_teacher_machine_moves q_world_teacher_machine_finals q_search_seen q_search_queue q_search_origin q_search_arrival q_search_letters v_textLength v_world_teacher_lieCount v_world_teacher_machine_size v_world_teacher_machine_letters v_world_teacher_machine_moves v_world_teacher_machine_finals v_search_length v_search_queued v_search_seen v_search_queue v_search_origin v_search_arrival v_search_letters) H locs → lv_has ls 4 [(0, .ref q_this), (1, .int x1), (2, .ref q_world_teacher_machine), (3, .int x3)] → W p l e rm_TL_hasEarlierEqual s m args below meth c H locs 0 0 Q (F0 m 13 ls [])) (x3 : Int32) (v_search_seen : (Nat → Int32)) (v_search_queue : (Nat → Int32)) (v_search_origin : (Nat → Int32)) (v_search_arrival : (Nat → Int32)) (v_search_letters : (Nat → Int32)) (v_search_length : Int32) (v_search_queued : Int32) {H : Heap} {locs : List Loc} {ls : Array Slot} (h : f_TL_hasEarlierEqual_L13 v_world_teacher_machine_size v_world_teacher_machine_letters v_world_teacher_machine_moves v_world_teacher_machine_finals x1 K rec x3 v_search_seen v_search_queue v_search_origin v_search_arrival v_search_letters v_search_length v_search_queued = some x) (w : Wd s A D (ws_TL_hasEarlierEqual cI cJ cZ q_this q_world q_slots q_text q_search q_world_teacher q_world_learner q_world_teacher_machine q_world_teacher_lies q_world_teacher_machine_moves q_world_teacher_machine_finals q_search_seen q_search_queue q_search_origin q_search_arrival q_search_letters v_textLength v_world_teacher_lieCount v_world_teacher_machine_size v_world_teacher_machine_letters v_world_teacher_machine_moves v_world_teacher_machine_finals v_search_length v_search_queued v_search_seen v_search_queue v_search_origin v_search_arrival v_search_letters) H locs) (hl : lv_has ls 4 [(0, .ref q_this), (1, .int x1), (2, .ref q_world_teacher_machine), (3, .int x3)]) : W p l e rm_TL_hasEarlierEqual s m args below meth c H locs 0 0 Q (F0 m 13 ls []) := by
  obtain ⟨hx, hb, hml, hown, hts, -, -⟩ := id C0
  unfold f_TL_hasEarlierEqual_L13 at h
  refine lv_iload_n hx hb dX9_hasEarlierEqual_13 rfl (lv_at hl 3 rfl) ?_
  refine lv_iload_n hx hb dX9_hasEarlierEqual_14 rfl (lv_at hl 1 rfl) ?_
  refine lv_icmp_ge (tgt := 49) hx hb dX9_hasEarlierEqual_15 (by decide) (fun hc => ?_) (fun hc => ?_)
  · have h := if_h hc h
    exact hK _ _ _ _ _ _ _ _ _ _ _ h w (lv_sub hl [] rfl)
  · have h := nf_h hc h
    refine lv_aload_n hx hb dX9_hasEarlierEqual_18 rfl (lv_at hl 2 rfl) ?_
    refine lv_iload_n hx hb dX9_hasEarlierEqual_19 rfl (lv_at hl 3 rfl) ?_
    obtain ⟨r, hcall, h⟩ := bd1_h h
    obtain ⟨wr, hp, hp'⟩ := rd_of (ws := (ws_TL_hasEarlierEqual cI cJ cZ q_this q_world q_slots q_text q_search q_world_teacher q_world_learner q_world_teacher_machine q_world_teacher_lies q_world_teacher_machine_moves q_world_teacher_machine_finals q_search_seen q_search_queue q_search_origin q_search_arrival q_search_letters v_textLength v_world_teacher_lieCount v_world_teacher_machine_size v_world_teacher_machine_letters v_world_teacher_machine_moves v_world_teacher_machine_finals v_search_length v_search_queued v_search_seen v_search_queue v_search_origin v_search_arrival v_search_letters)) (wc := (ws_Au_distanceTo cI cJ cZ q_world_teacher_machine q_world_teacher_machine_moves q_world_teacher_machine_finals 24 v_world_teacher_machine_size v_world_teacher_machine_letters v_world_teacher_machine_moves)) [3, 4] rfl rfl
    refine r_VI (r := r) (As := [.int x3]) (rest := []) (wc' := (ws_Au_distanceTo cI cJ cZ q_world_teacher_machine q_world_teacher_machine_moves q_world_teacher_machine_finals 24 v_world_teacher_machine_size v_world_teacher_machine_letters v_world_teacher_machine_moves)) (ws' := (ws_TL_hasEarlierEqual cI cJ cZ q_this q_world q_slots q_text q_search q_world_teacher q_world_learner q_world_teacher_machine q_world_teacher_lies q_world_teacher_machine_moves q_world_teacher_machine_finals q_search_seen q_search_queue q_search_origin q_search_arrival q_search_letters v_textLength v_world_teacher_lieCount v_world_teacher_machine_size v_world_teacher_machine_letters v_world_teacher_machine_moves v_world_teacher_machine_finals v_search_length v_search_queued v_search_seen v_search_queue v_search_origin v_search_arrival v_search_letters)) C0 w (c_Au_distanceTo hcall) hp hp' lm_RX9_92 mv_Au_distanceTo ⟨rfl, rfl⟩ ⟨by decide, by decide⟩ ⟨Nat.zero_le _, Nat.zero_le _⟩ (q0 := 3) rfl rfl rfl rfl hl rfl (Nat.le_of_ble_eq_true rfl) dX9_hasEarlierEqual_20 (fun H locs w => ?_)
    refine lv_iconst (v := (-1 : Int32)) hx hb dX9_hasEarlierEqual_23 (by decide) ?_
    refine lv_icmp_eq (tgt := 43) hx hb dX9_hasEarlierEqual_24 (by decide) (fun hc => ?_) (fun hc => ?_)
    · have h := if_h hc h
      exact w_TL_hasEarlierEqual_J43 C0 hQ hK hrec h w (lv_sub hl [0, 1, 2, 3] rfl)
    · have h := nf_h hc h
      refine lv_aload_n hx hb dX9_hasEarlierEqual_27 rfl (lv_at hl 0 rfl) ?_
      refine r_get C0 w 0 rfl kf_TL 4 (by decide) lf_RX9_31 rfl dX9_hasEarlierEqual_28 ?_
      refine lv_aload_n hx hb dX9_hasEarlierEqual_31 rfl (lv_at hl 2 rfl) ?_
      refine lv_iload_n hx hb dX9_hasEarlierEqual_32 rfl (lv_at hl 3 rfl) ?_
      refine lv_aload_n hx hb dX9_hasEarlierEqual_33 rfl (lv_at hl 2 rfl) ?_
      refine lv_iload_n hx hb dX9_hasEarlierEqual_34 rfl (lv_at hl 1 rfl) ?_
      obtain ⟨r_1, v_search_seen_1, v_search_queue_1, v_search_origin_1, v_search_arrival_1, v_search_letters_1, v_search_length_1, v_search_queued_1, hcall, h⟩ := bd8_h h
      have hp := sp_of (ws := (ws_TL_hasEarlierEqual cI cJ cZ q_this q_world q_slots q_text q_search q_world_teacher q_world_learner q_world_teacher_machine q_world_teacher_lies q_world_teacher_machine_moves q_world_teacher_machine_finals q_search_seen q_search_queue q_search_origin q_search_arrival q_search_letters v_textLength v_world_teacher_lieCount v_world_teacher_machine_size v_world_teacher_machine_letters v_world_teacher_machine_moves v_world_teacher_machine_finals v_search_length v_search_queued v_search_seen v_search_queue v_search_origin v_search_arrival v_search_letters)) (wc := (ws_Se_findsDifference_a cI cJ cZ q_search q_search_seen q_search_queue q_search_origin q_search_arrival q_search_letters q_world_teacher_machine q_world_teacher_machine_moves q_world_teacher_machine_finals 24 8 v_search_length v_search_queued v_search_seen v_search_queue v_search_origin v_search_arrival v_search_letters v_world_teacher_machine_size v_world_teacher_machine_letters v_world_teacher_machine_moves v_world_teacher_machine_finals)) [6, 7, 8, 9, 10, 11, 3, 4, 5] [0, 1, 2] rfl rfl
      have hp' : Rp (pk (ws_TL_hasEarlierEqual cI cJ cZ q_this q_world q_slots q_text q_search q_world_teacher q_world_learner q_world_teacher_machine q_world_teacher_lies q_world_teacher_machine_moves q_world_teacher_machine_finals q_search_seen q_search_queue q_search_origin q_search_arrival q_search_letters v_textLength v_world_teacher_lieCount v_world_teacher_machine_size v_world_teacher_machine_letters v_world_teacher_machine_moves v_world_teacher_machine_finals v_search_length v_search_queued v_search_seen v_search_queue v_search_origin v_search_arrival v_search_letters) [0, 1, 2] ++ (ws_Se_findsDifference_a cI cJ cZ q_search q_search_seen q_search_queue q_search_origin q_search_arrival q_search_letters q_world_teacher_machine q_world_teacher_machine_moves q_world_teacher_machine_finals 24 8 v_search_length_1 v_search_queued_1 v_search_seen_1 v_search_queue_1 v_search_origin_1 v_search_arrival_1 v_search_letters_1 v_world_teacher_machine_size v_world_teacher_machine_letters v_world_teacher_machine_moves v_world_teacher_machine_finals)) (ws_TL_hasEarlierEqual cI cJ cZ q_this q_world q_slots q_text q_search q_world_teacher q_world_learner q_world_teacher_machine q_world_teacher_lies q_world_teacher_machine_moves q_world_teacher_machine_finals q_search_seen q_search_queue q_search_origin q_search_arrival q_search_letters v_textLength v_world_teacher_lieCount v_world_teacher_machine_size v_world_teacher_machine_letters v_world_teacher_machine_moves v_world_teacher_machine_finals v_search_length_1 v_search_queued_1 v_search_seen_1 v_search_queue_1 v_search_origin_1 v_search_arrival_1 v_search_letters_1) := ⟨[0, 1, 2, 9, 10, 11, 3, 4, 5, 6, 7, 8], rfl, rfl⟩
      refine r_VI (r := r_1) (As := [.ref q_world_teacher_machine, .int x3, .ref q_world_teacher_machine, .int x1]) (rest := []) (wc' := (ws_Se_findsDifference_a cI cJ cZ q_search q_search_seen q_search_queue q_search_origin q_search_arrival q_search_letters q_world_teacher_machine q_world_teacher_machine_moves q_world_teacher_machine_finals 24 8 v_search_length_1 v_search_queued_1 v_search_seen_1 v_search_queue_1 v_search_origin_1 v_search_arrival_1 v_search_letters_1 v_world_teacher_machine_size v_world_teacher_machine_letters v_world_teacher_machine_moves v_world_teacher_machine_finals)) (ws' := (ws_TL_hasEarlierEqual cI cJ cZ q_this q_world q_slots q_text q_search q_world_teacher q_world_learner q_world_teacher_machine q_world_teacher_lies q_world_teacher_machine_moves q_world_teacher_machine_finals q_search_seen q_search_queue q_search_origin q_search_arrival q_search_letters v_textLength v_world_teacher_lieCount v_world_teacher_machine_size v_world_teacher_machine_letters v_world_teacher_machine_moves v_world_teacher_machine_finals v_search_length_1 v_search_queued_1 v_search_seen_1 v_search_queue_1 v_search_origin_1 v_search_arrival_1 v_search_letters_1)) C0 w (c_Se_findsDifference_a hcall) hp hp' lm_RX9_99 mv_Se_findsDifference_a ⟨rfl, rfl⟩ ⟨by decide, by decide⟩ ⟨Nat.zero_le _, Nat.zero_le _⟩ (q0 := 6) rfl rfl rfl rfl hl rfl (Nat.le_of_ble_eq_true rfl) dX9_hasEarlierEqual_35 (fun H locs w => ?_)
      refine lv_if_ne (tgt := 43) hx hb dX9_hasEarlierEqual_38 (by decide) (fun hc => ?_) (fun hc => ?_)
      · have h := nf_h hc h
        exact w_TL_hasEarlierEqual_J43 C0 hQ hK hrec h w (lv_sub hl [0, 1, 2, 3] rfl)
      · have h := if_h hc h
        refine lv_iconst (v := (1 : Int32)) hx hb dX9_hasEarlierEqual_41 (by decide) ?_
        cases h
        exact hQ _ _ _ _ dX9_hasEarlierEqual_42 (gB_n (v := (1 : Int32)) (Or.inr rfl)) w
set_option maxRecDepth 100000 in
theorem wl_TL_hasEarlierEqual_L13 {p : Program} {l : Launch} {e : Env} {s : State} {m : MethodId} {args : Array Value} {below : List Frame} {meth : Method} {c : Code} {Q : State → Prop} {A : Nat → Prop} {D : va_G} {cI cJ cZ cO : ClassId} {q_this q_world q_slots q_text q_search q_world_teacher q_world_learner q_world_teacher_machine q_world_teacher_lies q_world_teacher_machine_moves q_world_teacher_machine_finals q_search_seen q_search_queue q_search_origin q_search_arrival q_search_letters : Nat} {v_textLength : Int32} {v_world_teacher_lieCount : Int32} {v_world_teacher_machine_size : Int32} {v_world_teacher_machine_letters : Int32} {v_world_teacher_machine_moves : (Nat → Int32)} {v_world_teacher_machine_finals : (Nat → Int32)} {x1 : Int32} {x : Int32 × (Nat → Int32) × (Nat → Int32) × (Nat → Int32) × (Nat → Int32) × (Nat → Int32) × Int32 × Int32} (C0 : Cx p s m args c A D cI cJ cZ cO cX9_hasEarlierEqual 4 RX9) (hQ : RtI p l e rm_TL_hasEarlierEqual s m args below meth c Q A D cX9_hasEarlierEqual .boolean (ws_TL_hasEarlierEqual cI cJ cZ q_this q_world q_slots q_text q_search q_world_teacher q_world_learner q_world_teacher_machine q_world_teacher_lies q_world_teacher_machine_moves q_world_teacher_machine_finals q_search_seen q_search_queue q_search_origin q_search_arrival q_search_letters v_textLength v_world_teacher_lieCount v_world_teacher_machine_size v_world_teacher_machine_letters v_world_teacher_machine_moves v_world_teacher_machine_finals x.2.2.2.2.2.2.1 x.2.2.2.2.2.2.2 x.2.1 x.2.2.1 x.2.2.2.1 x.2.2.2.2.1 x.2.2.2.2.2.1) x.1) {K : Int32 → (Nat → Int32) → (Nat → Int32) → (Nat → Int32) → (Nat → Int32) → (Nat → Int32) → Int32 → Int32 → Option (Int32 × (Nat → Int32) × (Nat → Int32) × (Nat → Int32) × (Nat → Int32) × (Nat → Int32) × Int32 × Int32)} (hK : ∀ (x3 : Int32) (v_search_seen : (Nat → Int32)) (v_search_queue : (Nat → Int32)) (v_search_origin : (Nat → Int32)) (v_search_arrival : (Nat → Int32)) (v_search_letters : (Nat → Int32)) (v_search_length : Int32) (v_search_queued : Int32) (H : Heap) (locs : List Loc) (ls : Array Slot), K x3 v_search_seen v_search_queue v_search_origin v_search_arrival v_search_letters v_search_length v_search_queued = some x → Wd s A D (ws_TL_hasEarlierEqual cI cJ cZ q_this q_world q_slots q_text q_search q_world_teacher q_world_learner q_world_teacher_machine q_world_teacher_lies q_world_teacher_machine_moves q_world_teacher_machine_finals q_search_seen q_search_queue q_search_origin q_search_arrival q_search_letters v_textLength v_world_teacher_lieCount v_world_teacher_machine_size v_world_teacher_machine_letters v_world_teacher_machine_moves v_world_teacher_machine_finals v_search_length v_search_queued v_search_seen v_search_queue v_search_origin v_search_arrival v_search_letters) H locs → lv_has ls 4 [] → W p l e rm_TL_hasEarlierEqual s m args below meth c H locs 0 0 Q (F0 m 49 ls [])) : ∀ (n : Nat) (x3 : Int32) (v_search_seen : (Nat → Int32)) (v_search_queue : (Nat → Int32)) (v_search_origin : (Nat → Int32)) (v_search_arrival : (Nat → Int32)) (v_search_letters : (Nat → Int32)) (v_search_length : Int32) (v_search_queued : Int32) (H : Heap) (locs : List Loc) (ls : Array Slot), itr (fun _ _ _ _ _ _ _ _ => none) (f_TL_hasEarlierEqual_L13 v_world_teacher_machine_size v_world_teacher_machine_letters v_world_teacher_machine_moves v_world_teacher_machine_finals x1 K) n x3 v_search_seen v_search_queue v_search_origin v_search_arrival v_search_letters v_search_length v_search_queued = some x → Wd s A D (ws_TL_hasEarlierEqual cI cJ cZ q_this q_world q_slots q_text q_search q_world_teacher q_world_learner q_world_teacher_machine q_world_teacher_lies q_world_teacher_machine_moves q_world_teacher_machine_finals q_search_seen q_search_queue q_search_origin q_search_arrival q_search_letters v_textLength v_world_teacher_lieCount v_world_teacher_machine_size v_world_teacher_machine_letters v_world_teacher_machine_moves v_world_teacher_machine_finals v_search_length v_search_queued v_search_seen v_search_queue v_search_origin v_search_arrival v_search_letters) H locs → lv_has ls 4 [(0, .ref q_this), (1, .int x1), (2, .ref q_world_teacher_machine), (3, .int x3)] → W p l e rm_TL_hasEarlierEqual s m args below meth c H locs 0 0 Q (F0 m 13 ls []) := by
  intro n
  induction n with
  | zero => intro _ _ _ _ _ _ _ _ _ _ _ h; cases (show none = some _ from h)
  | succ n ih => intro _ _ _ _ _ _ _ _ _ _ _ h w hl; exact w_TL_hasEarlierEqual_L13 C0 hQ hK ih _ _ _ _ _ _ _ _ h w hl
set_option maxRecDepth 100000 in
theorem c_TL_hasEarlierEqual {l : Launch} {D : va_G} {cI cJ cZ cO : ClassId} {q_this q_world q_slots q_text q_search q_world_teacher q_world_learner q_world_teacher_machine q_world_teacher_lies q_world_teacher_machine_moves q_world_teacher_machine_finals q_search_seen q_search_queue q_search_origin q_search_arrival q_search_letters : Nat} {x1 : Int32} {v_textLength : Int32} {v_world_teacher_lieCount : Int32} {v_world_teacher_machine_size : Int32} {v_world_teacher_machine_letters : Int32} {v_world_teacher_machine_moves : (Nat → Int32)} {v_world_teacher_machine_finals : (Nat → Int32)} {v_search_length : Int32} {v_search_queued : Int32} {v_search_seen : (Nat → Int32)} {v_search_queue : (Nat → Int32)} {v_search_origin : (Nat → Int32)} {v_search_arrival : (Nat → Int32)} {v_search_letters : (Nat → Int32)} {x : Int32 × (Nat → Int32) × (Nat → Int32) × (Nat → Int32) × (Nat → Int32) × (Nat → Int32) × Int32 × Int32} (h : f_TL_hasEarlierEqual x1 v_world_teacher_machine_size v_world_teacher_machine_letters v_world_teacher_machine_moves v_world_teacher_machine_finals v_search_length v_search_queued v_search_seen v_search_queue v_search_origin v_search_arrival v_search_letters = some x) : ctI l D cI cJ cZ cO yX9_hasEarlierEqual cX9_hasEarlierEqual 4 .boolean rm_TL_hasEarlierEqual [.ref q_this, .int x1] (ws_TL_hasEarlierEqual cI cJ cZ q_this q_world q_slots q_text q_search q_world_teacher q_world_learner q_world_teacher_machine q_world_teacher_lies q_world_teacher_machine_moves q_world_teacher_machine_finals q_search_seen q_search_queue q_search_origin q_search_arrival q_search_letters v_textLength v_world_teacher_lieCount v_world_teacher_machine_size v_world_teacher_machine_letters v_world_teacher_machine_moves v_world_teacher_machine_finals v_search_length v_search_queued v_search_seen v_search_queue v_search_origin v_search_arrival v_search_letters) (ws_TL_hasEarlierEqual cI cJ cZ q_this q_world q_slots q_text q_search q_world_teacher q_world_learner q_world_teacher_machine q_world_teacher_lies q_world_teacher_machine_moves q_world_teacher_machine_finals q_search_seen q_search_queue q_search_origin q_search_arrival q_search_letters v_textLength v_world_teacher_lieCount v_world_teacher_machine_size v_world_teacher_machine_letters v_world_teacher_machine_moves v_world_teacher_machine_finals x.2.2.2.2.2.2.1 x.2.2.2.2.2.2.2 x.2.1 x.2.2.1 x.2.2.2.1 x.2.2.2.2.1 x.2.2.2.2.2.1) x.1 := by
  refine ctI_of (by decide) (Nat.le_of_ble_eq_true rfl) ?_
  intro p e s m below meth c Q A ls C0 hQ w hl
  have hl : lv_has ls 4 [(0, .ref q_this), (1, .int x1)] := hl
  generalize List.toArray (α := Value) [.ref q_this, .int x1] = args at C0 hQ ⊢
  obtain ⟨hx, hb, hml, hown, hts, -, -⟩ := id C0
  unfold f_TL_hasEarlierEqual at h
  refine lv_aload_n hx hb dX9_hasEarlierEqual_0 rfl (lv_at hl 0 rfl) ?_
  refine r_get C0 w 0 rfl kf_TL 0 (by decide) lf_RX9_10 rfl dX9_hasEarlierEqual_1 ?_
  refine r_get C0 w 1 rfl kf_Wo 0 (by decide) lf_RX9_35 rfl dX9_hasEarlierEqual_4 ?_
  refine r_get C0 w 2 rfl kf_Te 0 (by decide) lf_RX9_39 rfl dX9_hasEarlierEqual_7 ?_
  refine lv_astore_n (lv' := [(2, .ref q_world_teacher_machine), (0, .ref q_this), (1, .int x1)]) hx hb dX9_hasEarlierEqual_10 rfl hl (by decide) rfl (fun ls hl => ?_)
  refine lv_iconst (v := (0 : Int32)) hx hb dX9_hasEarlierEqual_11 (by decide) ?_
  refine lv_istore_n (lv' := [(3, .int (0 : Int32)), (2, .ref q_world_teacher_machine), (0, .ref q_this), (1, .int x1)]) hx hb dX9_hasEarlierEqual_12 rfl hl (by decide) rfl (fun ls hl => ?_)
  refine wl_TL_hasEarlierEqual_L13 C0 hQ (fun x3 v_search_seen_1 v_search_queue_1 v_search_origin_1 v_search_arrival_1 v_search_letters_1 v_search_length_1 v_search_queued_1 H locs ls h w hl => ?_) _ _ _ _ _ _ _ _ _ _ _ _ h w (lv_sub hl [2, 3, 1, 0] rfl)
  refine lv_iconst (v := (0 : Int32)) hx hb dX9_hasEarlierEqual_49 (by decide) ?_
  cases h
  exact hQ _ _ _ _ dX9_hasEarlierEqual_50 (gB_n (v := (0 : Int32)) (Or.inl rfl)) w
theorem dX9_leastStates_0 : decode cX9_leastStates 0 = .ok (.aload_n 0, 1) := by decide +kernel
theorem dX9_leastStates_1 : decode cX9_leastStates 1 = .ok (.getfield 10, 3) := by decide +kernel
theorem dX9_leastStates_4 : decode cX9_leastStates 4 = .ok (.getfield 35, 3) := by decide +kernel
theorem dX9_leastStates_7 : decode cX9_leastStates 7 = .ok (.getfield 39, 3) := by decide +kernel
theorem dX9_leastStates_10 : decode cX9_leastStates 10 = .ok (.astore_n 1, 1) := by decide +kernel
theorem dX9_leastStates_11 : decode cX9_leastStates 11 = .ok (.iconst 0, 1) := by decide +kernel
theorem dX9_leastStates_12 : decode cX9_leastStates 12 = .ok (.istore_n 2, 1) := by decide +kernel
theorem dX9_leastStates_13 : decode cX9_leastStates 13 = .ok (.iconst 0, 1) := by decide +kernel
theorem dX9_leastStates_14 : decode cX9_leastStates 14 = .ok (.istore_n 3, 1) := by decide +kernel
theorem dX9_leastStates_15 : decode cX9_leastStates 15 = .ok (.iload_n 3, 1) := by decide +kernel
theorem dX9_leastStates_16 : decode cX9_leastStates 16 = .ok (.aload_n 1, 1) := by decide +kernel
theorem dX9_leastStates_17 : decode cX9_leastStates 17 = .ok (.getfield 106, 3) := by decide +kernel
theorem dX9_leastStates_20 : decode cX9_leastStates 20 = .ok (.if_icmp .ge 29, 3) := by decide +kernel
theorem dX9_leastStates_23 : decode cX9_leastStates 23 = .ok (.aload_n 1, 1) := by decide +kernel
theorem dX9_leastStates_24 : decode cX9_leastStates 24 = .ok (.iload_n 3, 1) := by decide +kernel
theorem dX9_leastStates_25 : decode cX9_leastStates 25 = .ok (.invokevirtual 92, 3) := by decide +kernel
theorem dX9_leastStates_28 : decode cX9_leastStates 28 = .ok (.iconst (-1), 1) := by decide +kernel
theorem dX9_leastStates_29 : decode cX9_leastStates 29 = .ok (.if_icmp .eq 14, 3) := by decide +kernel
theorem dX9_leastStates_32 : decode cX9_leastStates 32 = .ok (.aload_n 0, 1) := by decide +kernel
theorem dX9_leastStates_33 : decode cX9_leastStates 33 = .ok (.iload_n 3, 1) := by decide +kernel
theorem dX9_leastStates_34 : decode cX9_leastStates 34 = .ok (.invokevirtual 109, 3) := by decide +kernel
theorem dX9_leastStates_37 : decode cX9_leastStates 37 = .ok (.ifCond .ne 6, 3) := by decide +kernel
theorem dX9_leastStates_40 : decode cX9_leastStates 40 = .ok (.iinc 2 1, 3) := by decide +kernel
theorem dX9_leastStates_43 : decode cX9_leastStates 43 = .ok (.iinc 3 1, 3) := by decide +kernel
theorem dX9_leastStates_46 : decode cX9_leastStates 46 = .ok (.goto (-31), 3) := by decide +kernel
theorem dX9_leastStates_49 : decode cX9_leastStates 49 = .ok (.iload_n 2, 1) := by decide +kernel
theorem dX9_leastStates_50 : decode cX9_leastStates 50 = .ok (.ireturn, 1) := by decide +kernel
set_option maxRecDepth 100000 in
theorem w_TL_leastStates_J43 {p : Program} {l : Launch} {e : Env} {s : State} {m : MethodId} {args : Array Value} {below : List Frame} {meth : Method} {c : Code} {Q : State → Prop} {A : Nat → Prop} {D : va_G} {cI cJ cZ cO : ClassId} {q_this q_world q_slots q_text q_search q_world_teacher q_world_learner q_world_teacher_machine q_world_teacher_lies q_world_teacher_machine_moves q_world_teacher_machine_finals q_search_seen q_search_queue q_search_origin q_search_arrival q_search_letters : Nat} {v_textLength : Int32} {v_world_teacher_lieCount : Int32} {v_world_teacher_machine_size : Int32} {v_world_teacher_machine_letters : Int32} {v_world_teacher_machine_moves : (Nat → Int32)} {v_world_teacher_machine_finals : (Nat → Int32)} {v_search_length : Int32} {v_search_queued : Int32} {v_search_seen : (Nat → Int32)} {v_search_queue : (Nat → Int32)} {v_search_origin : (Nat → Int32)} {v_search_arrival : (Nat → Int32)} {v_search_letters : (Nat → Int32)} {x : Int32 × (Nat → Int32) × (Nat → Int32) × (Nat → Int32) × (Nat → Int32) × (Nat → Int32) × Int32 × Int32} {x2 : Int32} {x3 : Int32} (C0 : Cx p s m args c A D cI cJ cZ cO cX9_leastStates 4 RX9) (hQ : RtI p l e rm_TL_leastStates s m args below meth c Q A D cX9_leastStates .int (ws_TL_leastStates cI cJ cZ q_this q_world q_slots q_text q_search q_world_teacher q_world_learner q_world_teacher_machine q_world_teacher_lies q_world_teacher_machine_moves q_world_teacher_machine_finals q_search_seen q_search_queue q_search_origin q_search_arrival q_search_letters v_textLength v_world_teacher_lieCount v_world_teacher_machine_size v_world_teacher_machine_letters v_world_teacher_machine_moves v_world_teacher_machine_finals x.2.2.2.2.2.2.1 x.2.2.2.2.2.2.2 x.2.1 x.2.2.1 x.2.2.2.1 x.2.2.2.2.1 x.2.2.2.2.2.1) x.1) {K : Int32 → Int32 → (Nat → Int32) → (Nat → Int32) → (Nat → Int32) → (Nat → Int32) → (Nat → Int32) → Int32 → Int32 → Option (Int32 × (Nat → Int32) × (Nat → Int32) × (Nat → Int32) × (Nat → Int32) × (Nat → Int32) × Int32 × Int32)} (hK : ∀ (y2 : Int32) (y3 : Int32) (u_search_seen : (Nat → Int32)) (u_search_queue : (Nat → Int32)) (u_search_origin : (Nat → Int32)) (u_search_arrival : (Nat → Int32)) (u_search_letters : (Nat → Int32)) (u_search_length : Int32) (u_search_queued : Int32) (H : Heap) (locs : List Loc) (ls : Array Slot), K y2 y3 u_search_seen u_search_queue u_search_origin u_search_arrival u_search_letters u_search_length u_search_queued = some x → Wd s A D (ws_TL_leastStates cI cJ cZ q_this q_world q_slots q_text q_search q_world_teacher q_world_learner q_world_teacher_machine q_world_teacher_lies q_world_teacher_machine_moves q_world_teacher_machine_finals q_search_seen q_search_queue q_search_origin q_search_arrival q_search_letters v_textLength v_world_teacher_lieCount v_world_teacher_machine_size v_world_teacher_machine_letters v_world_teacher_machine_moves v_world_teacher_machine_finals u_search_length u_search_queued u_search_seen u_search_queue u_search_origin u_search_arrival u_search_letters) H locs → lv_has ls 4 [(2, .int y2)] → W p l e rm_TL_leastStates s m args below meth c H locs 0 0 Q (F0 m 49 ls [])) {rec : Int32 → Int32 → (Nat → Int32) → (Nat → Int32) → (Nat → Int32) → (Nat → Int32) → (Nat → Int32) → Int32 → Int32 → Option (Int32 × (Nat → Int32) × (Nat → Int32) × (Nat → Int32) × (Nat → Int32) × (Nat → Int32) × Int32 × Int32)} (hrec : ∀ (y2 : Int32) (y3 : Int32) (u_search_seen : (Nat → Int32)) (u_search_queue : (Nat → Int32)) (u_search_origin : (Nat → Int32)) (u_search_arrival : (Nat → Int32)) (u_search_letters : (Nat → Int32)) (u_search_length : Int32) (u_search_queued : Int32) (H : Heap) (locs : List Loc) (ls : Array Slot), rec y2 y3 u_search_seen u_search_queue u_search_origin u_search_arrival u_search_letters u_search_length u_search_queued = some x → Wd s A D (ws_TL_leastStates cI cJ cZ q_this q_world q_slots q_text q_search q_world_teacher q_world_learner q_world_teacher_machine q_world_teacher_lies q_world_teacher_machine_moves q_world_teacher_machine_finals q_search_seen q_search_queue q_search_origin q_search_arrival q_search_letters v_textLength v_world_teacher_lieCount v_world_teacher_machine_size v_world_teacher_machine_letters v_world_teacher_machine_moves v_world_teacher_machine_finals u_search_length u_search_queued u_search_seen u_search_queue u_search_origin u_search_arrival u_search_letters) H locs → lv_has ls 4 [(0, .ref q_this), (1, .ref q_world_teacher_machine), (2, .int y2), (3, .int y3)] → W p l e rm_TL_leastStates s m args below meth c H locs 0 0 Q (F0 m 15 ls [])) {H : Heap} {locs : List Loc} {ls : Array Slot} (h : f_TL_leastStates_J43 rec x2 x3 v_search_length v_search_queued v_search_seen v_search_queue v_search_origin v_search_arrival v_search_letters = some x) (w : Wd s A D (ws_TL_leastStates cI cJ cZ q_this q_world q_slots q_text q_search q_world_teacher q_world_learner q_world_teacher_machine q_world_teacher_lies q_world_teacher_machine_moves q_world_teacher_machine_finals q_search_seen q_search_queue q_search_origin q_search_arrival q_search_letters v_textLength v_world_teacher_lieCount v_world_teacher_machine_size v_world_teacher_machine_letters v_world_teacher_machine_moves v_world_teacher_machine_finals v_search_length v_search_queued v_search_seen v_search_queue v_search_origin v_search_arrival v_search_letters) H locs) (hl : lv_has ls 4 [(0, .ref q_this), (1, .ref q_world_teacher_machine), (2, .int x2), (3, .int x3)]) : W p l e rm_TL_leastStates s m args below meth c H locs 0 0 Q (F0 m 43 ls []) := by
  obtain ⟨hx, hb, hml, hown, hts, -, -⟩ := id C0
  unfold f_TL_leastStates_J43 at h
  obtain ⟨x3_1, ex3_1⟩ : ∃ y : Int32, y = (x3 + 1) := ⟨_, rfl⟩
  have h := bnd_at ex3_1 h
  refine lv_iinc (v := x3_1) (lv' := [(3, .int x3_1), (0, .ref q_this), (1, .ref q_world_teacher_machine), (2, .int x2)]) hx hb dX9_leastStates_43 hl (k := 3) rfl (by rw [ex3_1]; rfl) (by decide) rfl (fun ls hl => ?_)
  refine lv_goto (tgt := 15) hx hb dX9_leastStates_46 (by decide) ?_
  exact hrec _ _ _ _ _ _ _ _ _ _ _ _ h w (lv_sub hl [1, 2, 3, 0] rfl)
set_option maxRecDepth 100000 in
theorem w_TL_leastStates_L15 {p : Program} {l : Launch} {e : Env} {s : State} {m : MethodId} {args : Array Value} {below : List Frame} {meth : Method} {c : Code} {Q : State → Prop} {A : Nat → Prop} {D : va_G} {cI cJ cZ cO : ClassId} {q_this q_world q_slots q_text q_search q_world_teacher q_world_learner q_world_teacher_machine q_world_teacher_lies q_world_teacher_machine_moves q_world_teacher_machine_finals q_search_seen q_search_queue q_search_origin q_search_arrival q_search_letters : Nat} {v_textLength : Int32} {v_world_teacher_lieCount : Int32} {v_world_teacher_machine_size : Int32} {v_world_teacher_machine_letters : Int32} {v_world_teacher_machine_moves : (Nat → Int32)} {v_world_teacher_machine_finals : (Nat → Int32)} {x : Int32 × (Nat → Int32) × (Nat → Int32) × (Nat → Int32) × (Nat → Int32) × (Nat → Int32) × Int32 × Int32} (C0 : Cx p s m args c A D cI cJ cZ cO cX9_leastStates 4 RX9) (hQ : RtI p l e rm_TL_leastStates s m args below meth c Q A D cX9_leastStates .int (ws_TL_leastStates cI cJ cZ q_this q_world q_slots q_text q_search q_world_teacher q_world_learner q_world_teacher_machine q_world_teacher_lies q_world_teacher_machine_moves q_world_teacher_machine_finals q_search_seen q_search_queue q_search_origin q_search_arrival q_search_letters v_textLength v_world_teacher_lieCount v_world_teacher_machine_size v_world_teacher_machine_letters v_world_teacher_machine_moves v_world_teacher_machine_finals x.2.2.2.2.2.2.1 x.2.2.2.2.2.2.2 x.2.1 x.2.2.1 x.2.2.2.1 x.2.2.2.2.1 x.2.2.2.2.2.1) x.1) {K : Int32 → Int32 → (Nat → Int32) → (Nat → Int32) → (Nat → Int32) → (Nat → Int32) → (Nat → Int32) → Int32 → Int32 → Option (Int32 × (Nat → Int32) × (Nat → Int32) × (Nat → Int32) × (Nat → Int32) × (Nat → Int32) × Int32 × Int32)} (hK : ∀ (x2 : Int32) (x3 : Int32) (v_search_seen : (Nat → Int32)) (v_search_queue : (Nat → Int32)) (v_search_origin : (Nat → Int32)) (v_search_arrival : (Nat → Int32)) (v_search_letters : (Nat → Int32)) (v_search_length : Int32) (v_search_queued : Int32) (H : Heap) (locs : List Loc) (ls : Array Slot), K x2 x3 v_search_seen v_search_queue v_search_origin v_search_arrival v_search_letters v_search_length v_search_queued = some x → Wd s A D (ws_TL_leastStates cI cJ cZ q_this q_world q_slots q_text q_search q_world_teacher q_world_learner q_world_teacher_machine q_world_teacher_lies q_world_teacher_machine_moves q_world_teacher_machine_finals q_search_seen q_search_queue q_search_origin q_search_arrival q_search_letters v_textLength v_world_teacher_lieCount v_world_teacher_machine_size v_world_teacher_machine_letters v_world_teacher_machine_moves v_world_teacher_machine_finals v_search_length v_search_queued v_search_seen v_search_queue v_search_origin v_search_arrival v_search_letters) H locs → lv_has ls 4 [(2, .int x2)] → W p l e rm_TL_leastStates s m args below meth c H locs 0 0 Q (F0 m 49 ls [])) {rec : Int32 → Int32 → (Nat → Int32) → (Nat → Int32) → (Nat → Int32) → (Nat → Int32) → (Nat → Int32) → Int32 → Int32 → Option (Int32 × (Nat → Int32) × (Nat → Int32) × (Nat → Int32) × (Nat → Int32) × (Nat → Int32) × Int32 × Int32)} (hrec : ∀ (x2 : Int32) (x3 : Int32) (v_search_seen : (Nat → Int32)) (v_search_queue : (Nat → Int32)) (v_search_origin : (Nat → Int32)) (v_search_arrival : (Nat → Int32)) (v_search_letters : (Nat → Int32)) (v_search_length : Int32) (v_search_queued : Int32) (H : Heap) (locs : List Loc) (ls : Array Slot), rec x2 x3 v_search_seen v_search_queue v_search_origin v_search_arrival v_search_letters v_search_length v_search_queued = some x → Wd s A D (ws_TL_leastStates cI cJ cZ q_this q_world q_slots q_text q_search q_world_teacher q_world_learner q_world_teacher_machine q_world_teacher_lies q_world_teacher_machine_moves q_world_teacher_machine_finals q_search_seen q_search_queue q_search_origin q_search_arrival q_search_letters v_textLength v_world_teacher_lieCount v_world_teacher_machine_size v_world_teacher_machine_letters v_world_teacher_machine_moves v_world_teacher_machine_finals v_search_length v_search_queued v_search_seen v_search_queue v_search_origin v_search_arrival v_search_letters) H locs → lv_has ls 4 [(0, .ref q_this), (1, .ref q_world_teacher_machine), (2, .int x2), (3, .int x3)] → W p l e rm_TL_leastStates s m args below meth c H locs 0 0 Q (F0 m 15 ls [])) (x2 : Int32) (x3 : Int32) (v_search_seen : (Nat → Int32)) (v_search_queue : (Nat → Int32)) (v_search_origin : (Nat → Int32)) (v_search_arrival : (Nat → Int32)) (v_search_letters : (Nat → Int32)) (v_search_length : Int32) (v_search_queued : Int32) {H : Heap} {locs : List Loc} {ls : Array Slot} (h : f_TL_leastStates_L15 v_world_teacher_machine_size v_world_teacher_machine_letters v_world_teacher_machine_moves v_world_teacher_machine_finals K rec x2 x3 v_search_seen v_search_queue v_search_origin v_search_arrival v_search_letters v_search_length v_search_queued = some x) (w : Wd s A D (ws_TL_leastStates cI cJ cZ q_this q_world q_slots q_text q_search q_world_teacher q_world_learner q_world_teacher_machine q_world_teacher_lies q_world_teacher_machine_moves q_world_teacher_machine_finals q_search_seen q_search_queue q_search_origin q_search_arrival q_search_letters v_textLength v_world_teacher_lieCount v_world_teacher_machine_size v_world_teacher_machine_letters v_world_teacher_machine_moves v_world_teacher_machine_finals v_search_length v_search_queued v_search_seen v_search_queue v_search_origin v_search_arrival v_search_letters) H locs) (hl : lv_has ls 4 [(0, .ref q_this), (1, .ref q_world_teacher_machine), (2, .int x2), (3, .int x3)]) : W p l e rm_TL_leastStates s m args below meth c H locs 0 0 Q (F0 m 15 ls []) := by
  obtain ⟨hx, hb, hml, hown, hts, -, -⟩ := id C0
  unfold f_TL_leastStates_L15 at h
  refine lv_iload_n hx hb dX9_leastStates_15 rfl (lv_at hl 3 rfl) ?_
  refine lv_aload_n hx hb dX9_leastStates_16 rfl (lv_at hl 1 rfl) ?_
  refine r_get C0 w 3 rfl kf_Au 2 (by decide) lf_RX9_106 rfl dX9_leastStates_17 ?_
  refine lv_icmp_ge (tgt := 49) hx hb dX9_leastStates_20 (by decide) (fun hc => ?_) (fun hc => ?_)
  · have h := if_h hc h
    exact hK _ _ _ _ _ _ _ _ _ _ _ _ h w (lv_sub hl [2] rfl)
  · have h := nf_h hc h
    refine lv_aload_n hx hb dX9_leastStates_23 rfl (lv_at hl 1 rfl) ?_
    refine lv_iload_n hx hb dX9_leastStates_24 rfl (lv_at hl 3 rfl) ?_
    obtain ⟨r, hcall, h⟩ := bd1_h h
    obtain ⟨wr, hp, hp'⟩ := rd_of (ws := (ws_TL_leastStates cI cJ cZ q_this q_world q_slots q_text q_search q_world_teacher q_world_learner q_world_teacher_machine q_world_teacher_lies q_world_teacher_machine_moves q_world_teacher_machine_finals q_search_seen q_search_queue q_search_origin q_search_arrival q_search_letters v_textLength v_world_teacher_lieCount v_world_teacher_machine_size v_world_teacher_machine_letters v_world_teacher_machine_moves v_world_teacher_machine_finals v_search_length v_search_queued v_search_seen v_search_queue v_search_origin v_search_arrival v_search_letters)) (wc := (ws_Au_distanceTo cI cJ cZ q_world_teacher_machine q_world_teacher_machine_moves q_world_teacher_machine_finals 24 v_world_teacher_machine_size v_world_teacher_machine_letters v_world_teacher_machine_moves)) [3, 4] rfl rfl
    refine r_VI (r := r) (As := [.int x3]) (rest := []) (wc' := (ws_Au_distanceTo cI cJ cZ q_world_teacher_machine q_world_teacher_machine_moves q_world_teacher_machine_finals 24 v_world_teacher_machine_size v_world_teacher_machine_letters v_world_teacher_machine_moves)) (ws' := (ws_TL_leastStates cI cJ cZ q_this q_world q_slots q_text q_search q_world_teacher q_world_learner q_world_teacher_machine q_world_teacher_lies q_world_teacher_machine_moves q_world_teacher_machine_finals q_search_seen q_search_queue q_search_origin q_search_arrival q_search_letters v_textLength v_world_teacher_lieCount v_world_teacher_machine_size v_world_teacher_machine_letters v_world_teacher_machine_moves v_world_teacher_machine_finals v_search_length v_search_queued v_search_seen v_search_queue v_search_origin v_search_arrival v_search_letters)) C0 w (c_Au_distanceTo hcall) hp hp' lm_RX9_92 mv_Au_distanceTo ⟨rfl, rfl⟩ ⟨by decide, by decide⟩ ⟨Nat.zero_le _, Nat.zero_le _⟩ (q0 := 3) rfl rfl rfl rfl hl rfl (Nat.le_of_ble_eq_true rfl) dX9_leastStates_25 (fun H locs w => ?_)
    refine lv_iconst (v := (-1 : Int32)) hx hb dX9_leastStates_28 (by decide) ?_
    refine lv_icmp_eq (tgt := 43) hx hb dX9_leastStates_29 (by decide) (fun hc => ?_) (fun hc => ?_)
    · have h := if_h hc h
      exact w_TL_leastStates_J43 C0 hQ hK hrec h w (lv_sub hl [0, 1, 2, 3] rfl)
    · have h := nf_h hc h
      refine lv_aload_n hx hb dX9_leastStates_32 rfl (lv_at hl 0 rfl) ?_
      refine lv_iload_n hx hb dX9_leastStates_33 rfl (lv_at hl 3 rfl) ?_
      obtain ⟨r_1, v_search_seen_1, v_search_queue_1, v_search_origin_1, v_search_arrival_1, v_search_letters_1, v_search_length_1, v_search_queued_1, hcall, h⟩ := bd8_h h
      have hp := sp_of (ws := (ws_TL_leastStates cI cJ cZ q_this q_world q_slots q_text q_search q_world_teacher q_world_learner q_world_teacher_machine q_world_teacher_lies q_world_teacher_machine_moves q_world_teacher_machine_finals q_search_seen q_search_queue q_search_origin q_search_arrival q_search_letters v_textLength v_world_teacher_lieCount v_world_teacher_machine_size v_world_teacher_machine_letters v_world_teacher_machine_moves v_world_teacher_machine_finals v_search_length v_search_queued v_search_seen v_search_queue v_search_origin v_search_arrival v_search_letters)) (wc := (ws_TL_hasEarlierEqual cI cJ cZ q_this q_world q_slots q_text q_search q_world_teacher q_world_learner q_world_teacher_machine q_world_teacher_lies q_world_teacher_machine_moves q_world_teacher_machine_finals q_search_seen q_search_queue q_search_origin q_search_arrival q_search_letters v_textLength v_world_teacher_lieCount v_world_teacher_machine_size v_world_teacher_machine_letters v_world_teacher_machine_moves v_world_teacher_machine_finals v_search_length v_search_queued v_search_seen v_search_queue v_search_origin v_search_arrival v_search_letters)) [0, 1, 2, 3, 4, 5, 6, 7, 8, 9, 10, 11] [] rfl rfl
      have hp' : Rp (pk (ws_TL_leastStates cI cJ cZ q_this q_world q_slots q_text q_search q_world_teacher q_world_learner q_world_teacher_machine q_world_teacher_lies q_world_teacher_machine_moves q_world_teacher_machine_finals q_search_seen q_search_queue q_search_origin q_search_arrival q_search_letters v_textLength v_world_teacher_lieCount v_world_teacher_machine_size v_world_teacher_machine_letters v_world_teacher_machine_moves v_world_teacher_machine_finals v_search_length v_search_queued v_search_seen v_search_queue v_search_origin v_search_arrival v_search_letters) [] ++ (ws_TL_hasEarlierEqual cI cJ cZ q_this q_world q_slots q_text q_search q_world_teacher q_world_learner q_world_teacher_machine q_world_teacher_lies q_world_teacher_machine_moves q_world_teacher_machine_finals q_search_seen q_search_queue q_search_origin q_search_arrival q_search_letters v_textLength v_world_teacher_lieCount v_world_teacher_machine_size v_world_teacher_machine_letters v_world_teacher_machine_moves v_world_teacher_machine_finals v_search_length_1 v_search_queued_1 v_search_seen_1 v_search_queue_1 v_search_origin_1 v_search_arrival_1 v_search_letters_1)) (ws_TL_leastStates cI cJ cZ q_this q_world q_slots q_text q_search q_world_teacher q_world_learner q_world_teacher_machine q_world_teacher_lies q_world_teacher_machine_moves q_world_teacher_machine_finals q_search_seen q_search_queue q_search_origin q_search_arrival q_search_letters v_textLength v_world_teacher_lieCount v_world_teacher_machine_size v_world_teacher_machine_letters v_world_teacher_machine_moves v_world_teacher_machine_finals v_search_length_1 v_search_queued_1 v_search_seen_1 v_search_queue_1 v_search_origin_1 v_search_arrival_1 v_search_letters_1) := ⟨[0, 1, 2, 3, 4, 5, 6, 7, 8, 9, 10, 11], rfl, rfl⟩
      refine r_VI (r := r_1) (As := [.int x3]) (rest := []) (wc' := (ws_TL_hasEarlierEqual cI cJ cZ q_this q_world q_slots q_text q_search q_world_teacher q_world_learner q_world_teacher_machine q_world_teacher_lies q_world_teacher_machine_moves q_world_teacher_machine_finals q_search_seen q_search_queue q_search_origin q_search_arrival q_search_letters v_textLength v_world_teacher_lieCount v_world_teacher_machine_size v_world_teacher_machine_letters v_world_teacher_machine_moves v_world_teacher_machine_finals v_search_length_1 v_search_queued_1 v_search_seen_1 v_search_queue_1 v_search_origin_1 v_search_arrival_1 v_search_letters_1)) (ws' := (ws_TL_leastStates cI cJ cZ q_this q_world q_slots q_text q_search q_world_teacher q_world_learner q_world_teacher_machine q_world_teacher_lies q_world_teacher_machine_moves q_world_teacher_machine_finals q_search_seen q_search_queue q_search_origin q_search_arrival q_search_letters v_textLength v_world_teacher_lieCount v_world_teacher_machine_size v_world_teacher_machine_letters v_world_teacher_machine_moves v_world_teacher_machine_finals v_search_length_1 v_search_queued_1 v_search_seen_1 v_search_queue_1 v_search_origin_1 v_search_arrival_1 v_search_letters_1)) C0 w (c_TL_hasEarlierEqual hcall) hp hp' lm_RX9_109 mv_TL_hasEarlierEqual ⟨rfl, rfl⟩ ⟨by decide, by decide⟩ ⟨Nat.zero_le _, Nat.zero_le _⟩ (q0 := 0) rfl rfl rfl rfl hl rfl (Nat.le_of_ble_eq_true rfl) dX9_leastStates_34 (fun H locs w => ?_)
      refine lv_if_ne (tgt := 43) hx hb dX9_leastStates_37 (by decide) (fun hc => ?_) (fun hc => ?_)
      · have h := nf_h hc h
        exact w_TL_leastStates_J43 C0 hQ hK hrec h w (lv_sub hl [0, 1, 2, 3] rfl)
      · have h := if_h hc h
        obtain ⟨x2_1, ex2_1⟩ : ∃ y : Int32, y = (x2 + 1) := ⟨_, rfl⟩
        have h := bnd_at ex2_1 h
        refine lv_iinc (v := x2_1) (lv' := [(2, .int x2_1), (0, .ref q_this), (1, .ref q_world_teacher_machine), (3, .int x3)]) hx hb dX9_leastStates_40 hl (k := 2) rfl (by rw [ex2_1]; rfl) (by decide) rfl (fun ls hl => ?_)
        exact w_TL_leastStates_J43 C0 hQ hK hrec h w (lv_sub hl [1, 2, 0, 3] rfl)
set_option maxRecDepth 100000 in
theorem wl_TL_leastStates_L15 {p : Program} {l : Launch} {e : Env} {s : State} {m : MethodId} {args : Array Value} {below : List Frame} {meth : Method} {c : Code} {Q : State → Prop} {A : Nat → Prop} {D : va_G} {cI cJ cZ cO : ClassId} {q_this q_world q_slots q_text q_search q_world_teacher q_world_learner q_world_teacher_machine q_world_teacher_lies q_world_teacher_machine_moves q_world_teacher_machine_finals q_search_seen q_search_queue q_search_origin q_search_arrival q_search_letters : Nat} {v_textLength : Int32} {v_world_teacher_lieCount : Int32} {v_world_teacher_machine_size : Int32} {v_world_teacher_machine_letters : Int32} {v_world_teacher_machine_moves : (Nat → Int32)} {v_world_teacher_machine_finals : (Nat → Int32)} {x : Int32 × (Nat → Int32) × (Nat → Int32) × (Nat → Int32) × (Nat → Int32) × (Nat → Int32) × Int32 × Int32} (C0 : Cx p s m args c A D cI cJ cZ cO cX9_leastStates 4 RX9) (hQ : RtI p l e rm_TL_leastStates s m args below meth c Q A D cX9_leastStates .int (ws_TL_leastStates cI cJ cZ q_this q_world q_slots q_text q_search q_world_teacher q_world_learner q_world_teacher_machine q_world_teacher_lies q_world_teacher_machine_moves q_world_teacher_machine_finals q_search_seen q_search_queue q_search_origin q_search_arrival q_search_letters v_textLength v_world_teacher_lieCount v_world_teacher_machine_size v_world_teacher_machine_letters v_world_teacher_machine_moves v_world_teacher_machine_finals x.2.2.2.2.2.2.1 x.2.2.2.2.2.2.2 x.2.1 x.2.2.1 x.2.2.2.1 x.2.2.2.2.1 x.2.2.2.2.2.1) x.1) {K : Int32 → Int32 → (Nat → Int32) → (Nat → Int32) → (Nat → Int32) → (Nat → Int32) → (Nat → Int32) → Int32 → Int32 → Option (Int32 × (Nat → Int32) × (Nat → Int32) × (Nat → Int32) × (Nat → Int32) × (Nat → Int32) × Int32 × Int32)} (hK : ∀ (x2 : Int32) (x3 : Int32) (v_search_seen : (Nat → Int32)) (v_search_queue : (Nat → Int32)) (v_search_origin : (Nat → Int32)) (v_search_arrival : (Nat → Int32)) (v_search_letters : (Nat → Int32)) (v_search_length : Int32) (v_search_queued : Int32) (H : Heap) (locs : List Loc) (ls : Array Slot), K x2 x3 v_search_seen v_search_queue v_search_origin v_search_arrival v_search_letters v_search_length v_search_queued = some x → Wd s A D (ws_TL_leastStates cI cJ cZ q_this q_world q_slots q_text q_search q_world_teacher q_world_learner q_world_teacher_machine q_world_teacher_lies q_world_teacher_machine_moves q_world_teacher_machine_finals q_search_seen q_search_queue q_search_origin q_search_arrival q_search_letters v_textLength v_world_teacher_lieCount v_world_teacher_machine_size v_world_teacher_machine_letters v_world_teacher_machine_moves v_world_teacher_machine_finals v_search_length v_search_queued v_search_seen v_search_queue v_search_origin v_search_arrival v_search_letters) H locs → lv_has ls 4 [(2, .int x2)] → W p l e rm_TL_leastStates s m args below meth c H locs 0 0 Q (F0 m 49 ls [])) : ∀ (n : Nat) (x2 : Int32) (x3 : Int32) (v_search_seen : (Nat → Int32)) (v_search_queue : (Nat → Int32)) (v_search_origin : (Nat → Int32)) (v_search_arrival : (Nat → Int32)) (v_search_letters : (Nat → Int32)) (v_search_length : Int32) (v_search_queued : Int32) (H : Heap) (locs : List Loc) (ls : Array Slot), itr (fun _ _ _ _ _ _ _ _ _ => none) (f_TL_leastStates_L15 v_world_teacher_machine_size v_world_teacher_machine_letters v_world_teacher_machine_moves v_world_teacher_machine_finals K) n x2 x3 v_search_seen v_search_queue v_search_origin v_search_arrival v_search_letters v_search_length v_search_queued = some x → Wd s A D (ws_TL_leastStates cI cJ cZ q_this q_world q_slots q_text q_search q_world_teacher q_world_learner q_world_teacher_machine q_world_teacher_lies q_world_teacher_machine_moves q_world_teacher_machine_finals q_search_seen q_search_queue q_search_origin q_search_arrival q_search_letters v_textLength v_world_teacher_lieCount v_world_teacher_machine_size v_world_teacher_machine_letters v_world_teacher_machine_moves v_world_teacher_machine_finals v_search_length v_search_queued v_search_seen v_search_queue v_search_origin v_search_arrival v_search_letters) H locs → lv_has ls 4 [(0, .ref q_this), (1, .ref q_world_teacher_machine), (2, .int x2), (3, .int x3)] → W p l e rm_TL_leastStates s m args below meth c H locs 0 0 Q (F0 m 15 ls []) := by
  intro n
  induction n with
  | zero => intro _ _ _ _ _ _ _ _ _ _ _ _ h; cases (show none = some _ from h)
  | succ n ih => intro _ _ _ _ _ _ _ _ _ _ _ _ h w hl; exact w_TL_leastStates_L15 C0 hQ hK ih _ _ _ _ _ _ _ _ _ h w hl
set_option maxRecDepth 100000 in
theorem c_TL_leastStates {l : Launch} {D : va_G} {cI cJ cZ cO : ClassId} {q_this q_world q_slots q_text q_search q_world_teacher q_world_learner q_world_teacher_machine q_world_teacher_lies q_world_teacher_machine_moves q_world_teacher_machine_finals q_search_seen q_search_queue q_search_origin q_search_arrival q_search_letters : Nat} {v_textLength : Int32} {v_world_teacher_lieCount : Int32} {v_world_teacher_machine_size : Int32} {v_world_teacher_machine_letters : Int32} {v_world_teacher_machine_moves : (Nat → Int32)} {v_world_teacher_machine_finals : (Nat → Int32)} {v_search_length : Int32} {v_search_queued : Int32} {v_search_seen : (Nat → Int32)} {v_search_queue : (Nat → Int32)} {v_search_origin : (Nat → Int32)} {v_search_arrival : (Nat → Int32)} {v_search_letters : (Nat → Int32)} {x : Int32 × (Nat → Int32) × (Nat → Int32) × (Nat → Int32) × (Nat → Int32) × (Nat → Int32) × Int32 × Int32} (h : f_TL_leastStates v_world_teacher_machine_size v_world_teacher_machine_letters v_world_teacher_machine_moves v_world_teacher_machine_finals v_search_length v_search_queued v_search_seen v_search_queue v_search_origin v_search_arrival v_search_letters = some x) : ctI l D cI cJ cZ cO yX9_leastStates cX9_leastStates 4 .int rm_TL_leastStates [.ref q_this] (ws_TL_leastStates cI cJ cZ q_this q_world q_slots q_text q_search q_world_teacher q_world_learner q_world_teacher_machine q_world_teacher_lies q_world_teacher_machine_moves q_world_teacher_machine_finals q_search_seen q_search_queue q_search_origin q_search_arrival q_search_letters v_textLength v_world_teacher_lieCount v_world_teacher_machine_size v_world_teacher_machine_letters v_world_teacher_machine_moves v_world_teacher_machine_finals v_search_length v_search_queued v_search_seen v_search_queue v_search_origin v_search_arrival v_search_letters) (ws_TL_leastStates cI cJ cZ q_this q_world q_slots q_text q_search q_world_teacher q_world_learner q_world_teacher_machine q_world_teacher_lies q_world_teacher_machine_moves q_world_teacher_machine_finals q_search_seen q_search_queue q_search_origin q_search_arrival q_search_letters v_textLength v_world_teacher_lieCount v_world_teacher_machine_size v_world_teacher_machine_letters v_world_teacher_machine_moves v_world_teacher_machine_finals x.2.2.2.2.2.2.1 x.2.2.2.2.2.2.2 x.2.1 x.2.2.1 x.2.2.2.1 x.2.2.2.2.1 x.2.2.2.2.2.1) x.1 := by
  refine ctI_of (by decide) (Nat.le_of_ble_eq_true rfl) ?_
  intro p e s m below meth c Q A ls C0 hQ w hl
  have hl : lv_has ls 4 [(0, .ref q_this)] := hl
  generalize List.toArray (α := Value) [.ref q_this] = args at C0 hQ ⊢
  obtain ⟨hx, hb, hml, hown, hts, -, -⟩ := id C0
  unfold f_TL_leastStates at h
  refine lv_aload_n hx hb dX9_leastStates_0 rfl (lv_at hl 0 rfl) ?_
  refine r_get C0 w 0 rfl kf_TL 0 (by decide) lf_RX9_10 rfl dX9_leastStates_1 ?_
  refine r_get C0 w 1 rfl kf_Wo 0 (by decide) lf_RX9_35 rfl dX9_leastStates_4 ?_
  refine r_get C0 w 2 rfl kf_Te 0 (by decide) lf_RX9_39 rfl dX9_leastStates_7 ?_
  refine lv_astore_n (lv' := [(1, .ref q_world_teacher_machine), (0, .ref q_this)]) hx hb dX9_leastStates_10 rfl hl (by decide) rfl (fun ls hl => ?_)
  refine lv_iconst (v := (0 : Int32)) hx hb dX9_leastStates_11 (by decide) ?_
  refine lv_istore_n (lv' := [(2, .int (0 : Int32)), (1, .ref q_world_teacher_machine), (0, .ref q_this)]) hx hb dX9_leastStates_12 rfl hl (by decide) rfl (fun ls hl => ?_)
  refine lv_iconst (v := (0 : Int32)) hx hb dX9_leastStates_13 (by decide) ?_
  refine lv_istore_n (lv' := [(3, .int (0 : Int32)), (2, .int (0 : Int32)), (1, .ref q_world_teacher_machine), (0, .ref q_this)]) hx hb dX9_leastStates_14 rfl hl (by decide) rfl (fun ls hl => ?_)
  refine wl_TL_leastStates_L15 C0 hQ (fun x2 x3 v_search_seen_1 v_search_queue_1 v_search_origin_1 v_search_arrival_1 v_search_letters_1 v_search_length_1 v_search_queued_1 H locs ls h w hl => ?_) _ _ _ _ _ _ _ _ _ _ _ _ _ h w (lv_sub hl [3, 2, 1, 0] rfl)
  refine lv_iload_n hx hb dX9_leastStates_49 rfl (lv_at hl 0 rfl) ?_
  cases h
  exact hQ _ _ _ _ dX9_leastStates_50 rfl w
theorem dX0_follow_0 : decode cX0_follow 0 = .ok (.iconst 0, 1) := by decide +kernel
theorem dX0_follow_1 : decode cX0_follow 1 = .ok (.istore 4, 2) := by decide +kernel
theorem dX0_follow_3 : decode cX0_follow 3 = .ok (.lload_n 1, 1) := by decide +kernel
theorem dX0_follow_4 : decode cX0_follow 4 = .ok (.lstore 5, 2) := by decide +kernel
theorem dX0_follow_6 : decode cX0_follow 6 = .ok (.iconst 0, 1) := by decide +kernel
theorem dX0_follow_7 : decode cX0_follow 7 = .ok (.istore 7, 2) := by decide +kernel
theorem dX0_follow_9 : decode cX0_follow 9 = .ok (.iload 7, 2) := by decide +kernel
theorem dX0_follow_11 : decode cX0_follow 11 = .ok (.iload_n 3, 1) := by decide +kernel
theorem dX0_follow_12 : decode cX0_follow 12 = .ok (.if_icmp .ge 34, 3) := by decide +kernel
theorem dX0_follow_15 : decode cX0_follow 15 = .ok (.aload_n 0, 1) := by decide +kernel
theorem dX0_follow_16 : decode cX0_follow 16 = .ok (.getfield 9, 3) := by decide +kernel
theorem dX0_follow_19 : decode cX0_follow 19 = .ok (.iload 4, 2) := by decide +kernel
theorem dX0_follow_21 : decode cX0_follow 21 = .ok (.iconst 3, 1) := by decide +kernel
theorem dX0_follow_22 : decode cX0_follow 22 = .ok (.imul, 1) := by decide +kernel
theorem dX0_follow_23 : decode cX0_follow 23 = .ok (.lload 5, 2) := by decide +kernel
theorem dX0_follow_25 : decode cX0_follow 25 = .ok (.ldc2_w 39, 3) := by decide +kernel
theorem dX0_follow_28 : decode cX0_follow 28 = .ok (.land, 1) := by decide +kernel
theorem dX0_follow_29 : decode cX0_follow 29 = .ok (.l2i, 1) := by decide +kernel
theorem dX0_follow_30 : decode cX0_follow 30 = .ok (.iadd, 1) := by decide +kernel
theorem dX0_follow_31 : decode cX0_follow 31 = .ok (.iaload, 1) := by decide +kernel
theorem dX0_follow_32 : decode cX0_follow 32 = .ok (.istore 4, 2) := by decide +kernel
theorem dX0_follow_34 : decode cX0_follow 34 = .ok (.lload 5, 2) := by decide +kernel
theorem dX0_follow_36 : decode cX0_follow 36 = .ok (.iconst 2, 1) := by decide +kernel
theorem dX0_follow_37 : decode cX0_follow 37 = .ok (.lshr, 1) := by decide +kernel
theorem dX0_follow_38 : decode cX0_follow 38 = .ok (.lstore 5, 2) := by decide +kernel
theorem dX0_follow_40 : decode cX0_follow 40 = .ok (.iinc 7 1, 3) := by decide +kernel
theorem dX0_follow_43 : decode cX0_follow 43 = .ok (.goto (-34), 3) := by decide +kernel
theorem dX0_follow_46 : decode cX0_follow 46 = .ok (.iload 4, 2) := by decide +kernel
theorem dX0_follow_48 : decode cX0_follow 48 = .ok (.ireturn, 1) := by decide +kernel
set_option maxRecDepth 100000 in
theorem w_Au_follow_L9 {p : Program} {l : Launch} {e : Env} {s : State} {m : MethodId} {args : Array Value} {below : List Frame} {meth : Method} {c : Code} {Q : State → Prop} {A : Nat → Prop} {D : va_G} {cI cJ cZ cO : ClassId} {q_this q_moves q_finals : Nat} {n_moves : Nat} {v_size : Int32} {v_letters : Int32} {v_moves : (Nat → Int32)} {x3 : Int32} {x : Int32} (C0 : Cx p s m args c A D cI cJ cZ cO cX0_follow 8 RX0) (hQ : RtI p l e rm_Au_follow s m args below meth c Q A D cX0_follow .int (ws_Au_follow cI cJ cZ q_this q_moves q_finals n_moves v_size v_letters v_moves) x) {K : Int32 → Int64 → Int32 → Option (Int32)} (hK : ∀ (x4 : Int32) (x5 : Int64) (x7 : Int32) (H : Heap) (locs : List Loc) (ls : Array Slot), K x4 x5 x7 = some x → Wd s A D (ws_Au_follow cI cJ cZ q_this q_moves q_finals n_moves v_size v_letters v_moves) H locs → lv_has ls 8 [(4, .int x4)] → W p l e rm_Au_follow s m args below meth c H locs 0 0 Q (F0 m 46 ls [])) {rec : Int32 → Int64 → Int32 → Option (Int32)} (hrec : ∀ (x4 : Int32) (x5 : Int64) (x7 : Int32) (H : Heap) (locs : List Loc) (ls : Array Slot), rec x4 x5 x7 = some x → Wd s A D (ws_Au_follow cI cJ cZ q_this q_moves q_finals n_moves v_size v_letters v_moves) H locs → lv_has ls 8 [(0, .ref q_this), (3, .int x3), (4, .int x4), (5, .long x5), (7, .int x7)] → W p l e rm_Au_follow s m args below meth c H locs 0 0 Q (F0 m 9 ls [])) (x4 : Int32) (x5 : Int64) (x7 : Int32) {H : Heap} {locs : List Loc} {ls : Array Slot} (h : f_Au_follow_L9 n_moves v_moves x3 K rec x4 x5 x7 = some x) (w : Wd s A D (ws_Au_follow cI cJ cZ q_this q_moves q_finals n_moves v_size v_letters v_moves) H locs) (hl : lv_has ls 8 [(0, .ref q_this), (3, .int x3), (4, .int x4), (5, .long x5), (7, .int x7)]) : W p l e rm_Au_follow s m args below meth c H locs 0 0 Q (F0 m 9 ls []) := by
  obtain ⟨hx, hb, hml, hown, hts, -, -⟩ := id C0
  unfold f_Au_follow_L9 at h
  refine lv_iload hx hb dX0_follow_9 (lv_at hl 4 rfl) ?_
  refine lv_iload_n hx hb dX0_follow_11 rfl (lv_at hl 1 rfl) ?_
  refine lv_icmp_ge (tgt := 46) hx hb dX0_follow_12 (by decide) (fun hc => ?_) (fun hc => ?_)
  · have h := if_h hc h
    exact hK _ _ _ _ _ _ h w (lv_sub hl [2] rfl)
  · have h := nf_h hc h
    refine lv_aload_n hx hb dX0_follow_15 rfl (lv_at hl 0 rfl) ?_
    refine r_get C0 w 0 rfl kf_Au 0 (by decide) lf_RX0_9 rfl dX0_follow_16 ?_
    refine lv_iload hx hb dX0_follow_19 (lv_at hl 2 rfl) ?_
    refine lv_iconst (v := (3 : Int32)) hx hb dX0_follow_21 (by decide) ?_
    refine lv_imul hx hb dX0_follow_22 ?_
    refine lv_lload hx hb dX0_follow_23 (lv_at hl 3 rfl) ?_
    refine lv_ldc2 (v := (3 : Int64)) hx hb hown (hts _ ll_RX0_39) dX0_follow_25 ?_
    refine lv_land hx hb dX0_follow_28 ?_
    refine lv_l2i hx hb dX0_follow_29 rfl ?_
    refine lv_iadd hx hb dX0_follow_30 ?_
    obtain ⟨hi, h⟩ := gIn_h h
    refine r_iald C0 w 1 rfl rfl hi dX0_follow_31 ?_
    refine lv_topi (fun x4_1 ex4_1 => ?_)
    have h := bnd_at ex4_1 h
    refine lv_istore (lv' := [(4, .int x4_1), (0, .ref q_this), (3, .int x3), (5, .long x5), (7, .int x7)]) hx hb dX0_follow_32 hl (by decide) rfl (fun ls hl => ?_)
    refine lv_lload hx hb dX0_follow_34 (lv_at hl 3 rfl) ?_
    refine lv_iconst (v := (2 : Int32)) hx hb dX0_follow_36 (by decide) ?_
    refine lv_lshr (v := (x5 >>> (2 : Int64))) hx hb dX0_follow_37 (lsh_litr (by decide)) ?_
    refine lv_topl (fun x5_1 ex5_1 => ?_)
    have h := bnd_at ex5_1 h
    refine lv_lstore (lv' := [(5, .long x5_1), (4, .int x4_1), (0, .ref q_this), (3, .int x3), (7, .int x7)]) hx hb dX0_follow_38 hl (by decide) rfl (fun ls hl => ?_)
    obtain ⟨x7_1, ex7_1⟩ : ∃ y : Int32, y = (x7 + 1) := ⟨_, rfl⟩
    have h := bnd_at ex7_1 h
    refine lv_iinc (v := x7_1) (lv' := [(7, .int x7_1), (5, .long x5_1), (4, .int x4_1), (0, .ref q_this), (3, .int x3)]) hx hb dX0_follow_40 hl (k := 4) rfl (by rw [ex7_1]; rfl) (by decide) rfl (fun ls hl => ?_)
    refine lv_goto (tgt := 9) hx hb dX0_follow_43 (by decide) ?_
    exact hrec _ _ _ _ _ _ h w (lv_sub hl [3, 4, 2, 1, 0] rfl)
set_option maxRecDepth 100000 in
theorem wl_Au_follow_L9 {p : Program} {l : Launch} {e : Env} {s : State} {m : MethodId} {args : Array Value} {below : List Frame} {meth : Method} {c : Code} {Q : State → Prop} {A : Nat → Prop} {D : va_G} {cI cJ cZ cO : ClassId} {q_this q_moves q_finals : Nat} {n_moves : Nat} {v_size : Int32} {v_letters : Int32} {v_moves : (Nat → Int32)} {x3 : Int32} {x : Int32} (C0 : Cx p s m args c A D cI cJ cZ cO cX0_follow 8 RX0) (hQ : RtI p l e rm_Au_follow s m args below meth c Q A D cX0_follow .int (ws_Au_follow cI cJ cZ q_this q_moves q_finals n_moves v_size v_letters v_moves) x) {K : Int32 → Int64 → Int32 → Option (Int32)} (hK : ∀ (x4 : Int32) (x5 : Int64) (x7 : Int32) (H : Heap) (locs : List Loc) (ls : Array Slot), K x4 x5 x7 = some x → Wd s A D (ws_Au_follow cI cJ cZ q_this q_moves q_finals n_moves v_size v_letters v_moves) H locs → lv_has ls 8 [(4, .int x4)] → W p l e rm_Au_follow s m args below meth c H locs 0 0 Q (F0 m 46 ls [])) : ∀ (n : Nat) (x4 : Int32) (x5 : Int64) (x7 : Int32) (H : Heap) (locs : List Loc) (ls : Array Slot), itr (fun _ _ _ => none) (f_Au_follow_L9 n_moves v_moves x3 K) n x4 x5 x7 = some x → Wd s A D (ws_Au_follow cI cJ cZ q_this q_moves q_finals n_moves v_size v_letters v_moves) H locs → lv_has ls 8 [(0, .ref q_this), (3, .int x3), (4, .int x4), (5, .long x5), (7, .int x7)] → W p l e rm_Au_follow s m args below meth c H locs 0 0 Q (F0 m 9 ls []) := by
  intro n
  induction n with
  | zero => intro _ _ _ _ _ _ h; cases (show none = some _ from h)
  | succ n ih => intro _ _ _ _ _ _ h w hl; exact w_Au_follow_L9 C0 hQ hK ih _ _ _ h w hl
set_option maxRecDepth 100000 in
theorem c_Au_follow {l : Launch} {D : va_G} {cI cJ cZ cO : ClassId} {q_this q_moves q_finals : Nat} {n_moves : Nat} {x1 : Int64} {x3 : Int32} {v_size : Int32} {v_letters : Int32} {v_moves : (Nat → Int32)} {x : Int32} (h : f_Au_follow n_moves x1 x3 v_moves = some x) : ctI l D cI cJ cZ cO yX0_follow cX0_follow 8 .int rm_Au_follow [.ref q_this, .long x1, .int x3] (ws_Au_follow cI cJ cZ q_this q_moves q_finals n_moves v_size v_letters v_moves) (ws_Au_follow cI cJ cZ q_this q_moves q_finals n_moves v_size v_letters v_moves) x := by
  refine ctI_of (by decide) (Nat.le_of_ble_eq_true rfl) ?_
  intro p e s m below meth c Q A ls C0 hQ w hl
  have hl : lv_has ls 8 [(0, .ref q_this), (1, .long x1), (3, .int x3)] := hl
  generalize List.toArray (α := Value) [.ref q_this, .long x1, .int x3] = args at C0 hQ ⊢
  obtain ⟨hx, hb, hml, hown, hts, -, -⟩ := id C0
  unfold f_Au_follow at h
  refine lv_iconst (v := (0 : Int32)) hx hb dX0_follow_0 (by decide) ?_
  refine lv_istore (lv' := [(4, .int (0 : Int32)), (0, .ref q_this), (1, .long x1), (3, .int x3)]) hx hb dX0_follow_1 hl (by decide) rfl (fun ls hl => ?_)
  refine lv_lload_n hx hb dX0_follow_3 rfl (lv_at hl 2 rfl) ?_
  refine lv_lstore (lv' := [(5, .long x1), (4, .int (0 : Int32)), (0, .ref q_this), (1, .long x1), (3, .int x3)]) hx hb dX0_follow_4 hl (by decide) rfl (fun ls hl => ?_)
  refine lv_iconst (v := (0 : Int32)) hx hb dX0_follow_6 (by decide) ?_
  refine lv_istore (lv' := [(7, .int (0 : Int32)), (5, .long x1), (4, .int (0 : Int32)), (0, .ref q_this), (1, .long x1), (3, .int x3)]) hx hb dX0_follow_7 hl (by decide) rfl (fun ls hl => ?_)
  refine wl_Au_follow_L9 C0 hQ (fun x4 x5 x7 H locs ls h w hl => ?_) _ _ _ _ _ _ _ h w (lv_sub hl [3, 5, 2, 1, 0] rfl)
  refine lv_iload hx hb dX0_follow_46 (lv_at hl 0 rfl) ?_
  cases h
  exact hQ _ _ _ _ dX0_follow_48 rfl w
theorem dX0_verdict_0 : decode cX0_verdict 0 = .ok (.aload_n 0, 1) := by decide +kernel
theorem dX0_verdict_1 : decode cX0_verdict 1 = .ok (.getfield 15, 3) := by decide +kernel
theorem dX0_verdict_4 : decode cX0_verdict 4 = .ok (.aload_n 0, 1) := by decide +kernel
theorem dX0_verdict_5 : decode cX0_verdict 5 = .ok (.lload_n 1, 1) := by decide +kernel
theorem dX0_verdict_6 : decode cX0_verdict 6 = .ok (.lload_n 1, 1) := by decide +kernel
theorem dX0_verdict_7 : decode cX0_verdict 7 = .ok (.invokestatic 41, 3) := by decide +kernel
theorem dX0_verdict_10 : decode cX0_verdict 10 = .ok (.invokevirtual 47, 3) := by decide +kernel
theorem dX0_verdict_13 : decode cX0_verdict 13 = .ok (.iaload, 1) := by decide +kernel
theorem dX0_verdict_14 : decode cX0_verdict 14 = .ok (.ireturn, 1) := by decide +kernel
set_option maxRecDepth 100000 in
theorem c_Au_verdict {l : Launch} {D : va_G} {cI cJ cZ cO : ClassId} {q_this q_moves q_finals : Nat} {n_moves n_finals : Nat} {x1 : Int64} {v_size : Int32} {v_letters : Int32} {v_moves : (Nat → Int32)} {v_finals : (Nat → Int32)} {x : Int32} (h : f_Au_verdict n_moves n_finals x1 v_moves v_finals = some x) : ctI l D cI cJ cZ cO yX0_verdict cX0_verdict 3 .int rm_Au_verdict [.ref q_this, .long x1] (ws_Au_verdict cI cJ cZ q_this q_moves q_finals n_moves n_finals v_size v_letters v_moves v_finals) (ws_Au_verdict cI cJ cZ q_this q_moves q_finals n_moves n_finals v_size v_letters v_moves v_finals) x := by
  refine ctI_of (by decide) (Nat.le_of_ble_eq_true rfl) ?_
  intro p e s m below meth c Q A ls C0 hQ w hl
  have hl : lv_has ls 3 [(0, .ref q_this), (1, .long x1)] := hl
  generalize List.toArray (α := Value) [.ref q_this, .long x1] = args at C0 hQ ⊢
  obtain ⟨hx, hb, hml, hown, hts, -, -⟩ := id C0
  unfold f_Au_verdict at h
  refine lv_aload_n hx hb dX0_verdict_0 rfl (lv_at hl 0 rfl) ?_
  refine r_get C0 w 0 rfl kf_Au 1 (by decide) lf_RX0_15 rfl dX0_verdict_1 ?_
  refine lv_aload_n hx hb dX0_verdict_4 rfl (lv_at hl 0 rfl) ?_
  refine lv_lload_n hx hb dX0_verdict_5 rfl (lv_at hl 1 rfl) ?_
  refine lv_lload_n hx hb dX0_verdict_6 rfl (lv_at hl 1 rfl) ?_
  obtain ⟨r, hcall, h⟩ := bd1_h h
  obtain ⟨wr, hp, hp'⟩ := rd_of (ws := (ws_Au_verdict cI cJ cZ q_this q_moves q_finals n_moves n_finals v_size v_letters v_moves v_finals)) (wc := (ws_Ws_lengthOf cI cJ cZ)) [] rfl rfl
  refine r_SI (r := r) (As := [.long x1]) (rest := [.long x1, .ref q_this, .ref q_finals]) (wc' := (ws_Ws_lengthOf cI cJ cZ)) (ws' := (ws_Au_verdict cI cJ cZ q_this q_moves q_finals n_moves n_finals v_size v_letters v_moves v_finals)) C0 w (c_Ws_lengthOf hcall) hp hp' lm_RX0_41 ms_Ws_lengthOf ⟨rfl, rfl⟩ ⟨by decide, by decide⟩ ⟨Nat.zero_le _, Nat.zero_le _⟩ rfl hl rfl (Nat.le_of_ble_eq_true rfl) dX0_verdict_7 (fun H locs w => ?_)
  obtain ⟨r_1, hcall, h⟩ := bd1_h h
  obtain ⟨wr, hp, hp'⟩ := rd_of (ws := (ws_Au_verdict cI cJ cZ q_this q_moves q_finals n_moves n_finals v_size v_letters v_moves v_finals)) (wc := (ws_Au_follow cI cJ cZ q_this q_moves q_finals n_moves v_size v_letters v_moves)) [0, 1] rfl rfl
  refine r_VI (r := r_1) (As := [.long x1, .int r]) (rest := [.ref q_finals]) (wc' := (ws_Au_follow cI cJ cZ q_this q_moves q_finals n_moves v_size v_letters v_moves)) (ws' := (ws_Au_verdict cI cJ cZ q_this q_moves q_finals n_moves n_finals v_size v_letters v_moves v_finals)) C0 w (c_Au_follow hcall) hp hp' lm_RX0_47 mv_Au_follow ⟨rfl, rfl⟩ ⟨by decide, by decide⟩ ⟨Nat.zero_le _, Nat.zero_le _⟩ (q0 := 0) rfl rfl rfl rfl hl rfl (Nat.le_of_ble_eq_true rfl) dX0_verdict_10 (fun H locs w => ?_)
  obtain ⟨hi, h⟩ := gIn_h h
  refine r_iald C0 w 2 rfl rfl hi dX0_verdict_13 ?_
  cases h
  exact hQ _ _ _ _ dX0_verdict_14 rfl w
theorem dX9_accepts_0 : decode cX9_accepts 0 = .ok (.aload_n 0, 1) := by decide +kernel
theorem dX9_accepts_1 : decode cX9_accepts 1 = .ok (.invokevirtual 79, 3) := by decide +kernel
theorem dX9_accepts_4 : decode cX9_accepts 4 = .ok (.lstore_n 1, 1) := by decide +kernel
theorem dX9_accepts_5 : decode cX9_accepts 5 = .ok (.lload_n 1, 1) := by decide +kernel
theorem dX9_accepts_6 : decode cX9_accepts 6 = .ok (.ldc2_w 83, 3) := by decide +kernel
theorem dX9_accepts_9 : decode cX9_accepts 9 = .ok (.lcmp, 1) := by decide +kernel
theorem dX9_accepts_10 : decode cX9_accepts 10 = .ok (.ifCond .ne 8, 3) := by decide +kernel
theorem dX9_accepts_13 : decode cX9_accepts 13 = .ok (.bipush (-2), 2) := by decide +kernel
theorem dX9_accepts_15 : decode cX9_accepts 15 = .ok (.goto 17, 3) := by decide +kernel
theorem dX9_accepts_18 : decode cX9_accepts 18 = .ok (.aload_n 0, 1) := by decide +kernel
theorem dX9_accepts_19 : decode cX9_accepts 19 = .ok (.getfield 10, 3) := by decide +kernel
theorem dX9_accepts_22 : decode cX9_accepts 22 = .ok (.getfield 35, 3) := by decide +kernel
theorem dX9_accepts_25 : decode cX9_accepts 25 = .ok (.getfield 39, 3) := by decide +kernel
theorem dX9_accepts_28 : decode cX9_accepts 28 = .ok (.lload_n 1, 1) := by decide +kernel
theorem dX9_accepts_29 : decode cX9_accepts 29 = .ok (.invokevirtual 112, 3) := by decide +kernel
theorem dX9_accepts_32 : decode cX9_accepts 32 = .ok (.ireturn, 1) := by decide +kernel
set_option maxRecDepth 100000 in
theorem c_TL_accepts {l : Launch} {D : va_G} {cI cJ cZ cO : ClassId} {q_this q_world q_slots q_text q_search q_world_teacher q_world_learner q_world_teacher_machine q_world_teacher_lies q_world_teacher_machine_moves q_world_teacher_machine_finals : Nat} {v_textLength : Int32} {v_world_teacher_lieCount : Int32} {v_world_teacher_machine_size : Int32} {v_world_teacher_machine_letters : Int32} {v_world_teacher_machine_moves : (Nat → Int32)} {v_world_teacher_machine_finals : (Nat → Int32)} {v_text : (Nat → Int32)} {x : Int32} (h : f_TL_accepts v_textLength v_world_teacher_machine_letters v_world_teacher_machine_moves v_world_teacher_machine_finals v_text = some x) : ctI l D cI cJ cZ cO yX9_accepts cX9_accepts 3 .int rm_TL_accepts [.ref q_this] (ws_TL_accepts cI cJ cZ q_this q_world q_slots q_text q_search q_world_teacher q_world_learner q_world_teacher_machine q_world_teacher_lies q_world_teacher_machine_moves q_world_teacher_machine_finals v_textLength v_world_teacher_lieCount v_world_teacher_machine_size v_world_teacher_machine_letters v_world_teacher_machine_moves v_world_teacher_machine_finals v_text) (ws_TL_accepts cI cJ cZ q_this q_world q_slots q_text q_search q_world_teacher q_world_learner q_world_teacher_machine q_world_teacher_lies q_world_teacher_machine_moves q_world_teacher_machine_finals v_textLength v_world_teacher_lieCount v_world_teacher_machine_size v_world_teacher_machine_letters v_world_teacher_machine_moves v_world_teacher_machine_finals v_text) x := by
  refine ctI_of (by decide) (Nat.le_of_ble_eq_true rfl) ?_
  intro p e s m below meth c Q A ls C0 hQ w hl
  have hl : lv_has ls 3 [(0, .ref q_this)] := hl
  generalize List.toArray (α := Value) [.ref q_this] = args at C0 hQ ⊢
  obtain ⟨hx, hb, hml, hown, hts, -, -⟩ := id C0
  unfold f_TL_accepts at h
  refine lv_aload_n hx hb dX9_accepts_0 rfl (lv_at hl 0 rfl) ?_
  obtain ⟨r, hcall, h⟩ := bd1_h h
  obtain ⟨wr, hp, hp'⟩ := rd_of (ws := (ws_TL_accepts cI cJ cZ q_this q_world q_slots q_text q_search q_world_teacher q_world_learner q_world_teacher_machine q_world_teacher_lies q_world_teacher_machine_moves q_world_teacher_machine_finals v_textLength v_world_teacher_lieCount v_world_teacher_machine_size v_world_teacher_machine_letters v_world_teacher_machine_moves v_world_teacher_machine_finals v_text)) (wc := (ws_TL_textWord cI cJ cZ q_this q_world q_slots q_text q_search q_world_teacher q_world_learner q_world_teacher_machine q_world_teacher_lies q_world_teacher_machine_moves q_world_teacher_machine_finals v_textLength v_world_teacher_lieCount v_world_teacher_machine_size v_world_teacher_machine_letters v_text)) [0, 1, 2, 3, 6] rfl rfl
  refine r_VJ (r := r) (As := []) (rest := []) (wc' := (ws_TL_textWord cI cJ cZ q_this q_world q_slots q_text q_search q_world_teacher q_world_learner q_world_teacher_machine q_world_teacher_lies q_world_teacher_machine_moves q_world_teacher_machine_finals v_textLength v_world_teacher_lieCount v_world_teacher_machine_size v_world_teacher_machine_letters v_text)) (ws' := (ws_TL_accepts cI cJ cZ q_this q_world q_slots q_text q_search q_world_teacher q_world_learner q_world_teacher_machine q_world_teacher_lies q_world_teacher_machine_moves q_world_teacher_machine_finals v_textLength v_world_teacher_lieCount v_world_teacher_machine_size v_world_teacher_machine_letters v_world_teacher_machine_moves v_world_teacher_machine_finals v_text)) C0 w (c_TL_textWord hcall) hp hp' lm_RX9_79 mv_TL_textWord ⟨rfl, rfl⟩ ⟨by decide, by decide⟩ ⟨Nat.zero_le _, Nat.zero_le _⟩ (q0 := 0) rfl rfl rfl rfl hl rfl (Nat.le_of_ble_eq_true rfl) dX9_accepts_1 (fun H locs w => ?_)
  refine lv_lstore_n (lv' := [(1, .long r), (0, .ref q_this)]) hx hb dX9_accepts_4 rfl hl (by decide) rfl (fun ls hl => ?_)
  refine lv_lload_n hx hb dX9_accepts_5 rfl (lv_at hl 0 rfl) ?_
  refine lv_ldc2 (v := (-1 : Int64)) hx hb hown (hts _ ll_RX9_83) dX9_accepts_6 ?_
  refine r_lc_ne (tgt := 18) hx hb dX9_accepts_9 dX9_accepts_10 (by decide) (fun hc => ?_) (fun hc => ?_)
  · have h := nf_h hc h
    refine lv_aload_n hx hb dX9_accepts_18 rfl (lv_at hl 1 rfl) ?_
    refine r_get C0 w 0 rfl kf_TL 0 (by decide) lf_RX9_10 rfl dX9_accepts_19 ?_
    refine r_get C0 w 1 rfl kf_Wo 0 (by decide) lf_RX9_35 rfl dX9_accepts_22 ?_
    refine r_get C0 w 2 rfl kf_Te 0 (by decide) lf_RX9_39 rfl dX9_accepts_25 ?_
    refine lv_lload_n hx hb dX9_accepts_28 rfl (lv_at hl 0 rfl) ?_
    obtain ⟨r_1, hcall, h⟩ := bd1_h h
    obtain ⟨wr, hp, hp'⟩ := rd_of (ws := (ws_TL_accepts cI cJ cZ q_this q_world q_slots q_text q_search q_world_teacher q_world_learner q_world_teacher_machine q_world_teacher_lies q_world_teacher_machine_moves q_world_teacher_machine_finals v_textLength v_world_teacher_lieCount v_world_teacher_machine_size v_world_teacher_machine_letters v_world_teacher_machine_moves v_world_teacher_machine_finals v_text)) (wc := (ws_Au_verdict cI cJ cZ q_world_teacher_machine q_world_teacher_machine_moves q_world_teacher_machine_finals 24 8 v_world_teacher_machine_size v_world_teacher_machine_letters v_world_teacher_machine_moves v_world_teacher_machine_finals)) [3, 4, 5] rfl rfl
    refine r_VI (r := r_1) (As := [.long r]) (rest := []) (wc' := (ws_Au_verdict cI cJ cZ q_world_teacher_machine q_world_teacher_machine_moves q_world_teacher_machine_finals 24 8 v_world_teacher_machine_size v_world_teacher_machine_letters v_world_teacher_machine_moves v_world_teacher_machine_finals)) (ws' := (ws_TL_accepts cI cJ cZ q_this q_world q_slots q_text q_search q_world_teacher q_world_learner q_world_teacher_machine q_world_teacher_lies q_world_teacher_machine_moves q_world_teacher_machine_finals v_textLength v_world_teacher_lieCount v_world_teacher_machine_size v_world_teacher_machine_letters v_world_teacher_machine_moves v_world_teacher_machine_finals v_text)) C0 w (c_Au_verdict hcall) hp hp' lm_RX9_112 mv_Au_verdict ⟨rfl, rfl⟩ ⟨by decide, by decide⟩ ⟨Nat.zero_le _, Nat.zero_le _⟩ (q0 := 3) rfl rfl rfl rfl hl rfl (Nat.le_of_ble_eq_true rfl) dX9_accepts_29 (fun H locs w => ?_)
    cases h
    exact hQ _ _ _ _ dX9_accepts_32 rfl w
  · have h := if_h hc h
    refine lv_bipush (v := (-2 : Int32)) hx hb dX9_accepts_13 (by decide) ?_
    refine lv_goto (tgt := 32) hx hb dX9_accepts_15 (by decide) ?_
    cases h
    exact hQ _ _ _ _ dX9_accepts_32 rfl w
theorem dX9_type_0 : decode cX9_type 0 = .ok (.iload_n 1, 1) := by decide +kernel
theorem dX9_type_1 : decode cX9_type 1 = .ok (.ifCond .lt 9, 3) := by decide +kernel
theorem dX9_type_4 : decode cX9_type 4 = .ok (.iload_n 1, 1) := by decide +kernel
theorem dX9_type_5 : decode cX9_type 5 = .ok (.bipush 127, 2) := by decide +kernel
theorem dX9_type_7 : decode cX9_type 7 = .ok (.if_icmp .le 6, 3) := by decide +kernel
theorem dX9_type_10 : decode cX9_type 10 = .ok (.bipush (-2), 2) := by decide +kernel
theorem dX9_type_12 : decode cX9_type 12 = .ok (.ireturn, 1) := by decide +kernel
theorem dX9_type_13 : decode cX9_type 13 = .ok (.aload_n 0, 1) := by decide +kernel
theorem dX9_type_14 : decode cX9_type 14 = .ok (.getfield 24, 3) := by decide +kernel
theorem dX9_type_17 : decode cX9_type 17 = .ok (.bipush 16, 2) := by decide +kernel
theorem dX9_type_19 : decode cX9_type 19 = .ok (.if_icmp .lt 6, 3) := by decide +kernel
theorem dX9_type_22 : decode cX9_type 22 = .ok (.bipush (-5), 2) := by decide +kernel
theorem dX9_type_24 : decode cX9_type 24 = .ok (.ireturn, 1) := by decide +kernel
theorem dX9_type_25 : decode cX9_type 25 = .ok (.aload_n 0, 1) := by decide +kernel
theorem dX9_type_26 : decode cX9_type 26 = .ok (.getfield 20, 3) := by decide +kernel
theorem dX9_type_29 : decode cX9_type 29 = .ok (.aload_n 0, 1) := by decide +kernel
theorem dX9_type_30 : decode cX9_type 30 = .ok (.getfield 24, 3) := by decide +kernel
theorem dX9_type_33 : decode cX9_type 33 = .ok (.iload_n 1, 1) := by decide +kernel
theorem dX9_type_34 : decode cX9_type 34 = .ok (.iastore, 1) := by decide +kernel
theorem dX9_type_35 : decode cX9_type 35 = .ok (.aload_n 0, 1) := by decide +kernel
theorem dX9_type_36 : decode cX9_type 36 = .ok (.dup, 1) := by decide +kernel
theorem dX9_type_37 : decode cX9_type 37 = .ok (.getfield 24, 3) := by decide +kernel
theorem dX9_type_40 : decode cX9_type 40 = .ok (.iconst 1, 1) := by decide +kernel
theorem dX9_type_41 : decode cX9_type 41 = .ok (.iadd, 1) := by decide +kernel
theorem dX9_type_42 : decode cX9_type 42 = .ok (.putfield 24, 3) := by decide +kernel
theorem dX9_type_45 : decode cX9_type 45 = .ok (.aload_n 0, 1) := by decide +kernel
theorem dX9_type_46 : decode cX9_type 46 = .ok (.getfield 24, 3) := by decide +kernel
theorem dX9_type_49 : decode cX9_type 49 = .ok (.ireturn, 1) := by decide +kernel
set_option maxRecDepth 100000 in
theorem c_TL_type {l : Launch} {D : va_G} {cI cJ cZ cO : ClassId} {q_this q_world q_slots q_text q_search : Nat} {x1 : Int32} {v_textLength : Int32} {v_text : (Nat → Int32)} {x : Int32 × (Nat → Int32) × Int32} (h : f_TL_type x1 v_textLength v_text = some x) : ctI l D cI cJ cZ cO yX9_type cX9_type 2 .int rm_TL_type [.ref q_this, .int x1] (ws_TL_type cI cJ cZ q_this q_world q_slots q_text q_search v_textLength v_text) (ws_TL_type cI cJ cZ q_this q_world q_slots q_text q_search x.2.2 x.2.1) x.1 := by
  refine ctI_of (by decide) (Nat.le_of_ble_eq_true rfl) ?_
  intro p e s m below meth c Q A ls C0 hQ w hl
  have hl : lv_has ls 2 [(0, .ref q_this), (1, .int x1)] := hl
  generalize List.toArray (α := Value) [.ref q_this, .int x1] = args at C0 hQ ⊢
  obtain ⟨hx, hb, hml, hown, hts, -, -⟩ := id C0
  unfold f_TL_type at h
  refine lv_iload_n hx hb dX9_type_0 rfl (lv_at hl 1 rfl) ?_
  refine lv_if_lt (tgt := 10) hx hb dX9_type_1 (by decide) (fun hc => ?_) (fun hc => ?_)
  · have h := if_h hc h
    refine lv_bipush (v := (-2 : Int32)) hx hb dX9_type_10 (by decide) ?_
    cases h
    exact hQ _ _ _ _ dX9_type_12 rfl w
  · have h := nf_h hc h
    refine lv_iload_n hx hb dX9_type_4 rfl (lv_at hl 1 rfl) ?_
    refine lv_bipush (v := (127 : Int32)) hx hb dX9_type_5 (by decide) ?_
    refine lv_icmp_le (tgt := 13) hx hb dX9_type_7 (by decide) (fun hc => ?_) (fun hc => ?_)
    · have h := if_h hc h
      refine lv_aload_n hx hb dX9_type_13 rfl (lv_at hl 0 rfl) ?_
      refine r_get C0 w 0 rfl kf_TL 3 (by decide) lf_RX9_24 rfl dX9_type_14 ?_
      refine lv_bipush (v := (16 : Int32)) hx hb dX9_type_17 (by decide) ?_
      refine lv_icmp_lt (tgt := 25) hx hb dX9_type_19 (by decide) (fun hc => ?_) (fun hc => ?_)
      · have h := if_h hc h
        refine lv_aload_n hx hb dX9_type_25 rfl (lv_at hl 0 rfl) ?_
        refine r_get C0 w 0 rfl kf_TL 2 (by decide) lf_RX9_20 rfl dX9_type_26 ?_
        refine lv_aload_n hx hb dX9_type_29 rfl (lv_at hl 0 rfl) ?_
        refine r_get C0 w 0 rfl kf_TL 3 (by decide) lf_RX9_24 rfl dX9_type_30 ?_
        refine lv_iload_n hx hb dX9_type_33 rfl (lv_at hl 1 rfl) ?_
        obtain ⟨hi, h⟩ := gIn_h h
        obtain ⟨v_text_1, ev_text_1⟩ : ∃ y, y = (upd v_text v_textLength.toNatClampNeg x1) := ⟨_, rfl⟩
        have h := bnd_at ev_text_1 h
        refine r_iast C0 w 1 rfl (f' := v_text_1) rfl hi ev_text_1 dX9_type_34 (ws' := (ws_TL_type cI cJ cZ q_this q_world q_slots q_text q_search v_textLength v_text_1)) rfl (fun H locs w => ?_)
        refine lv_aload_n hx hb dX9_type_35 rfl (lv_at hl 0 rfl) ?_
        refine lv_dup hx hb dX9_type_36 rfl ?_
        refine r_get C0 w 0 rfl kf_TL 3 (by decide) lf_RX9_24 rfl dX9_type_37 ?_
        refine lv_iconst (v := (1 : Int32)) hx hb dX9_type_40 (by decide) ?_
        refine lv_iadd hx hb dX9_type_41 ?_
        refine lv_topi (fun v_textLength_1 ev_textLength_1 => ?_)
        have h := bnd_at ev_textLength_1 h
        refine r_put C0 w 0 rfl kf_TL 3 (by decide) lf_RX9_24 rfl rfl rfl (Nat.le_of_ble_eq_true rfl) dX9_type_42 (ws' := (ws_TL_type cI cJ cZ q_this q_world q_slots q_text q_search v_textLength_1 v_text_1)) rfl (fun H locs w => ?_)
        refine lv_aload_n hx hb dX9_type_45 rfl (lv_at hl 0 rfl) ?_
        refine r_get C0 w 0 rfl kf_TL 3 (by decide) lf_RX9_24 rfl dX9_type_46 ?_
        cases h
        exact hQ _ _ _ _ dX9_type_49 rfl w
      · have h := nf_h hc h
        refine lv_bipush (v := (-5 : Int32)) hx hb dX9_type_22 (by decide) ?_
        cases h
        exact hQ _ _ _ _ dX9_type_24 rfl w
    · have h := nf_h hc h
      refine lv_bipush (v := (-2 : Int32)) hx hb dX9_type_10 (by decide) ?_
      cases h
      exact hQ _ _ _ _ dX9_type_12 rfl w
theorem dX9_clearText_0 : decode cX9_clearText 0 = .ok (.aload_n 0, 1) := by decide +kernel
theorem dX9_clearText_1 : decode cX9_clearText 1 = .ok (.getfield 24, 3) := by decide +kernel
theorem dX9_clearText_4 : decode cX9_clearText 4 = .ok (.istore_n 1, 1) := by decide +kernel
theorem dX9_clearText_5 : decode cX9_clearText 5 = .ok (.aload_n 0, 1) := by decide +kernel
theorem dX9_clearText_6 : decode cX9_clearText 6 = .ok (.iconst 0, 1) := by decide +kernel
theorem dX9_clearText_7 : decode cX9_clearText 7 = .ok (.putfield 24, 3) := by decide +kernel
theorem dX9_clearText_10 : decode cX9_clearText 10 = .ok (.iload_n 1, 1) := by decide +kernel
theorem dX9_clearText_11 : decode cX9_clearText 11 = .ok (.ireturn, 1) := by decide +kernel
set_option maxRecDepth 100000 in
theorem c_TL_clearText {l : Launch} {D : va_G} {cI cJ cZ cO : ClassId} {q_this q_world q_slots q_text q_search : Nat} {v_textLength : Int32} {x : Int32 × Int32} (h : f_TL_clearText v_textLength = some x) : ctI l D cI cJ cZ cO yX9_clearText cX9_clearText 2 .int rm_TL_clearText [.ref q_this] (ws_TL_clearText cI cJ cZ q_this q_world q_slots q_text q_search v_textLength) (ws_TL_clearText cI cJ cZ q_this q_world q_slots q_text q_search x.2) x.1 := by
  refine ctI_of (by decide) (Nat.le_of_ble_eq_true rfl) ?_
  intro p e s m below meth c Q A ls C0 hQ w hl
  have hl : lv_has ls 2 [(0, .ref q_this)] := hl
  generalize List.toArray (α := Value) [.ref q_this] = args at C0 hQ ⊢
  obtain ⟨hx, hb, hml, hown, hts, -, -⟩ := id C0
  unfold f_TL_clearText at h
  refine lv_aload_n hx hb dX9_clearText_0 rfl (lv_at hl 0 rfl) ?_
  refine r_get C0 w 0 rfl kf_TL 3 (by decide) lf_RX9_24 rfl dX9_clearText_1 ?_
  refine lv_istore_n (lv' := [(1, .int v_textLength), (0, .ref q_this)]) hx hb dX9_clearText_4 rfl hl (by decide) rfl (fun ls hl => ?_)
  refine lv_aload_n hx hb dX9_clearText_5 rfl (lv_at hl 1 rfl) ?_
  refine lv_iconst (v := (0 : Int32)) hx hb dX9_clearText_6 (by decide) ?_
  refine r_put C0 w 0 rfl kf_TL 3 (by decide) lf_RX9_24 rfl rfl rfl (Nat.le_of_ble_eq_true rfl) dX9_clearText_7 (ws' := (ws_TL_clearText cI cJ cZ q_this q_world q_slots q_text q_search (0 : Int32))) rfl (fun H locs w => ?_)
  refine lv_iload_n hx hb dX9_clearText_10 rfl (lv_at hl 0 rfl) ?_
  cases h
  exact hQ _ _ _ _ dX9_clearText_11 rfl w
theorem dX9_begin_0 : decode cX9_begin 0 = .ok (.iload_n 1, 1) := by decide +kernel
theorem dX9_begin_1 : decode cX9_begin 1 = .ok (.ifCond .lt 19, 3) := by decide +kernel
theorem dX9_begin_4 : decode cX9_begin 4 = .ok (.iload_n 1, 1) := by decide +kernel
theorem dX9_begin_5 : decode cX9_begin 5 = .ok (.iconst 2, 1) := by decide +kernel
theorem dX9_begin_6 : decode cX9_begin 6 = .ok (.if_icmp .gt 14, 3) := by decide +kernel
theorem dX9_begin_9 : decode cX9_begin 9 = .ok (.iload_n 2, 1) := by decide +kernel
theorem dX9_begin_10 : decode cX9_begin 10 = .ok (.ifCond .lt 10, 3) := by decide +kernel
theorem dX9_begin_13 : decode cX9_begin 13 = .ok (.iload_n 2, 1) := by decide +kernel
theorem dX9_begin_14 : decode cX9_begin 14 = .ok (.sipush 300, 3) := by decide +kernel
theorem dX9_begin_17 : decode cX9_begin 17 = .ok (.if_icmp .le 6, 3) := by decide +kernel
theorem dX9_begin_20 : decode cX9_begin 20 = .ok (.bipush (-2), 2) := by decide +kernel
theorem dX9_begin_22 : decode cX9_begin 22 = .ok (.ireturn, 1) := by decide +kernel
theorem dX9_begin_23 : decode cX9_begin 23 = .ok (.aload_n 0, 1) := by decide +kernel
theorem dX9_begin_24 : decode cX9_begin 24 = .ok (.getfield 10, 3) := by decide +kernel
theorem dX9_begin_27 : decode cX9_begin 27 = .ok (.getfield 116, 3) := by decide +kernel
theorem dX9_begin_30 : decode cX9_begin 30 = .ok (.astore_n 3, 1) := by decide +kernel
theorem dX9_begin_31 : decode cX9_begin 31 = .ok (.aload_n 3, 1) := by decide +kernel
theorem dX9_begin_32 : decode cX9_begin 32 = .ok (.getfield 120, 3) := by decide +kernel
theorem dX9_begin_35 : decode cX9_begin 35 = .ok (.istore 4, 2) := by decide +kernel
theorem dX9_begin_37 : decode cX9_begin 37 = .ok (.aload_n 3, 1) := by decide +kernel
theorem dX9_begin_38 : decode cX9_begin 38 = .ok (.iload_n 1, 1) := by decide +kernel
theorem dX9_begin_39 : decode cX9_begin 39 = .ok (.putfield 120, 3) := by decide +kernel
theorem dX9_begin_42 : decode cX9_begin 42 = .ok (.aload_n 3, 1) := by decide +kernel
theorem dX9_begin_43 : decode cX9_begin 43 = .ok (.iload_n 2, 1) := by decide +kernel
theorem dX9_begin_44 : decode cX9_begin 44 = .ok (.putfield 125, 3) := by decide +kernel
theorem dX9_begin_47 : decode cX9_begin 47 = .ok (.aload_n 0, 1) := by decide +kernel
theorem dX9_begin_48 : decode cX9_begin 48 = .ok (.getfield 10, 3) := by decide +kernel
theorem dX9_begin_51 : decode cX9_begin 51 = .ok (.invokevirtual 54, 3) := by decide +kernel
theorem dX9_begin_54 : decode cX9_begin 54 = .ok (.iload 4, 2) := by decide +kernel
theorem dX9_begin_56 : decode cX9_begin 56 = .ok (.ireturn, 1) := by decide +kernel
set_option maxRecDepth 100000 in
theorem c_TL_begin {l : Launch} {D : va_G} {cI cJ cZ cO : ClassId} {q_this q_world q_slots q_text q_search q_world_teacher q_world_learner q_world_teacher_machine q_world_teacher_lies q_world_teacher_machine_moves q_world_teacher_machine_finals q_world_learner_asked q_world_learner_table q_world_learner_hypothesis q_world_learner_representatives q_world_learner_asked_entries q_world_learner_table_prefixes q_world_learner_table_suffixes q_world_learner_table_known q_world_learner_table_bits q_world_learner_table_prefixes_words q_world_learner_table_suffixes_words q_world_learner_hypothesis_moves q_world_learner_hypothesis_finals : Nat} {x1 : Int32} {x2 : Int32} {v_textLength : Int32} {v_world_teacher_lieCount : Int32} {v_world_teacher_machine_size : Int32} {v_world_teacher_machine_letters : Int32} {v_world_learner_mode : Int32} {v_world_learner_budget : Int32} {v_world_learner_formed : Int32} {v_world_learner_counterexample : Int64} {v_world_learner_corrections : Int32} {v_world_learner_deceived : Int32} {v_world_learner_asked_size : Int32} {v_world_learner_table_letters : Int32} {v_world_learner_table_prefixes_size : Int32} {v_world_learner_table_prefixes_longest : Int32} {v_world_learner_table_prefixes_words : (Nat → Int64)} {v_world_learner_table_suffixes_size : Int32} {v_world_learner_table_suffixes_longest : Int32} {v_world_learner_table_suffixes_words : (Nat → Int64)} {v_world_learner_table_known : (Nat → Int32)} {v_world_learner_table_bits : (Nat → Int32)} {v_world_learner_hypothesis_size : Int32} {v_world_learner_hypothesis_letters : Int32} {v_world_learner_hypothesis_moves : (Nat → Int32)} {v_world_learner_hypothesis_finals : (Nat → Int32)} {x : Int32 × Int32 × (Nat → Int64) × Int32 × Int32 × (Nat → Int64) × Int32 × Int32 × (Nat → Int32) × (Nat → Int32) × Int32 × (Nat → Int32) × (Nat → Int32) × Int32 × Int32 × Int32 × Int32 × Int32 × Int64 × Int32 × Int32} (h : f_TL_begin x1 x2 v_world_teacher_machine_letters v_world_learner_mode v_world_learner_budget v_world_learner_formed v_world_learner_counterexample v_world_learner_corrections v_world_learner_deceived v_world_learner_asked_size v_world_learner_table_letters v_world_learner_table_prefixes_size v_world_learner_table_prefixes_longest v_world_learner_table_prefixes_words v_world_learner_table_suffixes_size v_world_learner_table_suffixes_longest v_world_learner_table_suffixes_words v_world_learner_table_known v_world_learner_table_bits v_world_learner_hypothesis_size v_world_learner_hypothesis_letters v_world_learner_hypothesis_moves v_world_learner_hypothesis_finals = some x) : ctI l D cI cJ cZ cO yX9_begin cX9_begin 5 .int rm_TL_begin [.ref q_this, .int x1, .int x2] (ws_TL_begin cI cJ cZ q_this q_world q_slots q_text q_search q_world_teacher q_world_learner q_world_teacher_machine q_world_teacher_lies q_world_teacher_machine_moves q_world_teacher_machine_finals q_world_learner_asked q_world_learner_table q_world_learner_hypothesis q_world_learner_representatives q_world_learner_asked_entries q_world_learner_table_prefixes q_world_learner_table_suffixes q_world_learner_table_known q_world_learner_table_bits q_world_learner_table_prefixes_words q_world_learner_table_suffixes_words q_world_learner_hypothesis_moves q_world_learner_hypothesis_finals v_textLength v_world_teacher_lieCount v_world_teacher_machine_size v_world_teacher_machine_letters v_world_learner_mode v_world_learner_budget v_world_learner_formed v_world_learner_counterexample v_world_learner_corrections v_world_learner_deceived v_world_learner_asked_size v_world_learner_table_letters v_world_learner_table_prefixes_size v_world_learner_table_prefixes_longest v_world_learner_table_prefixes_words v_world_learner_table_suffixes_size v_world_learner_table_suffixes_longest v_world_learner_table_suffixes_words v_world_learner_table_known v_world_learner_table_bits v_world_learner_hypothesis_size v_world_learner_hypothesis_letters v_world_learner_hypothesis_moves v_world_learner_hypothesis_finals) (ws_TL_begin cI cJ cZ q_this q_world q_slots q_text q_search q_world_teacher q_world_learner q_world_teacher_machine q_world_teacher_lies q_world_teacher_machine_moves q_world_teacher_machine_finals q_world_learner_asked q_world_learner_table q_world_learner_hypothesis q_world_learner_representatives q_world_learner_asked_entries q_world_learner_table_prefixes q_world_learner_table_suffixes q_world_learner_table_known q_world_learner_table_bits q_world_learner_table_prefixes_words q_world_learner_table_suffixes_words q_world_learner_hypothesis_moves q_world_learner_hypothesis_finals v_textLength v_world_teacher_lieCount v_world_teacher_machine_size v_world_teacher_machine_letters x.2.2.2.2.2.2.2.2.2.2.2.2.2.2.2.1 x.2.2.2.2.2.2.2.2.2.2.2.2.2.2.2.2.1 x.2.2.2.2.2.2.2.2.2.2.2.2.2.2.2.2.2.1 x.2.2.2.2.2.2.2.2.2.2.2.2.2.2.2.2.2.2.1 x.2.2.2.2.2.2.2.2.2.2.2.2.2.2.2.2.2.2.2.1 x.2.2.2.2.2.2.2.2.2.2.2.2.2.2.2.2.2.2.2.2 x.2.1 x.2.2.2.2.2.2.2.2.2.2.1 x.2.2.2.1 x.2.2.2.2.1 x.2.2.1 x.2.2.2.2.2.2.1 x.2.2.2.2.2.2.2.1 x.2.2.2.2.2.1 x.2.2.2.2.2.2.2.2.1 x.2.2.2.2.2.2.2.2.2.1 x.2.2.2.2.2.2.2.2.2.2.2.2.2.1 x.2.2.2.2.2.2.2.2.2.2.2.2.2.2.1 x.2.2.2.2.2.2.2.2.2.2.2.1 x.2.2.2.2.2.2.2.2.2.2.2.2.1) x.1 := by
  refine ctI_of (by decide) (Nat.le_of_ble_eq_true rfl) ?_
  intro p e s m below meth c Q A ls C0 hQ w hl
  have hl : lv_has ls 5 [(0, .ref q_this), (1, .int x1), (2, .int x2)] := hl
  generalize List.toArray (α := Value) [.ref q_this, .int x1, .int x2] = args at C0 hQ ⊢
  obtain ⟨hx, hb, hml, hown, hts, -, -⟩ := id C0
  unfold f_TL_begin at h
  refine lv_iload_n hx hb dX9_begin_0 rfl (lv_at hl 1 rfl) ?_
  refine lv_if_lt (tgt := 20) hx hb dX9_begin_1 (by decide) (fun hc => ?_) (fun hc => ?_)
  · have h := if_h hc h
    refine lv_bipush (v := (-2 : Int32)) hx hb dX9_begin_20 (by decide) ?_
    cases h
    exact hQ _ _ _ _ dX9_begin_22 rfl w
  · have h := nf_h hc h
    refine lv_iload_n hx hb dX9_begin_4 rfl (lv_at hl 1 rfl) ?_
    refine lv_iconst (v := (2 : Int32)) hx hb dX9_begin_5 (by decide) ?_
    refine lv_icmp_gt (tgt := 20) hx hb dX9_begin_6 (by decide) (fun hc => ?_) (fun hc => ?_)
    · have h := if_h hc h
      refine lv_bipush (v := (-2 : Int32)) hx hb dX9_begin_20 (by decide) ?_
      cases h
      exact hQ _ _ _ _ dX9_begin_22 rfl w
    · have h := nf_h hc h
      refine lv_iload_n hx hb dX9_begin_9 rfl (lv_at hl 2 rfl) ?_
      refine lv_if_lt (tgt := 20) hx hb dX9_begin_10 (by decide) (fun hc => ?_) (fun hc => ?_)
      · have h := if_h hc h
        refine lv_bipush (v := (-2 : Int32)) hx hb dX9_begin_20 (by decide) ?_
        cases h
        exact hQ _ _ _ _ dX9_begin_22 rfl w
      · have h := nf_h hc h
        refine lv_iload_n hx hb dX9_begin_13 rfl (lv_at hl 2 rfl) ?_
        refine lv_sipush (v := (300 : Int32)) hx hb dX9_begin_14 (by decide) ?_
        refine lv_icmp_le (tgt := 23) hx hb dX9_begin_17 (by decide) (fun hc => ?_) (fun hc => ?_)
        · have h := if_h hc h
          refine lv_aload_n hx hb dX9_begin_23 rfl (lv_at hl 0 rfl) ?_
          refine r_get C0 w 0 rfl kf_TL 0 (by decide) lf_RX9_10 rfl dX9_begin_24 ?_
          refine r_get C0 w 1 rfl kf_Wo 1 (by decide) lf_RX9_116 rfl dX9_begin_27 ?_
          refine lv_astore_n (lv' := [(3, .ref q_world_learner), (0, .ref q_this), (1, .int x1), (2, .int x2)]) hx hb dX9_begin_30 rfl hl (by decide) rfl (fun ls hl => ?_)
          refine lv_aload_n hx hb dX9_begin_31 rfl (lv_at hl 0 rfl) ?_
          refine r_get C0 w 4 rfl kf_Le 4 (by decide) lf_RX9_120 rfl dX9_begin_32 ?_
          refine lv_istore (lv' := [(4, .int v_world_learner_mode), (3, .ref q_world_learner), (0, .ref q_this), (1, .int x1), (2, .int x2)]) hx hb dX9_begin_35 hl (by decide) rfl (fun ls hl => ?_)
          refine lv_aload_n hx hb dX9_begin_37 rfl (lv_at hl 1 rfl) ?_
          refine lv_iload_n hx hb dX9_begin_38 rfl (lv_at hl 3 rfl) ?_
          refine r_put C0 w 4 rfl kf_Le 4 (by decide) lf_RX9_120 rfl rfl rfl (Nat.le_of_ble_eq_true rfl) dX9_begin_39 (ws' := (ws_TL_begin cI cJ cZ q_this q_world q_slots q_text q_search q_world_teacher q_world_learner q_world_teacher_machine q_world_teacher_lies q_world_teacher_machine_moves q_world_teacher_machine_finals q_world_learner_asked q_world_learner_table q_world_learner_hypothesis q_world_learner_representatives q_world_learner_asked_entries q_world_learner_table_prefixes q_world_learner_table_suffixes q_world_learner_table_known q_world_learner_table_bits q_world_learner_table_prefixes_words q_world_learner_table_suffixes_words q_world_learner_hypothesis_moves q_world_learner_hypothesis_finals v_textLength v_world_teacher_lieCount v_world_teacher_machine_size v_world_teacher_machine_letters x1 v_world_learner_budget v_world_learner_formed v_world_learner_counterexample v_world_learner_corrections v_world_learner_deceived v_world_learner_asked_size v_world_learner_table_letters v_world_learner_table_prefixes_size v_world_learner_table_prefixes_longest v_world_learner_table_prefixes_words v_world_learner_table_suffixes_size v_world_learner_table_suffixes_longest v_world_learner_table_suffixes_words v_world_learner_table_known v_world_learner_table_bits v_world_learner_hypothesis_size v_world_learner_hypothesis_letters v_world_learner_hypothesis_moves v_world_learner_hypothesis_finals)) rfl (fun H locs w => ?_)
          refine lv_aload_n hx hb dX9_begin_42 rfl (lv_at hl 1 rfl) ?_
          refine lv_iload_n hx hb dX9_begin_43 rfl (lv_at hl 4 rfl) ?_
          refine r_put C0 w 4 rfl kf_Le 5 (by decide) lf_RX9_125 rfl rfl rfl (Nat.le_of_ble_eq_true rfl) dX9_begin_44 (ws' := (ws_TL_begin cI cJ cZ q_this q_world q_slots q_text q_search q_world_teacher q_world_learner q_world_teacher_machine q_world_teacher_lies q_world_teacher_machine_moves q_world_teacher_machine_finals q_world_learner_asked q_world_learner_table q_world_learner_hypothesis q_world_learner_representatives q_world_learner_asked_entries q_world_learner_table_prefixes q_world_learner_table_suffixes q_world_learner_table_known q_world_learner_table_bits q_world_learner_table_prefixes_words q_world_learner_table_suffixes_words q_world_learner_hypothesis_moves q_world_learner_hypothesis_finals v_textLength v_world_teacher_lieCount v_world_teacher_machine_size v_world_teacher_machine_letters x1 x2 v_world_learner_formed v_world_learner_counterexample v_world_learner_corrections v_world_learner_deceived v_world_learner_asked_size v_world_learner_table_letters v_world_learner_table_prefixes_size v_world_learner_table_prefixes_longest v_world_learner_table_prefixes_words v_world_learner_table_suffixes_size v_world_learner_table_suffixes_longest v_world_learner_table_suffixes_words v_world_learner_table_known v_world_learner_table_bits v_world_learner_hypothesis_size v_world_learner_hypothesis_letters v_world_learner_hypothesis_moves v_world_learner_hypothesis_finals)) rfl (fun H locs w => ?_)
          refine lv_aload_n hx hb dX9_begin_47 rfl (lv_at hl 2 rfl) ?_
          refine r_get C0 w 0 rfl kf_TL 0 (by decide) lf_RX9_10 rfl dX9_begin_48 ?_
          obtain ⟨v_world_learner_asked_size_1, v_world_learner_table_prefixes_words_1, v_world_learner_table_prefixes_size_1, v_world_learner_table_prefixes_longest_1, v_world_learner_table_suffixes_words_1, v_world_learner_table_suffixes_size_1, v_world_learner_table_suffixes_longest_1, v_world_learner_table_known_1, v_world_learner_table_bits_1, v_world_learner_table_letters_1, v_world_learner_hypothesis_moves_1, v_world_learner_hypothesis_finals_1, v_world_learner_hypothesis_size_1, v_world_learner_hypothesis_letters_1, v_world_learner_formed_1, v_world_learner_counterexample_1, v_world_learner_corrections_1, v_world_learner_deceived_1, hcall, h⟩ := bd18_h h
          have hp := sp_of (ws := (ws_TL_begin cI cJ cZ q_this q_world q_slots q_text q_search q_world_teacher q_world_learner q_world_teacher_machine q_world_teacher_lies q_world_teacher_machine_moves q_world_teacher_machine_finals q_world_learner_asked q_world_learner_table q_world_learner_hypothesis q_world_learner_representatives q_world_learner_asked_entries q_world_learner_table_prefixes q_world_learner_table_suffixes q_world_learner_table_known q_world_learner_table_bits q_world_learner_table_prefixes_words q_world_learner_table_suffixes_words q_world_learner_hypothesis_moves q_world_learner_hypothesis_finals v_textLength v_world_teacher_lieCount v_world_teacher_machine_size v_world_teacher_machine_letters x1 x2 v_world_learner_formed v_world_learner_counterexample v_world_learner_corrections v_world_learner_deceived v_world_learner_asked_size v_world_learner_table_letters v_world_learner_table_prefixes_size v_world_learner_table_prefixes_longest v_world_learner_table_prefixes_words v_world_learner_table_suffixes_size v_world_learner_table_suffixes_longest v_world_learner_table_suffixes_words v_world_learner_table_known v_world_learner_table_bits v_world_learner_hypothesis_size v_world_learner_hypothesis_letters v_world_learner_hypothesis_moves v_world_learner_hypothesis_finals)) (wc := (ws_Wo_startLearner cI cJ cZ q_world q_world_teacher q_world_learner q_world_teacher_machine q_world_teacher_lies q_world_teacher_machine_moves q_world_teacher_machine_finals q_world_learner_asked q_world_learner_table q_world_learner_hypothesis q_world_learner_representatives q_world_learner_asked_entries q_world_learner_table_prefixes q_world_learner_table_suffixes q_world_learner_table_known q_world_learner_table_bits q_world_learner_table_prefixes_words q_world_learner_table_suffixes_words q_world_learner_hypothesis_moves q_world_learner_hypothesis_finals v_world_teacher_lieCount v_world_teacher_machine_size v_world_teacher_machine_letters x1 x2 v_world_learner_formed v_world_learner_counterexample v_world_learner_corrections v_world_learner_deceived v_world_learner_asked_size v_world_learner_table_letters v_world_learner_table_prefixes_size v_world_learner_table_prefixes_longest v_world_learner_table_prefixes_words v_world_learner_table_suffixes_size v_world_learner_table_suffixes_longest v_world_learner_table_suffixes_words v_world_learner_table_known v_world_learner_table_bits v_world_learner_hypothesis_size v_world_learner_hypothesis_letters v_world_learner_hypothesis_moves v_world_learner_hypothesis_finals)) [1, 2, 3, 4, 5, 6, 7, 8, 9, 10, 11, 12, 13, 14, 15] [0] rfl rfl
          have hp' : Rp (pk (ws_TL_begin cI cJ cZ q_this q_world q_slots q_text q_search q_world_teacher q_world_learner q_world_teacher_machine q_world_teacher_lies q_world_teacher_machine_moves q_world_teacher_machine_finals q_world_learner_asked q_world_learner_table q_world_learner_hypothesis q_world_learner_representatives q_world_learner_asked_entries q_world_learner_table_prefixes q_world_learner_table_suffixes q_world_learner_table_known q_world_learner_table_bits q_world_learner_table_prefixes_words q_world_learner_table_suffixes_words q_world_learner_hypothesis_moves q_world_learner_hypothesis_finals v_textLength v_world_teacher_lieCount v_world_teacher_machine_size v_world_teacher_machine_letters x1 x2 v_world_learner_formed v_world_learner_counterexample v_world_learner_corrections v_world_learner_deceived v_world_learner_asked_size v_world_learner_table_letters v_world_learner_table_prefixes_size v_world_learner_table_prefixes_longest v_world_learner_table_prefixes_words v_world_learner_table_suffixes_size v_world_learner_table_suffixes_longest v_world_learner_table_suffixes_words v_world_learner_table_known v_world_learner_table_bits v_world_learner_hypothesis_size v_world_learner_hypothesis_letters v_world_learner_hypothesis_moves v_world_learner_hypothesis_finals) [0] ++ (ws_Wo_startLearner cI cJ cZ q_world q_world_teacher q_world_learner q_world_teacher_machine q_world_teacher_lies q_world_teacher_machine_moves q_world_teacher_machine_finals q_world_learner_asked q_world_learner_table q_world_learner_hypothesis q_world_learner_representatives q_world_learner_asked_entries q_world_learner_table_prefixes q_world_learner_table_suffixes q_world_learner_table_known q_world_learner_table_bits q_world_learner_table_prefixes_words q_world_learner_table_suffixes_words q_world_learner_hypothesis_moves q_world_learner_hypothesis_finals v_world_teacher_lieCount v_world_teacher_machine_size v_world_teacher_machine_letters x1 x2 v_world_learner_formed_1 v_world_learner_counterexample_1 v_world_learner_corrections_1 v_world_learner_deceived_1 v_world_learner_asked_size_1 v_world_learner_table_letters_1 v_world_learner_table_prefixes_size_1 v_world_learner_table_prefixes_longest_1 v_world_learner_table_prefixes_words_1 v_world_learner_table_suffixes_size_1 v_world_learner_table_suffixes_longest_1 v_world_learner_table_suffixes_words_1 v_world_learner_table_known_1 v_world_learner_table_bits_1 v_world_learner_hypothesis_size_1 v_world_learner_hypothesis_letters_1 v_world_learner_hypothesis_moves_1 v_world_learner_hypothesis_finals_1)) (ws_TL_begin cI cJ cZ q_this q_world q_slots q_text q_search q_world_teacher q_world_learner q_world_teacher_machine q_world_teacher_lies q_world_teacher_machine_moves q_world_teacher_machine_finals q_world_learner_asked q_world_learner_table q_world_learner_hypothesis q_world_learner_representatives q_world_learner_asked_entries q_world_learner_table_prefixes q_world_learner_table_suffixes q_world_learner_table_known q_world_learner_table_bits q_world_learner_table_prefixes_words q_world_learner_table_suffixes_words q_world_learner_hypothesis_moves q_world_learner_hypothesis_finals v_textLength v_world_teacher_lieCount v_world_teacher_machine_size v_world_teacher_machine_letters x1 x2 v_world_learner_formed_1 v_world_learner_counterexample_1 v_world_learner_corrections_1 v_world_learner_deceived_1 v_world_learner_asked_size_1 v_world_learner_table_letters_1 v_world_learner_table_prefixes_size_1 v_world_learner_table_prefixes_longest_1 v_world_learner_table_prefixes_words_1 v_world_learner_table_suffixes_size_1 v_world_learner_table_suffixes_longest_1 v_world_learner_table_suffixes_words_1 v_world_learner_table_known_1 v_world_learner_table_bits_1 v_world_learner_hypothesis_size_1 v_world_learner_hypothesis_letters_1 v_world_learner_hypothesis_moves_1 v_world_learner_hypothesis_finals_1) := ⟨[0, 1, 2, 3, 4, 5, 6, 7, 8, 9, 10, 11, 12, 13, 14, 15], rfl, rfl⟩
          refine r_VV (As := []) (rest := []) (wc' := (ws_Wo_startLearner cI cJ cZ q_world q_world_teacher q_world_learner q_world_teacher_machine q_world_teacher_lies q_world_teacher_machine_moves q_world_teacher_machine_finals q_world_learner_asked q_world_learner_table q_world_learner_hypothesis q_world_learner_representatives q_world_learner_asked_entries q_world_learner_table_prefixes q_world_learner_table_suffixes q_world_learner_table_known q_world_learner_table_bits q_world_learner_table_prefixes_words q_world_learner_table_suffixes_words q_world_learner_hypothesis_moves q_world_learner_hypothesis_finals v_world_teacher_lieCount v_world_teacher_machine_size v_world_teacher_machine_letters x1 x2 v_world_learner_formed_1 v_world_learner_counterexample_1 v_world_learner_corrections_1 v_world_learner_deceived_1 v_world_learner_asked_size_1 v_world_learner_table_letters_1 v_world_learner_table_prefixes_size_1 v_world_learner_table_prefixes_longest_1 v_world_learner_table_prefixes_words_1 v_world_learner_table_suffixes_size_1 v_world_learner_table_suffixes_longest_1 v_world_learner_table_suffixes_words_1 v_world_learner_table_known_1 v_world_learner_table_bits_1 v_world_learner_hypothesis_size_1 v_world_learner_hypothesis_letters_1 v_world_learner_hypothesis_moves_1 v_world_learner_hypothesis_finals_1)) (ws' := (ws_TL_begin cI cJ cZ q_this q_world q_slots q_text q_search q_world_teacher q_world_learner q_world_teacher_machine q_world_teacher_lies q_world_teacher_machine_moves q_world_teacher_machine_finals q_world_learner_asked q_world_learner_table q_world_learner_hypothesis q_world_learner_representatives q_world_learner_asked_entries q_world_learner_table_prefixes q_world_learner_table_suffixes q_world_learner_table_known q_world_learner_table_bits q_world_learner_table_prefixes_words q_world_learner_table_suffixes_words q_world_learner_hypothesis_moves q_world_learner_hypothesis_finals v_textLength v_world_teacher_lieCount v_world_teacher_machine_size v_world_teacher_machine_letters x1 x2 v_world_learner_formed_1 v_world_learner_counterexample_1 v_world_learner_corrections_1 v_world_learner_deceived_1 v_world_learner_asked_size_1 v_world_learner_table_letters_1 v_world_learner_table_prefixes_size_1 v_world_learner_table_prefixes_longest_1 v_world_learner_table_prefixes_words_1 v_world_learner_table_suffixes_size_1 v_world_learner_table_suffixes_longest_1 v_world_learner_table_suffixes_words_1 v_world_learner_table_known_1 v_world_learner_table_bits_1 v_world_learner_hypothesis_size_1 v_world_learner_hypothesis_letters_1 v_world_learner_hypothesis_moves_1 v_world_learner_hypothesis_finals_1)) C0 w (c_Wo_startLearner hcall) hp hp' lm_RX9_54 mv_Wo_startLearner ⟨rfl, rfl⟩ ⟨by decide, by decide⟩ ⟨Nat.zero_le _, Nat.zero_le _⟩ (q0 := 1) rfl rfl rfl rfl hl rfl (Nat.le_of_ble_eq_true rfl) dX9_begin_51 (fun H locs w => ?_)
          refine lv_iload hx hb dX9_begin_54 (lv_at hl 0 rfl) ?_
          cases h
          exact hQ _ _ _ _ dX9_begin_56 rfl w
        · have h := nf_h hc h
          refine lv_bipush (v := (-2 : Int32)) hx hb dX9_begin_20 (by decide) ?_
          cases h
          exact hQ _ _ _ _ dX9_begin_22 rfl w
theorem dX4_hasRoom_0 : decode cX4_hasRoom 0 = .ok (.iload_n 1, 1) := by decide +kernel
theorem dX4_hasRoom_1 : decode cX4_hasRoom 1 = .ok (.ifCond .eq 10, 3) := by decide +kernel
theorem dX4_hasRoom_4 : decode cX4_hasRoom 4 = .ok (.aload_n 0, 1) := by decide +kernel
theorem dX4_hasRoom_5 : decode cX4_hasRoom 5 = .ok (.getfield 20, 3) := by decide +kernel
theorem dX4_hasRoom_8 : decode cX4_hasRoom 8 = .ok (.goto 7, 3) := by decide +kernel
theorem dX4_hasRoom_11 : decode cX4_hasRoom 11 = .ok (.aload_n 0, 1) := by decide +kernel
theorem dX4_hasRoom_12 : decode cX4_hasRoom 12 = .ok (.getfield 14, 3) := by decide +kernel
theorem dX4_hasRoom_15 : decode cX4_hasRoom 15 = .ok (.astore 4, 2) := by decide +kernel
theorem dX4_hasRoom_17 : decode cX4_hasRoom 17 = .ok (.iload_n 1, 1) := by decide +kernel
theorem dX4_hasRoom_18 : decode cX4_hasRoom 18 = .ok (.ifCond .eq 10, 3) := by decide +kernel
theorem dX4_hasRoom_21 : decode cX4_hasRoom 21 = .ok (.aload_n 0, 1) := by decide +kernel
theorem dX4_hasRoom_22 : decode cX4_hasRoom 22 = .ok (.getfield 14, 3) := by decide +kernel
theorem dX4_hasRoom_25 : decode cX4_hasRoom 25 = .ok (.goto 7, 3) := by decide +kernel
theorem dX4_hasRoom_28 : decode cX4_hasRoom 28 = .ok (.aload_n 0, 1) := by decide +kernel
theorem dX4_hasRoom_29 : decode cX4_hasRoom 29 = .ok (.getfield 20, 3) := by decide +kernel
theorem dX4_hasRoom_32 : decode cX4_hasRoom 32 = .ok (.astore 5, 2) := by decide +kernel
theorem dX4_hasRoom_34 : decode cX4_hasRoom 34 = .ok (.aload 4, 2) := by decide +kernel
theorem dX4_hasRoom_36 : decode cX4_hasRoom 36 = .ok (.getfield 45, 3) := by decide +kernel
theorem dX4_hasRoom_39 : decode cX4_hasRoom 39 = .ok (.iload_n 2, 1) := by decide +kernel
theorem dX4_hasRoom_40 : decode cX4_hasRoom 40 = .ok (.iadd, 1) := by decide +kernel
theorem dX4_hasRoom_41 : decode cX4_hasRoom 41 = .ok (.aload 4, 2) := by decide +kernel
theorem dX4_hasRoom_43 : decode cX4_hasRoom 43 = .ok (.getfield 52, 3) := by decide +kernel
theorem dX4_hasRoom_46 : decode cX4_hasRoom 46 = .ok (.arraylength, 1) := by decide +kernel
theorem dX4_hasRoom_47 : decode cX4_hasRoom 47 = .ok (.if_icmp .gt 29, 3) := by decide +kernel
theorem dX4_hasRoom_50 : decode cX4_hasRoom 50 = .ok (.aload 4, 2) := by decide +kernel
theorem dX4_hasRoom_52 : decode cX4_hasRoom 52 = .ok (.getfield 92, 3) := by decide +kernel
theorem dX4_hasRoom_55 : decode cX4_hasRoom 55 = .ok (.iload_n 3, 1) := by decide +kernel
theorem dX4_hasRoom_56 : decode cX4_hasRoom 56 = .ok (.invokestatic 95, 3) := by decide +kernel
theorem dX4_hasRoom_59 : decode cX4_hasRoom 59 = .ok (.iconst 1, 1) := by decide +kernel
theorem dX4_hasRoom_60 : decode cX4_hasRoom 60 = .ok (.iadd, 1) := by decide +kernel
theorem dX4_hasRoom_61 : decode cX4_hasRoom 61 = .ok (.aload 5, 2) := by decide +kernel
theorem dX4_hasRoom_63 : decode cX4_hasRoom 63 = .ok (.getfield 92, 3) := by decide +kernel
theorem dX4_hasRoom_66 : decode cX4_hasRoom 66 = .ok (.iadd, 1) := by decide +kernel
theorem dX4_hasRoom_67 : decode cX4_hasRoom 67 = .ok (.bipush 16, 2) := by decide +kernel
theorem dX4_hasRoom_69 : decode cX4_hasRoom 69 = .ok (.if_icmp .gt 7, 3) := by decide +kernel
theorem dX4_hasRoom_72 : decode cX4_hasRoom 72 = .ok (.iconst 1, 1) := by decide +kernel
theorem dX4_hasRoom_73 : decode cX4_hasRoom 73 = .ok (.goto 4, 3) := by decide +kernel
theorem dX4_hasRoom_76 : decode cX4_hasRoom 76 = .ok (.iconst 0, 1) := by decide +kernel
theorem dX4_hasRoom_77 : decode cX4_hasRoom 77 = .ok (.ireturn, 1) := by decide +kernel
set_option maxRecDepth 100000 in
theorem w_Ta_hasRoom_J32 {p : Program} {l : Launch} {e : Env} {s : State} {m : MethodId} {args : Array Value} {below : List Frame} {meth : Method} {c : Code} {Q : State → Prop} {A : Nat → Prop} {D : va_G} {cI cJ cZ cO : ClassId} {q_this q_prefixes q_suffixes q_known q_bits q_prefixes_words q_suffixes_words : Nat} {v_letters : Int32} {v_prefixes_size : Int32} {v_prefixes_longest : Int32} {v_prefixes_words : (Nat → Int64)} {v_suffixes_size : Int32} {v_suffixes_longest : Int32} {v_suffixes_words : (Nat → Int64)} {x : Int32} {x2 : Int32} {x3 : Int32} (C0 : Cx p s m args c A D cI cJ cZ cO cX4_hasRoom 6 RX4) (hQ : RtI p l e rm_Ta_hasRoom s m args below meth c Q A D cX4_hasRoom .boolean (ws_Ta_hasRoom cI cJ cZ q_this q_prefixes q_suffixes q_known q_bits q_prefixes_words q_suffixes_words v_letters v_prefixes_size v_prefixes_longest v_prefixes_words v_suffixes_size v_suffixes_longest v_suffixes_words) x) {H : Heap} {locs : List Loc} {ls : Array Slot} (h : f_Ta_hasRoom_J32 x2 x3 v_prefixes_size v_prefixes_longest v_suffixes_longest = some x) (w : Wd s A D (ws_Ta_hasRoom cI cJ cZ q_this q_prefixes q_suffixes q_known q_bits q_prefixes_words q_suffixes_words v_letters v_prefixes_size v_prefixes_longest v_prefixes_words v_suffixes_size v_suffixes_longest v_suffixes_words) H locs) (hl : lv_has ls 6 [(2, .int x2), (3, .int x3), (4, .ref q_prefixes)]) : W p l e rm_Ta_hasRoom s m args below meth c H locs 0 0 Q (F0 m 32 ls [.ref q_suffixes]) := by
  obtain ⟨hx, hb, hml, hown, hts, -, -⟩ := id C0
  unfold f_Ta_hasRoom_J32 at h
  refine lv_astore (lv' := [(5, .ref q_suffixes), (2, .int x2), (3, .int x3), (4, .ref q_prefixes)]) hx hb dX4_hasRoom_32 hl (by decide) rfl (fun ls hl => ?_)
  refine lv_aload hx hb dX4_hasRoom_34 (lv_at hl 3 rfl) ?_
  refine r_get C0 w 1 rfl kf_WL 1 (by decide) lf_RX4_45 rfl dX4_hasRoom_36 ?_
  refine lv_iload_n hx hb dX4_hasRoom_39 rfl (lv_at hl 1 rfl) ?_
  refine lv_iadd hx hb dX4_hasRoom_40 ?_
  refine lv_aload hx hb dX4_hasRoom_41 (lv_at hl 3 rfl) ?_
  refine r_get C0 w 1 rfl kf_WL 0 (by decide) lf_RX4_52 rfl dX4_hasRoom_43 ?_
  refine r_alen (v := (40 : Int32)) C0 w 2 1 rfl rfl rfl dX4_hasRoom_46 ?_
  refine lv_icmp_gt (tgt := 76) hx hb dX4_hasRoom_47 (by decide) (fun hc => ?_) (fun hc => ?_)
  · have h := if_h hc h
    refine lv_iconst (v := (0 : Int32)) hx hb dX4_hasRoom_76 (by decide) ?_
    cases h
    exact hQ _ _ _ _ dX4_hasRoom_77 (gB_n (v := (0 : Int32)) (Or.inl rfl)) w
  · have h := nf_h hc h
    refine lv_aload hx hb dX4_hasRoom_50 (lv_at hl 3 rfl) ?_
    refine r_get C0 w 1 rfl kf_WL 2 (by decide) lf_RX4_92 rfl dX4_hasRoom_52 ?_
    refine lv_iload_n hx hb dX4_hasRoom_55 rfl (lv_at hl 2 rfl) ?_
    refine r_max C0 hl lm_RX4_95 mx_st mx_in mx_co ⟨by decide, by decide⟩ (Nat.le_of_ble_eq_true rfl) ⟨Nat.zero_le _, Nat.zero_le _⟩ dX4_hasRoom_56 ?_
    refine lv_iconst (v := (1 : Int32)) hx hb dX4_hasRoom_59 (by decide) ?_
    refine lv_iadd hx hb dX4_hasRoom_60 ?_
    refine lv_aload hx hb dX4_hasRoom_61 (lv_at hl 0 rfl) ?_
    refine r_get C0 w 3 rfl kf_WL 2 (by decide) lf_RX4_92 rfl dX4_hasRoom_63 ?_
    refine lv_iadd hx hb dX4_hasRoom_66 ?_
    refine lv_bipush (v := (16 : Int32)) hx hb dX4_hasRoom_67 (by decide) ?_
    refine lv_icmp_gt (tgt := 76) hx hb dX4_hasRoom_69 (by decide) (fun hc => ?_) (fun hc => ?_)
    · have h := if_h hc h
      refine lv_iconst (v := (0 : Int32)) hx hb dX4_hasRoom_76 (by decide) ?_
      cases h
      exact hQ _ _ _ _ dX4_hasRoom_77 (gB_n (v := (0 : Int32)) (Or.inl rfl)) w
    · have h := nf_h hc h
      refine lv_iconst (v := (1 : Int32)) hx hb dX4_hasRoom_72 (by decide) ?_
      refine lv_goto (tgt := 77) hx hb dX4_hasRoom_73 (by decide) ?_
      cases h
      exact hQ _ _ _ _ dX4_hasRoom_77 (gB_n (v := (1 : Int32)) (Or.inr rfl)) w
set_option maxRecDepth 100000 in
theorem w_Ta_hasRoom_J32v1 {p : Program} {l : Launch} {e : Env} {s : State} {m : MethodId} {args : Array Value} {below : List Frame} {meth : Method} {c : Code} {Q : State → Prop} {A : Nat → Prop} {D : va_G} {cI cJ cZ cO : ClassId} {q_this q_prefixes q_suffixes q_known q_bits q_prefixes_words q_suffixes_words : Nat} {v_letters : Int32} {v_prefixes_size : Int32} {v_prefixes_longest : Int32} {v_prefixes_words : (Nat → Int64)} {v_suffixes_size : Int32} {v_suffixes_longest : Int32} {v_suffixes_words : (Nat → Int64)} {x : Int32} {x2 : Int32} {x3 : Int32} (C0 : Cx p s m args c A D cI cJ cZ cO cX4_hasRoom 6 RX4) (hQ : RtI p l e rm_Ta_hasRoom s m args below meth c Q A D cX4_hasRoom .boolean (ws_Ta_hasRoom cI cJ cZ q_this q_prefixes q_suffixes q_known q_bits q_prefixes_words q_suffixes_words v_letters v_prefixes_size v_prefixes_longest v_prefixes_words v_suffixes_size v_suffixes_longest v_suffixes_words) x) {H : Heap} {locs : List Loc} {ls : Array Slot} (h : f_Ta_hasRoom_J32v1 x2 x3 v_prefixes_size v_prefixes_longest = some x) (w : Wd s A D (ws_Ta_hasRoom cI cJ cZ q_this q_prefixes q_suffixes q_known q_bits q_prefixes_words q_suffixes_words v_letters v_prefixes_size v_prefixes_longest v_prefixes_words v_suffixes_size v_suffixes_longest v_suffixes_words) H locs) (hl : lv_has ls 6 [(2, .int x2), (3, .int x3), (4, .ref q_prefixes)]) : W p l e rm_Ta_hasRoom s m args below meth c H locs 0 0 Q (F0 m 32 ls [.ref q_prefixes]) := by
  obtain ⟨hx, hb, hml, hown, hts, -, -⟩ := id C0
  unfold f_Ta_hasRoom_J32v1 at h
  refine lv_astore (lv' := [(5, .ref q_prefixes), (2, .int x2), (3, .int x3), (4, .ref q_prefixes)]) hx hb dX4_hasRoom_32 hl (by decide) rfl (fun ls hl => ?_)
  refine lv_aload hx hb dX4_hasRoom_34 (lv_at hl 3 rfl) ?_
  refine r_get C0 w 1 rfl kf_WL 1 (by decide) lf_RX4_45 rfl dX4_hasRoom_36 ?_
  refine lv_iload_n hx hb dX4_hasRoom_39 rfl (lv_at hl 1 rfl) ?_
  refine lv_iadd hx hb dX4_hasRoom_40 ?_
  refine lv_aload hx hb dX4_hasRoom_41 (lv_at hl 3 rfl) ?_
  refine r_get C0 w 1 rfl kf_WL 0 (by decide) lf_RX4_52 rfl dX4_hasRoom_43 ?_
  refine r_alen (v := (40 : Int32)) C0 w 2 1 rfl rfl rfl dX4_hasRoom_46 ?_
  refine lv_icmp_gt (tgt := 76) hx hb dX4_hasRoom_47 (by decide) (fun hc => ?_) (fun hc => ?_)
  · have h := if_h hc h
    refine lv_iconst (v := (0 : Int32)) hx hb dX4_hasRoom_76 (by decide) ?_
    cases h
    exact hQ _ _ _ _ dX4_hasRoom_77 (gB_n (v := (0 : Int32)) (Or.inl rfl)) w
  · have h := nf_h hc h
    refine lv_aload hx hb dX4_hasRoom_50 (lv_at hl 3 rfl) ?_
    refine r_get C0 w 1 rfl kf_WL 2 (by decide) lf_RX4_92 rfl dX4_hasRoom_52 ?_
    refine lv_iload_n hx hb dX4_hasRoom_55 rfl (lv_at hl 2 rfl) ?_
    refine r_max C0 hl lm_RX4_95 mx_st mx_in mx_co ⟨by decide, by decide⟩ (Nat.le_of_ble_eq_true rfl) ⟨Nat.zero_le _, Nat.zero_le _⟩ dX4_hasRoom_56 ?_
    refine lv_iconst (v := (1 : Int32)) hx hb dX4_hasRoom_59 (by decide) ?_
    refine lv_iadd hx hb dX4_hasRoom_60 ?_
    refine lv_aload hx hb dX4_hasRoom_61 (lv_at hl 0 rfl) ?_
    refine r_get C0 w 1 rfl kf_WL 2 (by decide) lf_RX4_92 rfl dX4_hasRoom_63 ?_
    refine lv_iadd hx hb dX4_hasRoom_66 ?_
    refine lv_bipush (v := (16 : Int32)) hx hb dX4_hasRoom_67 (by decide) ?_
    refine lv_icmp_gt (tgt := 76) hx hb dX4_hasRoom_69 (by decide) (fun hc => ?_) (fun hc => ?_)
    · have h := if_h hc h
      refine lv_iconst (v := (0 : Int32)) hx hb dX4_hasRoom_76 (by decide) ?_
      cases h
      exact hQ _ _ _ _ dX4_hasRoom_77 (gB_n (v := (0 : Int32)) (Or.inl rfl)) w
    · have h := nf_h hc h
      refine lv_iconst (v := (1 : Int32)) hx hb dX4_hasRoom_72 (by decide) ?_
      refine lv_goto (tgt := 77) hx hb dX4_hasRoom_73 (by decide) ?_
      cases h
      exact hQ _ _ _ _ dX4_hasRoom_77 (gB_n (v := (1 : Int32)) (Or.inr rfl)) w
set_option maxRecDepth 100000 in
theorem w_Ta_hasRoom_J15 {p : Program} {l : Launch} {e : Env} {s : State} {m : MethodId} {args : Array Value} {below : List Frame} {meth : Method} {c : Code} {Q : State → Prop} {A : Nat → Prop} {D : va_G} {cI cJ cZ cO : ClassId} {q_this q_prefixes q_suffixes q_known q_bits q_prefixes_words q_suffixes_words : Nat} {v_letters : Int32} {v_prefixes_size : Int32} {v_prefixes_longest : Int32} {v_prefixes_words : (Nat → Int64)} {v_suffixes_size : Int32} {v_suffixes_longest : Int32} {v_suffixes_words : (Nat → Int64)} {x : Int32} {x1 : Int32} {x2 : Int32} {x3 : Int32} (C0 : Cx p s m args c A D cI cJ cZ cO cX4_hasRoom 6 RX4) (hQ : RtI p l e rm_Ta_hasRoom s m args below meth c Q A D cX4_hasRoom .boolean (ws_Ta_hasRoom cI cJ cZ q_this q_prefixes q_suffixes q_known q_bits q_prefixes_words q_suffixes_words v_letters v_prefixes_size v_prefixes_longest v_prefixes_words v_suffixes_size v_suffixes_longest v_suffixes_words) x) {H : Heap} {locs : List Loc} {ls : Array Slot} (h : f_Ta_hasRoom_J15 x1 x2 x3 v_prefixes_size v_prefixes_longest v_suffixes_longest = some x) (w : Wd s A D (ws_Ta_hasRoom cI cJ cZ q_this q_prefixes q_suffixes q_known q_bits q_prefixes_words q_suffixes_words v_letters v_prefixes_size v_prefixes_longest v_prefixes_words v_suffixes_size v_suffixes_longest v_suffixes_words) H locs) (hl : lv_has ls 6 [(0, .ref q_this), (1, .int x1), (2, .int x2), (3, .int x3)]) : W p l e rm_Ta_hasRoom s m args below meth c H locs 0 0 Q (F0 m 15 ls [.ref q_prefixes]) := by
  obtain ⟨hx, hb, hml, hown, hts, -, -⟩ := id C0
  unfold f_Ta_hasRoom_J15 at h
  refine lv_astore (lv' := [(4, .ref q_prefixes), (0, .ref q_this), (1, .int x1), (2, .int x2), (3, .int x3)]) hx hb dX4_hasRoom_15 hl (by decide) rfl (fun ls hl => ?_)
  refine lv_iload_n hx hb dX4_hasRoom_17 rfl (lv_at hl 2 rfl) ?_
  refine lv_if_eq (tgt := 28) hx hb dX4_hasRoom_18 (by decide) (fun hc => ?_) (fun hc => ?_)
  · have h := if_h hc h
    refine lv_aload_n hx hb dX4_hasRoom_28 rfl (lv_at hl 1 rfl) ?_
    refine r_get C0 w 0 rfl kf_Ta 1 (by decide) lf_RX4_20 rfl dX4_hasRoom_29 ?_
    exact w_Ta_hasRoom_J32 C0 hQ h w (lv_sub hl [3, 4, 0] rfl)
  · have h := nf_h hc h
    refine lv_aload_n hx hb dX4_hasRoom_21 rfl (lv_at hl 1 rfl) ?_
    refine r_get C0 w 0 rfl kf_Ta 0 (by decide) lf_RX4_14 rfl dX4_hasRoom_22 ?_
    refine lv_goto (tgt := 32) hx hb dX4_hasRoom_25 (by decide) ?_
    exact w_Ta_hasRoom_J32v1 C0 hQ h w (lv_sub hl [3, 4, 0] rfl)
set_option maxRecDepth 100000 in
theorem w_Ta_hasRoom_J32v3 {p : Program} {l : Launch} {e : Env} {s : State} {m : MethodId} {args : Array Value} {below : List Frame} {meth : Method} {c : Code} {Q : State → Prop} {A : Nat → Prop} {D : va_G} {cI cJ cZ cO : ClassId} {q_this q_prefixes q_suffixes q_known q_bits q_prefixes_words q_suffixes_words : Nat} {v_letters : Int32} {v_prefixes_size : Int32} {v_prefixes_longest : Int32} {v_prefixes_words : (Nat → Int64)} {v_suffixes_size : Int32} {v_suffixes_longest : Int32} {v_suffixes_words : (Nat → Int64)} {x : Int32} {x2 : Int32} {x3 : Int32} (C0 : Cx p s m args c A D cI cJ cZ cO cX4_hasRoom 6 RX4) (hQ : RtI p l e rm_Ta_hasRoom s m args below meth c Q A D cX4_hasRoom .boolean (ws_Ta_hasRoom cI cJ cZ q_this q_prefixes q_suffixes q_known q_bits q_prefixes_words q_suffixes_words v_letters v_prefixes_size v_prefixes_longest v_prefixes_words v_suffixes_size v_suffixes_longest v_suffixes_words) x) {H : Heap} {locs : List Loc} {ls : Array Slot} (h : f_Ta_hasRoom_J32v3 x2 x3 v_suffixes_size v_suffixes_longest = some x) (w : Wd s A D (ws_Ta_hasRoom cI cJ cZ q_this q_prefixes q_suffixes q_known q_bits q_prefixes_words q_suffixes_words v_letters v_prefixes_size v_prefixes_longest v_prefixes_words v_suffixes_size v_suffixes_longest v_suffixes_words) H locs) (hl : lv_has ls 6 [(2, .int x2), (3, .int x3), (4, .ref q_suffixes)]) : W p l e rm_Ta_hasRoom s m args below meth c H locs 0 0 Q (F0 m 32 ls [.ref q_suffixes]) := by
  obtain ⟨hx, hb, hml, hown, hts, -, -⟩ := id C0
  unfold f_Ta_hasRoom_J32v3 at h
  refine lv_astore (lv' := [(5, .ref q_suffixes), (2, .int x2), (3, .int x3), (4, .ref q_suffixes)]) hx hb dX4_hasRoom_32 hl (by decide) rfl (fun ls hl => ?_)
  refine lv_aload hx hb dX4_hasRoom_34 (lv_at hl 3 rfl) ?_
  refine r_get C0 w 3 rfl kf_WL 1 (by decide) lf_RX4_45 rfl dX4_hasRoom_36 ?_
  refine lv_iload_n hx hb dX4_hasRoom_39 rfl (lv_at hl 1 rfl) ?_
  refine lv_iadd hx hb dX4_hasRoom_40 ?_
  refine lv_aload hx hb dX4_hasRoom_41 (lv_at hl 3 rfl) ?_
  refine r_get C0 w 3 rfl kf_WL 0 (by decide) lf_RX4_52 rfl dX4_hasRoom_43 ?_
  refine r_alen (v := (16 : Int32)) C0 w 4 1 rfl rfl rfl dX4_hasRoom_46 ?_
  refine lv_icmp_gt (tgt := 76) hx hb dX4_hasRoom_47 (by decide) (fun hc => ?_) (fun hc => ?_)
  · have h := if_h hc h
    refine lv_iconst (v := (0 : Int32)) hx hb dX4_hasRoom_76 (by decide) ?_
    cases h
    exact hQ _ _ _ _ dX4_hasRoom_77 (gB_n (v := (0 : Int32)) (Or.inl rfl)) w
  · have h := nf_h hc h
    refine lv_aload hx hb dX4_hasRoom_50 (lv_at hl 3 rfl) ?_
    refine r_get C0 w 3 rfl kf_WL 2 (by decide) lf_RX4_92 rfl dX4_hasRoom_52 ?_
    refine lv_iload_n hx hb dX4_hasRoom_55 rfl (lv_at hl 2 rfl) ?_
    refine r_max C0 hl lm_RX4_95 mx_st mx_in mx_co ⟨by decide, by decide⟩ (Nat.le_of_ble_eq_true rfl) ⟨Nat.zero_le _, Nat.zero_le _⟩ dX4_hasRoom_56 ?_
    refine lv_iconst (v := (1 : Int32)) hx hb dX4_hasRoom_59 (by decide) ?_
    refine lv_iadd hx hb dX4_hasRoom_60 ?_
    refine lv_aload hx hb dX4_hasRoom_61 (lv_at hl 0 rfl) ?_
    refine r_get C0 w 3 rfl kf_WL 2 (by decide) lf_RX4_92 rfl dX4_hasRoom_63 ?_
    refine lv_iadd hx hb dX4_hasRoom_66 ?_
    refine lv_bipush (v := (16 : Int32)) hx hb dX4_hasRoom_67 (by decide) ?_
    refine lv_icmp_gt (tgt := 76) hx hb dX4_hasRoom_69 (by decide) (fun hc => ?_) (fun hc => ?_)
    · have h := if_h hc h
      refine lv_iconst (v := (0 : Int32)) hx hb dX4_hasRoom_76 (by decide) ?_
      cases h
      exact hQ _ _ _ _ dX4_hasRoom_77 (gB_n (v := (0 : Int32)) (Or.inl rfl)) w
    · have h := nf_h hc h
      refine lv_iconst (v := (1 : Int32)) hx hb dX4_hasRoom_72 (by decide) ?_
      refine lv_goto (tgt := 77) hx hb dX4_hasRoom_73 (by decide) ?_
      cases h
      exact hQ _ _ _ _ dX4_hasRoom_77 (gB_n (v := (1 : Int32)) (Or.inr rfl)) w
set_option maxRecDepth 100000 in
theorem w_Ta_hasRoom_J32v4 {p : Program} {l : Launch} {e : Env} {s : State} {m : MethodId} {args : Array Value} {below : List Frame} {meth : Method} {c : Code} {Q : State → Prop} {A : Nat → Prop} {D : va_G} {cI cJ cZ cO : ClassId} {q_this q_prefixes q_suffixes q_known q_bits q_prefixes_words q_suffixes_words : Nat} {v_letters : Int32} {v_prefixes_size : Int32} {v_prefixes_longest : Int32} {v_prefixes_words : (Nat → Int64)} {v_suffixes_size : Int32} {v_suffixes_longest : Int32} {v_suffixes_words : (Nat → Int64)} {x : Int32} {x2 : Int32} {x3 : Int32} (C0 : Cx p s m args c A D cI cJ cZ cO cX4_hasRoom 6 RX4) (hQ : RtI p l e rm_Ta_hasRoom s m args below meth c Q A D cX4_hasRoom .boolean (ws_Ta_hasRoom cI cJ cZ q_this q_prefixes q_suffixes q_known q_bits q_prefixes_words q_suffixes_words v_letters v_prefixes_size v_prefixes_longest v_prefixes_words v_suffixes_size v_suffixes_longest v_suffixes_words) x) {H : Heap} {locs : List Loc} {ls : Array Slot} (h : f_Ta_hasRoom_J32v4 x2 x3 v_prefixes_longest v_suffixes_size v_suffixes_longest = some x) (w : Wd s A D (ws_Ta_hasRoom cI cJ cZ q_this q_prefixes q_suffixes q_known q_bits q_prefixes_words q_suffixes_words v_letters v_prefixes_size v_prefixes_longest v_prefixes_words v_suffixes_size v_suffixes_longest v_suffixes_words) H locs) (hl : lv_has ls 6 [(2, .int x2), (3, .int x3), (4, .ref q_suffixes)]) : W p l e rm_Ta_hasRoom s m args below meth c H locs 0 0 Q (F0 m 32 ls [.ref q_prefixes]) := by
  obtain ⟨hx, hb, hml, hown, hts, -, -⟩ := id C0
  unfold f_Ta_hasRoom_J32v4 at h
  refine lv_astore (lv' := [(5, .ref q_prefixes), (2, .int x2), (3, .int x3), (4, .ref q_suffixes)]) hx hb dX4_hasRoom_32 hl (by decide) rfl (fun ls hl => ?_)
  refine lv_aload hx hb dX4_hasRoom_34 (lv_at hl 3 rfl) ?_
  refine r_get C0 w 3 rfl kf_WL 1 (by decide) lf_RX4_45 rfl dX4_hasRoom_36 ?_
  refine lv_iload_n hx hb dX4_hasRoom_39 rfl (lv_at hl 1 rfl) ?_
  refine lv_iadd hx hb dX4_hasRoom_40 ?_
  refine lv_aload hx hb dX4_hasRoom_41 (lv_at hl 3 rfl) ?_
  refine r_get C0 w 3 rfl kf_WL 0 (by decide) lf_RX4_52 rfl dX4_hasRoom_43 ?_
  refine r_alen (v := (16 : Int32)) C0 w 4 1 rfl rfl rfl dX4_hasRoom_46 ?_
  refine lv_icmp_gt (tgt := 76) hx hb dX4_hasRoom_47 (by decide) (fun hc => ?_) (fun hc => ?_)
  · have h := if_h hc h
    refine lv_iconst (v := (0 : Int32)) hx hb dX4_hasRoom_76 (by decide) ?_
    cases h
    exact hQ _ _ _ _ dX4_hasRoom_77 (gB_n (v := (0 : Int32)) (Or.inl rfl)) w
  · have h := nf_h hc h
    refine lv_aload hx hb dX4_hasRoom_50 (lv_at hl 3 rfl) ?_
    refine r_get C0 w 3 rfl kf_WL 2 (by decide) lf_RX4_92 rfl dX4_hasRoom_52 ?_
    refine lv_iload_n hx hb dX4_hasRoom_55 rfl (lv_at hl 2 rfl) ?_
    refine r_max C0 hl lm_RX4_95 mx_st mx_in mx_co ⟨by decide, by decide⟩ (Nat.le_of_ble_eq_true rfl) ⟨Nat.zero_le _, Nat.zero_le _⟩ dX4_hasRoom_56 ?_
    refine lv_iconst (v := (1 : Int32)) hx hb dX4_hasRoom_59 (by decide) ?_
    refine lv_iadd hx hb dX4_hasRoom_60 ?_
    refine lv_aload hx hb dX4_hasRoom_61 (lv_at hl 0 rfl) ?_
    refine r_get C0 w 1 rfl kf_WL 2 (by decide) lf_RX4_92 rfl dX4_hasRoom_63 ?_
    refine lv_iadd hx hb dX4_hasRoom_66 ?_
    refine lv_bipush (v := (16 : Int32)) hx hb dX4_hasRoom_67 (by decide) ?_
    refine lv_icmp_gt (tgt := 76) hx hb dX4_hasRoom_69 (by decide) (fun hc => ?_) (fun hc => ?_)
    · have h := if_h hc h
      refine lv_iconst (v := (0 : Int32)) hx hb dX4_hasRoom_76 (by decide) ?_
      cases h
      exact hQ _ _ _ _ dX4_hasRoom_77 (gB_n (v := (0 : Int32)) (Or.inl rfl)) w
    · have h := nf_h hc h
      refine lv_iconst (v := (1 : Int32)) hx hb dX4_hasRoom_72 (by decide) ?_
      refine lv_goto (tgt := 77) hx hb dX4_hasRoom_73 (by decide) ?_
      cases h
      exact hQ _ _ _ _ dX4_hasRoom_77 (gB_n (v := (1 : Int32)) (Or.inr rfl)) w
set_option maxRecDepth 100000 in
theorem w_Ta_hasRoom_J15v3 {p : Program} {l : Launch} {e : Env} {s : State} {m : MethodId} {args : Array Value} {below : List Frame} {meth : Method} {c : Code} {Q : State → Prop} {A : Nat → Prop} {D : va_G} {cI cJ cZ cO : ClassId} {q_this q_prefixes q_suffixes q_known q_bits q_prefixes_words q_suffixes_words : Nat} {v_letters : Int32} {v_prefixes_size : Int32} {v_prefixes_longest : Int32} {v_prefixes_words : (Nat → Int64)} {v_suffixes_size : Int32} {v_suffixes_longest : Int32} {v_suffixes_words : (Nat → Int64)} {x : Int32} {x1 : Int32} {x2 : Int32} {x3 : Int32} (C0 : Cx p s m args c A D cI cJ cZ cO cX4_hasRoom 6 RX4) (hQ : RtI p l e rm_Ta_hasRoom s m args below meth c Q A D cX4_hasRoom .boolean (ws_Ta_hasRoom cI cJ cZ q_this q_prefixes q_suffixes q_known q_bits q_prefixes_words q_suffixes_words v_letters v_prefixes_size v_prefixes_longest v_prefixes_words v_suffixes_size v_suffixes_longest v_suffixes_words) x) {H : Heap} {locs : List Loc} {ls : Array Slot} (h : f_Ta_hasRoom_J15v3 x1 x2 x3 v_prefixes_longest v_suffixes_size v_suffixes_longest = some x) (w : Wd s A D (ws_Ta_hasRoom cI cJ cZ q_this q_prefixes q_suffixes q_known q_bits q_prefixes_words q_suffixes_words v_letters v_prefixes_size v_prefixes_longest v_prefixes_words v_suffixes_size v_suffixes_longest v_suffixes_words) H locs) (hl : lv_has ls 6 [(0, .ref q_this), (1, .int x1), (2, .int x2), (3, .int x3)]) : W p l e rm_Ta_hasRoom s m args below meth c H locs 0 0 Q (F0 m 15 ls [.ref q_suffixes]) := by
  obtain ⟨hx, hb, hml, hown, hts, -, -⟩ := id C0
  unfold f_Ta_hasRoom_J15v3 at h
  refine lv_astore (lv' := [(4, .ref q_suffixes), (0, .ref q_this), (1, .int x1), (2, .int x2), (3, .int x3)]) hx hb dX4_hasRoom_15 hl (by decide) rfl (fun ls hl => ?_)
  refine lv_iload_n hx hb dX4_hasRoom_17 rfl (lv_at hl 2 rfl) ?_
  refine lv_if_eq (tgt := 28) hx hb dX4_hasRoom_18 (by decide) (fun hc => ?_) (fun hc => ?_)
  · have h := if_h hc h
    refine lv_aload_n hx hb dX4_hasRoom_28 rfl (lv_at hl 1 rfl) ?_
    refine r_get C0 w 0 rfl kf_Ta 1 (by decide) lf_RX4_20 rfl dX4_hasRoom_29 ?_
    exact w_Ta_hasRoom_J32v3 C0 hQ h w (lv_sub hl [3, 4, 0] rfl)
  · have h := nf_h hc h
    refine lv_aload_n hx hb dX4_hasRoom_21 rfl (lv_at hl 1 rfl) ?_
    refine r_get C0 w 0 rfl kf_Ta 0 (by decide) lf_RX4_14 rfl dX4_hasRoom_22 ?_
    refine lv_goto (tgt := 32) hx hb dX4_hasRoom_25 (by decide) ?_
    exact w_Ta_hasRoom_J32v4 C0 hQ h w (lv_sub hl [3, 4, 0] rfl)
set_option maxRecDepth 100000 in
theorem c_Ta_hasRoom {l : Launch} {D : va_G} {cI cJ cZ cO : ClassId} {q_this q_prefixes q_suffixes q_known q_bits q_prefixes_words q_suffixes_words : Nat} {x1 : Int32} {x2 : Int32} {x3 : Int32} {v_letters : Int32} {v_prefixes_size : Int32} {v_prefixes_longest : Int32} {v_prefixes_words : (Nat → Int64)} {v_suffixes_size : Int32} {v_suffixes_longest : Int32} {v_suffixes_words : (Nat → Int64)} {x : Int32} (h : f_Ta_hasRoom x1 x2 x3 v_prefixes_size v_prefixes_longest v_suffixes_size v_suffixes_longest = some x) : ctI l D cI cJ cZ cO yX4_hasRoom cX4_hasRoom 6 .boolean rm_Ta_hasRoom [.ref q_this, .int x1, .int x2, .int x3] (ws_Ta_hasRoom cI cJ cZ q_this q_prefixes q_suffixes q_known q_bits q_prefixes_words q_suffixes_words v_letters v_prefixes_size v_prefixes_longest v_prefixes_words v_suffixes_size v_suffixes_longest v_suffixes_words) (ws_Ta_hasRoom cI cJ cZ q_this q_prefixes q_suffixes q_known q_bits q_prefixes_words q_suffixes_words v_letters v_prefixes_size v_prefixes_longest v_prefixes_words v_suffixes_size v_suffixes_longest v_suffixes_words) x := by
  refine ctI_of (by decide) (Nat.le_of_ble_eq_true rfl) ?_
  intro p e s m below meth c Q A ls C0 hQ w hl
  have hl : lv_has ls 6 [(0, .ref q_this), (1, .int x1), (2, .int x2), (3, .int x3)] := hl
  generalize List.toArray (α := Value) [.ref q_this, .int x1, .int x2, .int x3] = args at C0 hQ ⊢
  obtain ⟨hx, hb, hml, hown, hts, -, -⟩ := id C0
  unfold f_Ta_hasRoom at h
  refine lv_iload_n hx hb dX4_hasRoom_0 rfl (lv_at hl 1 rfl) ?_
  refine lv_if_eq (tgt := 11) hx hb dX4_hasRoom_1 (by decide) (fun hc => ?_) (fun hc => ?_)
  · have h := if_h hc h
    refine lv_aload_n hx hb dX4_hasRoom_11 rfl (lv_at hl 0 rfl) ?_
    refine r_get C0 w 0 rfl kf_Ta 0 (by decide) lf_RX4_14 rfl dX4_hasRoom_12 ?_
    exact w_Ta_hasRoom_J15 C0 hQ h w (lv_sub hl [0, 1, 2, 3] rfl)
  · have h := nf_h hc h
    refine lv_aload_n hx hb dX4_hasRoom_4 rfl (lv_at hl 0 rfl) ?_
    refine r_get C0 w 0 rfl kf_Ta 1 (by decide) lf_RX4_20 rfl dX4_hasRoom_5 ?_
    refine lv_goto (tgt := 15) hx hb dX4_hasRoom_8 (by decide) ?_
    exact w_Ta_hasRoom_J15v3 C0 hQ h w (lv_sub hl [0, 1, 2, 3] rfl)
theorem dX6_contains_0 : decode cX6_contains 0 = .ok (.iconst 0, 1) := by decide +kernel
theorem dX6_contains_1 : decode cX6_contains 1 = .ok (.istore_n 3, 1) := by decide +kernel
theorem dX6_contains_2 : decode cX6_contains 2 = .ok (.iload_n 3, 1) := by decide +kernel
theorem dX6_contains_3 : decode cX6_contains 3 = .ok (.aload_n 0, 1) := by decide +kernel
theorem dX6_contains_4 : decode cX6_contains 4 = .ok (.getfield 13, 3) := by decide +kernel
theorem dX6_contains_7 : decode cX6_contains 7 = .ok (.if_icmp .ge 22, 3) := by decide +kernel
theorem dX6_contains_10 : decode cX6_contains 10 = .ok (.aload_n 0, 1) := by decide +kernel
theorem dX6_contains_11 : decode cX6_contains 11 = .ok (.getfield 7, 3) := by decide +kernel
theorem dX6_contains_14 : decode cX6_contains 14 = .ok (.iload_n 3, 1) := by decide +kernel
theorem dX6_contains_15 : decode cX6_contains 15 = .ok (.laload, 1) := by decide +kernel
theorem dX6_contains_16 : decode cX6_contains 16 = .ok (.lload_n 1, 1) := by decide +kernel
theorem dX6_contains_17 : decode cX6_contains 17 = .ok (.lcmp, 1) := by decide +kernel
theorem dX6_contains_18 : decode cX6_contains 18 = .ok (.ifCond .ne 5, 3) := by decide +kernel
theorem dX6_contains_21 : decode cX6_contains 21 = .ok (.iconst 1, 1) := by decide +kernel
theorem dX6_contains_22 : decode cX6_contains 22 = .ok (.ireturn, 1) := by decide +kernel
theorem dX6_contains_23 : decode cX6_contains 23 = .ok (.iinc 3 1, 3) := by decide +kernel
theorem dX6_contains_26 : decode cX6_contains 26 = .ok (.goto (-24), 3) := by decide +kernel
theorem dX6_contains_29 : decode cX6_contains 29 = .ok (.iconst 0, 1) := by decide +kernel
theorem dX6_contains_30 : decode cX6_contains 30 = .ok (.ireturn, 1) := by decide +kernel
set_option maxRecDepth 100000 in
theorem w_WL_contains_L2 {p : Program} {l : Launch} {e : Env} {s : State} {m : MethodId} {args : Array Value} {below : List Frame} {meth : Method} {c : Code} {Q : State → Prop} {A : Nat → Prop} {D : va_G} {cI cJ cZ cO : ClassId} {q_this q_words : Nat} {n_words : Nat} {v_size : Int32} {v_longest : Int32} {v_words : (Nat → Int64)} {x1 : Int64} {x : Int32} (C0 : Cx p s m args c A D cI cJ cZ cO cX6_contains 4 RX6) (hQ : RtI p l e rm_WL_contains s m args below meth c Q A D cX6_contains .boolean (ws_WL_contains cI cJ cZ q_this q_words n_words v_size v_longest v_words) x) {K : Int32 → Option (Int32)} (hK : ∀ (x3 : Int32) (H : Heap) (locs : List Loc) (ls : Array Slot), K x3 = some x → Wd s A D (ws_WL_contains cI cJ cZ q_this q_words n_words v_size v_longest v_words) H locs → lv_has ls 4 [] → W p l e rm_WL_contains s m args below meth c H locs 0 0 Q (F0 m 29 ls [])) {rec : Int32 → Option (Int32)} (hrec : ∀ (x3 : Int32) (H : Heap) (locs : List Loc) (ls : Array Slot), rec x3 = some x → Wd s A D (ws_WL_contains cI cJ cZ q_this q_words n_words v_size v_longest v_words) H locs → lv_has ls 4 [(0, .ref q_this), (1, .long x1), (3, .int x3)] → W p l e rm_WL_contains s m args below meth c H locs 0 0 Q (F0 m 2 ls [])) (x3 : Int32) {H : Heap} {locs : List Loc} {ls : Array Slot} (h : f_WL_contains_L2 n_words v_size v_words x1 K rec x3 = some x) (w : Wd s A D (ws_WL_contains cI cJ cZ q_this q_words n_words v_size v_longest v_words) H locs) (hl : lv_has ls 4 [(0, .ref q_this), (1, .long x1), (3, .int x3)]) : W p l e rm_WL_contains s m args below meth c H locs 0 0 Q (F0 m 2 ls []) := by
  obtain ⟨hx, hb, hml, hown, hts, -, -⟩ := id C0
  unfold f_WL_contains_L2 at h
  refine lv_iload_n hx hb dX6_contains_2 rfl (lv_at hl 2 rfl) ?_
  refine lv_aload_n hx hb dX6_contains_3 rfl (lv_at hl 0 rfl) ?_
  refine r_get C0 w 0 rfl kf_WL 1 (by decide) lf_RX6_13 rfl dX6_contains_4 ?_
  refine lv_icmp_ge (tgt := 29) hx hb dX6_contains_7 (by decide) (fun hc => ?_) (fun hc => ?_)
  · have h := if_h hc h
    exact hK _ _ _ _ h w (lv_sub hl [] rfl)
  · have h := nf_h hc h
    refine lv_aload_n hx hb dX6_contains_10 rfl (lv_at hl 0 rfl) ?_
    refine r_get C0 w 0 rfl kf_WL 0 (by decide) lf_RX6_7 rfl dX6_contains_11 ?_
    refine lv_iload_n hx hb dX6_contains_14 rfl (lv_at hl 2 rfl) ?_
    obtain ⟨hi, h⟩ := gIn_h h
    refine r_lald C0 w 1 rfl rfl hi dX6_contains_15 ?_
    refine lv_lload_n hx hb dX6_contains_16 rfl (lv_at hl 1 rfl) ?_
    refine r_lc_ne (tgt := 23) hx hb dX6_contains_17 dX6_contains_18 (by decide) (fun hc => ?_) (fun hc => ?_)
    · have h := nf_h hc h
      obtain ⟨x3_1, ex3_1⟩ : ∃ y : Int32, y = (x3 + 1) := ⟨_, rfl⟩
      have h := bnd_at ex3_1 h
      refine lv_iinc (v := x3_1) (lv' := [(3, .int x3_1), (0, .ref q_this), (1, .long x1)]) hx hb dX6_contains_23 hl (k := 2) rfl (by rw [ex3_1]; rfl) (by decide) rfl (fun ls hl => ?_)
      refine lv_goto (tgt := 2) hx hb dX6_contains_26 (by decide) ?_
      exact hrec _ _ _ _ h w (lv_sub hl [1, 2, 0] rfl)
    · have h := if_h hc h
      refine lv_iconst (v := (1 : Int32)) hx hb dX6_contains_21 (by decide) ?_
      cases h
      exact hQ _ _ _ _ dX6_contains_22 (gB_n (v := (1 : Int32)) (Or.inr rfl)) w
set_option maxRecDepth 100000 in
theorem wl_WL_contains_L2 {p : Program} {l : Launch} {e : Env} {s : State} {m : MethodId} {args : Array Value} {below : List Frame} {meth : Method} {c : Code} {Q : State → Prop} {A : Nat → Prop} {D : va_G} {cI cJ cZ cO : ClassId} {q_this q_words : Nat} {n_words : Nat} {v_size : Int32} {v_longest : Int32} {v_words : (Nat → Int64)} {x1 : Int64} {x : Int32} (C0 : Cx p s m args c A D cI cJ cZ cO cX6_contains 4 RX6) (hQ : RtI p l e rm_WL_contains s m args below meth c Q A D cX6_contains .boolean (ws_WL_contains cI cJ cZ q_this q_words n_words v_size v_longest v_words) x) {K : Int32 → Option (Int32)} (hK : ∀ (x3 : Int32) (H : Heap) (locs : List Loc) (ls : Array Slot), K x3 = some x → Wd s A D (ws_WL_contains cI cJ cZ q_this q_words n_words v_size v_longest v_words) H locs → lv_has ls 4 [] → W p l e rm_WL_contains s m args below meth c H locs 0 0 Q (F0 m 29 ls [])) : ∀ (n : Nat) (x3 : Int32) (H : Heap) (locs : List Loc) (ls : Array Slot), itr (fun _ => none) (f_WL_contains_L2 n_words v_size v_words x1 K) n x3 = some x → Wd s A D (ws_WL_contains cI cJ cZ q_this q_words n_words v_size v_longest v_words) H locs → lv_has ls 4 [(0, .ref q_this), (1, .long x1), (3, .int x3)] → W p l e rm_WL_contains s m args below meth c H locs 0 0 Q (F0 m 2 ls []) := by
  intro n
  induction n with
  | zero => intro _ _ _ _ h; cases (show none = some _ from h)
  | succ n ih => intro _ _ _ _ h w hl; exact w_WL_contains_L2 C0 hQ hK ih _ h w hl
set_option maxRecDepth 100000 in
theorem c_WL_contains {l : Launch} {D : va_G} {cI cJ cZ cO : ClassId} {q_this q_words : Nat} {n_words : Nat} {x1 : Int64} {v_size : Int32} {v_longest : Int32} {v_words : (Nat → Int64)} {x : Int32} (h : f_WL_contains n_words x1 v_size v_words = some x) : ctI l D cI cJ cZ cO yX6_contains cX6_contains 4 .boolean rm_WL_contains [.ref q_this, .long x1] (ws_WL_contains cI cJ cZ q_this q_words n_words v_size v_longest v_words) (ws_WL_contains cI cJ cZ q_this q_words n_words v_size v_longest v_words) x := by
  refine ctI_of (by decide) (Nat.le_of_ble_eq_true rfl) ?_
  intro p e s m below meth c Q A ls C0 hQ w hl
  have hl : lv_has ls 4 [(0, .ref q_this), (1, .long x1)] := hl
  generalize List.toArray (α := Value) [.ref q_this, .long x1] = args at C0 hQ ⊢
  obtain ⟨hx, hb, hml, hown, hts, -, -⟩ := id C0
  unfold f_WL_contains at h
  refine lv_iconst (v := (0 : Int32)) hx hb dX6_contains_0 (by decide) ?_
  refine lv_istore_n (lv' := [(3, .int (0 : Int32)), (0, .ref q_this), (1, .long x1)]) hx hb dX6_contains_1 rfl hl (by decide) rfl (fun ls hl => ?_)
  refine wl_WL_contains_L2 C0 hQ (fun x3 H locs ls h w hl => ?_) _ _ _ _ _ h w (lv_sub hl [1, 2, 0] rfl)
  refine lv_iconst (v := (0 : Int32)) hx hb dX6_contains_29 (by decide) ?_
  cases h
  exact hQ _ _ _ _ dX6_contains_30 (gB_n (v := (0 : Int32)) (Or.inl rfl)) w

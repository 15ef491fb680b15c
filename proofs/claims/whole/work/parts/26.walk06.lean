theorem dX9_digest_0 : decode cX9_digest 0 = .ok (.aload_n 0, 1) := by decide +kernel
theorem dX9_digest_1 : decode cX9_digest 1 = .ok (.getfield 10, 3) := by decide +kernel
theorem dX9_digest_4 : decode cX9_digest 4 = .ok (.getfield 116, 3) := by decide +kernel
theorem dX9_digest_7 : decode cX9_digest 7 = .ok (.astore_n 1, 1) := by decide +kernel
theorem dX9_digest_8 : decode cX9_digest 8 = .ok (.ldc2_w 210, 3) := by decide +kernel
theorem dX9_digest_11 : decode cX9_digest 11 = .ok (.lstore_n 2, 1) := by decide +kernel
theorem dX9_digest_12 : decode cX9_digest 12 = .ok (.iconst 0, 1) := by decide +kernel
theorem dX9_digest_13 : decode cX9_digest 13 = .ok (.istore 4, 2) := by decide +kernel
theorem dX9_digest_15 : decode cX9_digest 15 = .ok (.iload 4, 2) := by decide +kernel
theorem dX9_digest_17 : decode cX9_digest 17 = .ok (.bipush 12, 2) := by decide +kernel
theorem dX9_digest_19 : decode cX9_digest 19 = .ok (.if_icmp .gt 23, 3) := by decide +kernel
theorem dX9_digest_22 : decode cX9_digest 22 = .ok (.ldc2_w 212, 3) := by decide +kernel
theorem dX9_digest_25 : decode cX9_digest 25 = .ok (.lload_n 2, 1) := by decide +kernel
theorem dX9_digest_26 : decode cX9_digest 26 = .ok (.lmul, 1) := by decide +kernel
theorem dX9_digest_27 : decode cX9_digest 27 = .ok (.aload_n 0, 1) := by decide +kernel
theorem dX9_digest_28 : decode cX9_digest 28 = .ok (.iload 4, 2) := by decide +kernel
theorem dX9_digest_30 : decode cX9_digest 30 = .ok (.invokevirtual 214, 3) := by decide +kernel
theorem dX9_digest_33 : decode cX9_digest 33 = .ok (.i2l, 1) := by decide +kernel
theorem dX9_digest_34 : decode cX9_digest 34 = .ok (.ladd, 1) := by decide +kernel
theorem dX9_digest_35 : decode cX9_digest 35 = .ok (.lstore_n 2, 1) := by decide +kernel
theorem dX9_digest_36 : decode cX9_digest 36 = .ok (.iinc 4 1, 3) := by decide +kernel
theorem dX9_digest_39 : decode cX9_digest 39 = .ok (.goto (-24), 3) := by decide +kernel
theorem dX9_digest_42 : decode cX9_digest 42 = .ok (.lload_n 2, 1) := by decide +kernel
theorem dX9_digest_43 : decode cX9_digest 43 = .ok (.aload_n 0, 1) := by decide +kernel
theorem dX9_digest_44 : decode cX9_digest 44 = .ok (.getfield 10, 3) := by decide +kernel
theorem dX9_digest_47 : decode cX9_digest 47 = .ok (.getfield 35, 3) := by decide +kernel
theorem dX9_digest_50 : decode cX9_digest 50 = .ok (.getfield 39, 3) := by decide +kernel
theorem dX9_digest_53 : decode cX9_digest 53 = .ok (.invokestatic 217, 3) := by decide +kernel
theorem dX9_digest_56 : decode cX9_digest 56 = .ok (.lstore_n 2, 1) := by decide +kernel
theorem dX9_digest_57 : decode cX9_digest 57 = .ok (.ldc2_w 212, 3) := by decide +kernel
theorem dX9_digest_60 : decode cX9_digest 60 = .ok (.lload_n 2, 1) := by decide +kernel
theorem dX9_digest_61 : decode cX9_digest 61 = .ok (.lmul, 1) := by decide +kernel
theorem dX9_digest_62 : decode cX9_digest 62 = .ok (.aload_n 0, 1) := by decide +kernel
theorem dX9_digest_63 : decode cX9_digest 63 = .ok (.invokevirtual 221, 3) := by decide +kernel
theorem dX9_digest_66 : decode cX9_digest 66 = .ok (.i2l, 1) := by decide +kernel
theorem dX9_digest_67 : decode cX9_digest 67 = .ok (.ladd, 1) := by decide +kernel
theorem dX9_digest_68 : decode cX9_digest 68 = .ok (.lstore_n 2, 1) := by decide +kernel
theorem dX9_digest_69 : decode cX9_digest 69 = .ok (.aload_n 0, 1) := by decide +kernel
theorem dX9_digest_70 : decode cX9_digest 70 = .ok (.lload_n 2, 1) := by decide +kernel
theorem dX9_digest_71 : decode cX9_digest 71 = .ok (.aload_n 1, 1) := by decide +kernel
theorem dX9_digest_72 : decode cX9_digest 72 = .ok (.getfield 136, 3) := by decide +kernel
theorem dX9_digest_75 : decode cX9_digest 75 = .ok (.invokevirtual 224, 3) := by decide +kernel
theorem dX9_digest_78 : decode cX9_digest 78 = .ok (.lstore_n 2, 1) := by decide +kernel
theorem dX9_digest_79 : decode cX9_digest 79 = .ok (.lload_n 2, 1) := by decide +kernel
theorem dX9_digest_80 : decode cX9_digest 80 = .ok (.aload_n 1, 1) := by decide +kernel
theorem dX9_digest_81 : decode cX9_digest 81 = .ok (.getfield 184, 3) := by decide +kernel
theorem dX9_digest_84 : decode cX9_digest 84 = .ok (.invokestatic 217, 3) := by decide +kernel
theorem dX9_digest_87 : decode cX9_digest 87 = .ok (.lstore_n 2, 1) := by decide +kernel
theorem dX9_digest_88 : decode cX9_digest 88 = .ok (.aload_n 1, 1) := by decide +kernel
theorem dX9_digest_89 : decode cX9_digest 89 = .ok (.getfield 190, 3) := by decide +kernel
theorem dX9_digest_92 : decode cX9_digest 92 = .ok (.ldc2_w 83, 3) := by decide +kernel
theorem dX9_digest_95 : decode cX9_digest 95 = .ok (.lcmp, 1) := by decide +kernel
theorem dX9_digest_96 : decode cX9_digest 96 = .ok (.ifCond .eq 12, 3) := by decide +kernel
theorem dX9_digest_99 : decode cX9_digest 99 = .ok (.lload_n 2, 1) := by decide +kernel
theorem dX9_digest_100 : decode cX9_digest 100 = .ok (.aload_n 1, 1) := by decide +kernel
theorem dX9_digest_101 : decode cX9_digest 101 = .ok (.getfield 190, 3) := by decide +kernel
theorem dX9_digest_104 : decode cX9_digest 104 = .ok (.invokestatic 228, 3) := by decide +kernel
theorem dX9_digest_107 : decode cX9_digest 107 = .ok (.lstore_n 2, 1) := by decide +kernel
theorem dX9_digest_108 : decode cX9_digest 108 = .ok (.iconst 0, 1) := by decide +kernel
theorem dX9_digest_109 : decode cX9_digest 109 = .ok (.istore 4, 2) := by decide +kernel
theorem dX9_digest_111 : decode cX9_digest 111 = .ok (.iload 4, 2) := by decide +kernel
theorem dX9_digest_113 : decode cX9_digest 113 = .ok (.aload_n 0, 1) := by decide +kernel
theorem dX9_digest_114 : decode cX9_digest 114 = .ok (.getfield 24, 3) := by decide +kernel
theorem dX9_digest_117 : decode cX9_digest 117 = .ok (.if_icmp .ge 24, 3) := by decide +kernel
theorem dX9_digest_120 : decode cX9_digest 120 = .ok (.ldc2_w 212, 3) := by decide +kernel
theorem dX9_digest_123 : decode cX9_digest 123 = .ok (.lload_n 2, 1) := by decide +kernel
theorem dX9_digest_124 : decode cX9_digest 124 = .ok (.lmul, 1) := by decide +kernel
theorem dX9_digest_125 : decode cX9_digest 125 = .ok (.aload_n 0, 1) := by decide +kernel
theorem dX9_digest_126 : decode cX9_digest 126 = .ok (.getfield 20, 3) := by decide +kernel
theorem dX9_digest_129 : decode cX9_digest 129 = .ok (.iload 4, 2) := by decide +kernel
theorem dX9_digest_131 : decode cX9_digest 131 = .ok (.iaload, 1) := by decide +kernel
theorem dX9_digest_132 : decode cX9_digest 132 = .ok (.i2l, 1) := by decide +kernel
theorem dX9_digest_133 : decode cX9_digest 133 = .ok (.ladd, 1) := by decide +kernel
theorem dX9_digest_134 : decode cX9_digest 134 = .ok (.lstore_n 2, 1) := by decide +kernel
theorem dX9_digest_135 : decode cX9_digest 135 = .ok (.iinc 4 1, 3) := by decide +kernel
theorem dX9_digest_138 : decode cX9_digest 138 = .ok (.goto (-27), 3) := by decide +kernel
theorem dX9_digest_141 : decode cX9_digest 141 = .ok (.lload_n 2, 1) := by decide +kernel
theorem dX9_digest_142 : decode cX9_digest 142 = .ok (.lreturn, 1) := by decide +kernel
set_option maxRecDepth 100000 in
theorem w_TL_digest_L15 {p : Program} {l : Launch} {e : Env} {s : State} {m : MethodId} {args : Array Value} {below : List Frame} {meth : Method} {c : Code} {Q : State → Prop} {A : Nat → Prop} {D : va_G} {cI cJ cZ cO : ClassId} {q_this q_world q_slots q_text q_search q_world_teacher q_world_learner q_world_teacher_machine q_world_teacher_lies q_world_teacher_machine_moves q_world_teacher_machine_finals q_world_learner_asked q_world_learner_table q_world_learner_hypothesis q_world_learner_representatives q_world_learner_asked_entries q_world_learner_table_prefixes q_world_learner_table_suffixes q_world_learner_table_known q_world_learner_table_bits q_world_learner_table_prefixes_words q_world_learner_table_suffixes_words q_world_learner_hypothesis_moves q_world_learner_hypothesis_finals q_search_seen q_search_queue q_search_origin q_search_arrival q_search_letters : Nat} {v_textLength : Int32} {v_world_teacher_lieCount : Int32} {v_world_teacher_machine_size : Int32} {v_world_teacher_machine_letters : Int32} {v_world_teacher_machine_moves : (Nat → Int32)} {v_world_teacher_machine_finals : (Nat → Int32)} {v_world_learner_mode : Int32} {v_world_learner_budget : Int32} {v_world_learner_formed : Int32} {v_world_learner_counterexample : Int64} {v_world_learner_corrections : Int32} {v_world_learner_deceived : Int32} {v_world_learner_asked_size : Int32} {v_world_learner_asked_entries : (Nat → Int64)} {v_world_learner_table_letters : Int32} {v_world_learner_table_prefixes_size : Int32} {v_world_learner_table_prefixes_longest : Int32} {v_world_learner_table_prefixes_words : (Nat → Int64)} {v_world_learner_table_suffixes_size : Int32} {v_world_learner_table_suffixes_longest : Int32} {v_world_learner_table_suffixes_words : (Nat → Int64)} {v_world_learner_hypothesis_size : Int32} {v_world_learner_hypothesis_letters : Int32} {v_world_learner_hypothesis_moves : (Nat → Int32)} {v_world_learner_hypothesis_finals : (Nat → Int32)} {v_text : (Nat → Int32)} {v_search_length : Int32} {v_search_queued : Int32} {v_search_seen : (Nat → Int32)} {v_search_queue : (Nat → Int32)} {v_search_origin : (Nat → Int32)} {v_search_arrival : (Nat → Int32)} {v_search_letters : (Nat → Int32)} {x : Int64 × (Nat → Int32) × (Nat → Int32) × (Nat → Int32) × (Nat → Int32) × (Nat → Int32) × Int32 × Int32} (C0 : Cx p s m args c A D cI cJ cZ cO cX9_digest 5 RX9) (hQ : RtJ p l e rm_TL_digest s m args below meth c Q A D cX9_digest (ws_TL_digest cI cJ cZ q_this q_world q_slots q_text q_search q_world_teacher q_world_learner q_world_teacher_machine q_world_teacher_lies q_world_teacher_machine_moves q_world_teacher_machine_finals q_world_learner_asked q_world_learner_table q_world_learner_hypothesis q_world_learner_representatives q_world_learner_asked_entries q_world_learner_table_prefixes q_world_learner_table_suffixes q_world_learner_table_known q_world_learner_table_bits q_world_learner_table_prefixes_words q_world_learner_table_suffixes_words q_world_learner_hypothesis_moves q_world_learner_hypothesis_finals q_search_seen q_search_queue q_search_origin q_search_arrival q_search_letters v_textLength v_world_teacher_lieCount v_world_teacher_machine_size v_world_teacher_machine_letters v_world_teacher_machine_moves v_world_teacher_machine_finals v_world_learner_mode v_world_learner_budget v_world_learner_formed v_world_learner_counterexample v_world_learner_corrections v_world_learner_deceived v_world_learner_asked_size v_world_learner_asked_entries v_world_learner_table_letters v_world_learner_table_prefixes_size v_world_learner_table_prefixes_longest v_world_learner_table_prefixes_words v_world_learner_table_suffixes_size v_world_learner_table_suffixes_longest v_world_learner_table_suffixes_words v_world_learner_hypothesis_size v_world_learner_hypothesis_letters v_world_learner_hypothesis_moves v_world_learner_hypothesis_finals v_text x.2.2.2.2.2.2.1 x.2.2.2.2.2.2.2 x.2.1 x.2.2.1 x.2.2.2.1 x.2.2.2.2.1 x.2.2.2.2.2.1) x.1) {K : Int64 → Int32 → Option (Int64 × (Nat → Int32) × (Nat → Int32) × (Nat → Int32) × (Nat → Int32) × (Nat → Int32) × Int32 × Int32)} (hK : ∀ (x2 : Int64) (x4 : Int32) (H : Heap) (locs : List Loc) (ls : Array Slot), K x2 x4 = some x → Wd s A D (ws_TL_digest cI cJ cZ q_this q_world q_slots q_text q_search q_world_teacher q_world_learner q_world_teacher_machine q_world_teacher_lies q_world_teacher_machine_moves q_world_teacher_machine_finals q_world_learner_asked q_world_learner_table q_world_learner_hypothesis q_world_learner_representatives q_world_learner_asked_entries q_world_learner_table_prefixes q_world_learner_table_suffixes q_world_learner_table_known q_world_learner_table_bits q_world_learner_table_prefixes_words q_world_learner_table_suffixes_words q_world_learner_hypothesis_moves q_world_learner_hypothesis_finals q_search_seen q_search_queue q_search_origin q_search_arrival q_search_letters v_textLength v_world_teacher_lieCount v_world_teacher_machine_size v_world_teacher_machine_letters v_world_teacher_machine_moves v_world_teacher_machine_finals v_world_learner_mode v_world_learner_budget v_world_learner_formed v_world_learner_counterexample v_world_learner_corrections v_world_learner_deceived v_world_learner_asked_size v_world_learner_asked_entries v_world_learner_table_letters v_world_learner_table_prefixes_size v_world_learner_table_prefixes_longest v_world_learner_table_prefixes_words v_world_learner_table_suffixes_size v_world_learner_table_suffixes_longest v_world_learner_table_suffixes_words v_world_learner_hypothesis_size v_world_learner_hypothesis_letters v_world_learner_hypothesis_moves v_world_learner_hypothesis_finals v_text v_search_length v_search_queued v_search_seen v_search_queue v_search_origin v_search_arrival v_search_letters) H locs → lv_has ls 5 [(0, .ref q_this), (1, .ref q_world_learner), (2, .long x2)] → W p l e rm_TL_digest s m args below meth c H locs 0 0 Q (F0 m 42 ls [])) {rec : Int64 → Int32 → Option (Int64 × (Nat → Int32) × (Nat → Int32) × (Nat → Int32) × (Nat → Int32) × (Nat → Int32) × Int32 × Int32)} (hrec : ∀ (x2 : Int64) (x4 : Int32) (H : Heap) (locs : List Loc) (ls : Array Slot), rec x2 x4 = some x → Wd s A D (ws_TL_digest cI cJ cZ q_this q_world q_slots q_text q_search q_world_teacher q_world_learner q_world_teacher_machine q_world_teacher_lies q_world_teacher_machine_moves q_world_teacher_machine_finals q_world_learner_asked q_world_learner_table q_world_learner_hypothesis q_world_learner_representatives q_world_learner_asked_entries q_world_learner_table_prefixes q_world_learner_table_suffixes q_world_learner_table_known q_world_learner_table_bits q_world_learner_table_prefixes_words q_world_learner_table_suffixes_words q_world_learner_hypothesis_moves q_world_learner_hypothesis_finals q_search_seen q_search_queue q_search_origin q_search_arrival q_search_letters v_textLength v_world_teacher_lieCount v_world_teacher_machine_size v_world_teacher_machine_letters v_world_teacher_machine_moves v_world_teacher_machine_finals v_world_learner_mode v_world_learner_budget v_world_learner_formed v_world_learner_counterexample v_world_learner_corrections v_world_learner_deceived v_world_learner_asked_size v_world_learner_asked_entries v_world_learner_table_letters v_world_learner_table_prefixes_size v_world_learner_table_prefixes_longest v_world_learner_table_prefixes_words v_world_learner_table_suffixes_size v_world_learner_table_suffixes_longest v_world_learner_table_suffixes_words v_world_learner_hypothesis_size v_world_learner_hypothesis_letters v_world_learner_hypothesis_moves v_world_learner_hypothesis_finals v_text v_search_length v_search_queued v_search_seen v_search_queue v_search_origin v_search_arrival v_search_letters) H locs → lv_has ls 5 [(0, .ref q_this), (1, .ref q_world_learner), (2, .long x2), (4, .int x4)] → W p l e rm_TL_digest s m args below meth c H locs 0 0 Q (F0 m 15 ls [])) (x2 : Int64) (x4 : Int32) {H : Heap} {locs : List Loc} {ls : Array Slot} (h : f_TL_digest_L15 v_textLength v_world_teacher_lieCount v_world_teacher_machine_size v_world_teacher_machine_letters v_world_teacher_machine_finals v_world_learner_mode v_world_learner_budget v_world_learner_corrections v_world_learner_deceived v_world_learner_asked_size v_world_learner_table_prefixes_size v_world_learner_table_suffixes_size v_world_learner_hypothesis_size K rec x2 x4 = some x) (w : Wd s A D (ws_TL_digest cI cJ cZ q_this q_world q_slots q_text q_search q_world_teacher q_world_learner q_world_teacher_machine q_world_teacher_lies q_world_teacher_machine_moves q_world_teacher_machine_finals q_world_learner_asked q_world_learner_table q_world_learner_hypothesis q_world_learner_representatives q_world_learner_asked_entries q_world_learner_table_prefixes q_world_learner_table_suffixes q_world_learner_table_known q_world_learner_table_bits q_world_learner_table_prefixes_words q_world_learner_table_suffixes_words q_world_learner_hypothesis_moves q_world_learner_hypothesis_finals q_search_seen q_search_queue q_search_origin q_search_arrival q_search_letters v_textLength v_world_teacher_lieCount v_world_teacher_machine_size v_world_teacher_machine_letters v_world_teacher_machine_moves v_world_teacher_machine_finals v_world_learner_mode v_world_learner_budget v_world_learner_formed v_world_learner_counterexample v_world_learner_corrections v_world_learner_deceived v_world_learner_asked_size v_world_learner_asked_entries v_world_learner_table_letters v_world_learner_table_prefixes_size v_world_learner_table_prefixes_longest v_world_learner_table_prefixes_words v_world_learner_table_suffixes_size v_world_learner_table_suffixes_longest v_world_learner_table_suffixes_words v_world_learner_hypothesis_size v_world_learner_hypothesis_letters v_world_learner_hypothesis_moves v_world_learner_hypothesis_finals v_text v_search_length v_search_queued v_search_seen v_search_queue v_search_origin v_search_arrival v_search_letters) H locs) (hl : lv_has ls 5 [(0, .ref q_this), (1, .ref q_world_learner), (2, .long x2), (4, .int x4)]) : W p l e rm_TL_digest s m args below meth c H locs 0 0 Q (F0 m 15 ls []) := by
  obtain ⟨hx, hb, hml, hown, hts, -, -⟩ := id C0
  unfold f_TL_digest_L15 at h
  refine lv_iload hx hb dX9_digest_15 (lv_at hl 3 rfl) ?_
  refine lv_bipush (v := (12 : Int32)) hx hb dX9_digest_17 (by decide) ?_
  refine lv_icmp_gt (tgt := 42) hx hb dX9_digest_19 (by decide) (fun hc => ?_) (fun hc => ?_)
  · have h := if_h hc h
    exact hK _ _ _ _ _ h w (lv_sub hl [0, 1, 2] rfl)
  · have h := nf_h hc h
    refine lv_ldc2 (v := (31 : Int64)) hx hb hown (hts _ ll_RX9_212) dX9_digest_22 ?_
    refine lv_lload_n hx hb dX9_digest_25 rfl (lv_at hl 2 rfl) ?_
    refine lv_lmul hx hb dX9_digest_26 ?_
    refine lv_aload_n hx hb dX9_digest_27 rfl (lv_at hl 0 rfl) ?_
    refine lv_iload hx hb dX9_digest_28 (lv_at hl 3 rfl) ?_
    obtain ⟨r, hcall, h⟩ := bd1_h h
    obtain ⟨wr, hp, hp'⟩ := rd_of (ws := (ws_TL_digest cI cJ cZ q_this q_world q_slots q_text q_search q_world_teacher q_world_learner q_world_teacher_machine q_world_teacher_lies q_world_teacher_machine_moves q_world_teacher_machine_finals q_world_learner_asked q_world_learner_table q_world_learner_hypothesis q_world_learner_representatives q_world_learner_asked_entries q_world_learner_table_prefixes q_world_learner_table_suffixes q_world_learner_table_known q_world_learner_table_bits q_world_learner_table_prefixes_words q_world_learner_table_suffixes_words q_world_learner_hypothesis_moves q_world_learner_hypothesis_finals q_search_seen q_search_queue q_search_origin q_search_arrival q_search_letters v_textLength v_world_teacher_lieCount v_world_teacher_machine_size v_world_teacher_machine_letters v_world_teacher_machine_moves v_world_teacher_machine_finals v_world_learner_mode v_world_learner_budget v_world_learner_formed v_world_learner_counterexample v_world_learner_corrections v_world_learner_deceived v_world_learner_asked_size v_world_learner_asked_entries v_world_learner_table_letters v_world_learner_table_prefixes_size v_world_learner_table_prefixes_longest v_world_learner_table_prefixes_words v_world_learner_table_suffixes_size v_world_learner_table_suffixes_longest v_world_learner_table_suffixes_words v_world_learner_hypothesis_size v_world_learner_hypothesis_letters v_world_learner_hypothesis_moves v_world_learner_hypothesis_finals v_text v_search_length v_search_queued v_search_seen v_search_queue v_search_origin v_search_arrival v_search_letters)) (wc := (ws_TL_count cI cJ cZ q_this q_world q_slots q_text q_search q_world_teacher q_world_learner q_world_teacher_machine q_world_teacher_lies q_world_teacher_machine_moves q_world_teacher_machine_finals q_world_learner_asked q_world_learner_table q_world_learner_hypothesis q_world_learner_representatives q_world_learner_asked_entries q_world_learner_table_prefixes q_world_learner_table_suffixes q_world_learner_table_known q_world_learner_table_bits q_world_learner_table_prefixes_words q_world_learner_table_suffixes_words q_world_learner_hypothesis_moves q_world_learner_hypothesis_finals v_textLength v_world_teacher_lieCount v_world_teacher_machine_size v_world_teacher_machine_letters v_world_teacher_machine_finals v_world_learner_mode v_world_learner_budget v_world_learner_formed v_world_learner_counterexample v_world_learner_corrections v_world_learner_deceived v_world_learner_asked_size v_world_learner_table_letters v_world_learner_table_prefixes_size v_world_learner_table_prefixes_longest v_world_learner_table_suffixes_size v_world_learner_table_suffixes_longest v_world_learner_hypothesis_size v_world_learner_hypothesis_letters)) [0, 1, 2, 3, 5, 6, 7, 9, 10, 12, 14] rfl rfl
    refine r_VI (r := r) (As := [.int x4]) (rest := [.long ((31 : Int64) * x2)]) (wc' := (ws_TL_count cI cJ cZ q_this q_world q_slots q_text q_search q_world_teacher q_world_learner q_world_teacher_machine q_world_teacher_lies q_world_teacher_machine_moves q_world_teacher_machine_finals q_world_learner_asked q_world_learner_table q_world_learner_hypothesis q_world_learner_representatives q_world_learner_asked_entries q_world_learner_table_prefixes q_world_learner_table_suffixes q_world_learner_table_known q_world_learner_table_bits q_world_learner_table_prefixes_words q_world_learner_table_suffixes_words q_world_learner_hypothesis_moves q_world_learner_hypothesis_finals v_textLength v_world_teacher_lieCount v_world_teacher_machine_size v_world_teacher_machine_letters v_world_teacher_machine_finals v_world_learner_mode v_world_learner_budget v_world_learner_formed v_world_learner_counterexample v_world_learner_corrections v_world_learner_deceived v_world_learner_asked_size v_world_learner_table_letters v_world_learner_table_prefixes_size v_world_learner_table_prefixes_longest v_world_learner_table_suffixes_size v_world_learner_table_suffixes_longest v_world_learner_hypothesis_size v_world_learner_hypothesis_letters)) (ws' := (ws_TL_digest cI cJ cZ q_this q_world q_slots q_text q_search q_world_teacher q_world_learner q_world_teacher_machine q_world_teacher_lies q_world_teacher_machine_moves q_world_teacher_machine_finals q_world_learner_asked q_world_learner_table q_world_learner_hypothesis q_world_learner_representatives q_world_learner_asked_entries q_world_learner_table_prefixes q_world_learner_table_suffixes q_world_learner_table_known q_world_learner_table_bits q_world_learner_table_prefixes_words q_world_learner_table_suffixes_words q_world_learner_hypothesis_moves q_world_learner_hypothesis_finals q_search_seen q_search_queue q_search_origin q_search_arrival q_search_letters v_textLength v_world_teacher_lieCount v_world_teacher_machine_size v_world_teacher_machine_letters v_world_teacher_machine_moves v_world_teacher_machine_finals v_world_learner_mode v_world_learner_budget v_world_learner_formed v_world_learner_counterexample v_world_learner_corrections v_world_learner_deceived v_world_learner_asked_size v_world_learner_asked_entries v_world_learner_table_letters v_world_learner_table_prefixes_size v_world_learner_table_prefixes_longest v_world_learner_table_prefixes_words v_world_learner_table_suffixes_size v_world_learner_table_suffixes_longest v_world_learner_table_suffixes_words v_world_learner_hypothesis_size v_world_learner_hypothesis_letters v_world_learner_hypothesis_moves v_world_learner_hypothesis_finals v_text v_search_length v_search_queued v_search_seen v_search_queue v_search_origin v_search_arrival v_search_letters)) C0 w (c_TL_count hcall) hp hp' lm_RX9_214 mv_TL_count ⟨rfl, rfl⟩ ⟨by decide, by decide⟩ ⟨Nat.zero_le _, Nat.zero_le _⟩ (q0 := 0) rfl rfl rfl rfl hl rfl (Nat.le_of_ble_eq_true rfl) dX9_digest_30 (fun H locs w => ?_)
    refine lv_i2l hx hb dX9_digest_33 rfl ?_
    refine lv_ladd hx hb dX9_digest_34 ?_
    refine lv_topl (fun x2_1 ex2_1 => ?_)
    have h := bnd_at ex2_1 h
    refine lv_lstore_n (lv' := [(2, .long x2_1), (0, .ref q_this), (1, .ref q_world_learner), (4, .int x4)]) hx hb dX9_digest_35 rfl hl (by decide) rfl (fun ls hl => ?_)
    obtain ⟨x4_1, ex4_1⟩ : ∃ y : Int32, y = (x4 + 1) := ⟨_, rfl⟩
    have h := bnd_at ex4_1 h
    refine lv_iinc (v := x4_1) (lv' := [(4, .int x4_1), (2, .long x2_1), (0, .ref q_this), (1, .ref q_world_learner)]) hx hb dX9_digest_36 hl (k := 3) rfl (by rw [ex4_1]; rfl) (by decide) rfl (fun ls hl => ?_)
    refine lv_goto (tgt := 15) hx hb dX9_digest_39 (by decide) ?_
    exact hrec _ _ _ _ _ h w (lv_sub hl [2, 3, 1, 0] rfl)
set_option maxRecDepth 100000 in
theorem wl_TL_digest_L15 {p : Program} {l : Launch} {e : Env} {s : State} {m : MethodId} {args : Array Value} {below : List Frame} {meth : Method} {c : Code} {Q : State → Prop} {A : Nat → Prop} {D : va_G} {cI cJ cZ cO : ClassId} {q_this q_world q_slots q_text q_search q_world_teacher q_world_learner q_world_teacher_machine q_world_teacher_lies q_world_teacher_machine_moves q_world_teacher_machine_finals q_world_learner_asked q_world_learner_table q_world_learner_hypothesis q_world_learner_representatives q_world_learner_asked_entries q_world_learner_table_prefixes q_world_learner_table_suffixes q_world_learner_table_known q_world_learner_table_bits q_world_learner_table_prefixes_words q_world_learner_table_suffixes_words q_world_learner_hypothesis_moves q_world_learner_hypothesis_finals q_search_seen q_search_queue q_search_origin q_search_arrival q_search_letters : Nat} {v_textLength : Int32} {v_world_teacher_lieCount : Int32} {v_world_teacher_machine_size : Int32} {v_world_teacher_machine_letters : Int32} {v_world_teacher_machine_moves : (Nat → Int32)} {v_world_teacher_machine_finals : (Nat → Int32)} {v_world_learner_mode : Int32} {v_world_learner_budget : Int32} {v_world_learner_formed : Int32} {v_world_learner_counterexample : Int64} {v_world_learner_corrections : Int32} {v_world_learner_deceived : Int32} {v_world_learner_asked_size : Int32} {v_world_learner_asked_entries : (Nat → Int64)} {v_world_learner_table_letters : Int32} {v_world_learner_table_prefixes_size : Int32} {v_world_learner_table_prefixes_longest : Int32} {v_world_learner_table_prefixes_words : (Nat → Int64)} {v_world_learner_table_suffixes_size : Int32} {v_world_learner_table_suffixes_longest : Int32} {v_world_learner_table_suffixes_words : (Nat → Int64)} {v_world_learner_hypothesis_size : Int32} {v_world_learner_hypothesis_letters : Int32} {v_world_learner_hypothesis_moves : (Nat → Int32)} {v_world_learner_hypothesis_finals : (Nat → Int32)} {v_text : (Nat → Int32)} {v_search_length : Int32} {v_search_queued : Int32} {v_search_seen : (Nat → Int32)} {v_search_queue : (Nat → Int32)} {v_search_origin : (Nat → Int32)} {v_search_arrival : (Nat → Int32)} {v_search_letters : (Nat → Int32)} {x : Int64 × (Nat → Int32) × (Nat → Int32) × (Nat → Int32) × (Nat → Int32) × (Nat → Int32) × Int32 × Int32} (C0 : Cx p s m args c A D cI cJ cZ cO cX9_digest 5 RX9) (hQ : RtJ p l e rm_TL_digest s m args below meth c Q A D cX9_digest (ws_TL_digest cI cJ cZ q_this q_world q_slots q_text q_search q_world_teacher q_world_learner q_world_teacher_machine q_world_teacher_lies q_world_teacher_machine_moves q_world_teacher_machine_finals q_world_learner_asked q_world_learner_table q_world_learner_hypothesis q_world_learner_representatives q_world_learner_asked_entries q_world_learner_table_prefixes q_world_learner_table_suffixes q_world_learner_table_known q_world_learner_table_bits q_world_learner_table_prefixes_words q_world_learner_table_suffixes_words q_world_learner_hypothesis_moves q_world_learner_hypothesis_finals q_search_seen q_search_queue q_search_origin q_search_arrival q_search_letters v_textLength v_world_teacher_lieCount v_world_teacher_machine_size v_world_teacher_machine_letters v_world_teacher_machine_moves v_world_teacher_machine_finals v_world_learner_mode v_world_learner_budget v_world_learner_formed v_world_learner_counterexample v_world_learner_corrections v_world_learner_deceived v_world_learner_asked_size v_world_learner_asked_entries v_world_learner_table_letters v_world_learner_table_prefixes_size v_world_learner_table_prefixes_longest v_world_learner_table_prefixes_words v_world_learner_table_suffixes_size v_world_learner_table_suffixes_longest v_world_learner_table_suffixes_words v_world_learner_hypothesis_size v_world_learner_hypothesis_letters v_world_learner_hypothesis_moves v_world_learner_hypothesis_finals v_text x.2.2.2.2.2.2.1 x.2.2.2.2.2.2.2 x.2.1 x.2.2.1 x.2.2.2.1 x.2.2.2.2.1 x.2.2.2.2.2.1) x.1) {K : Int64 → Int32 → Option (Int64 × (Nat → Int32) × (Nat → Int32) × (Nat → Int32) × (Nat → Int32) × (Nat → Int32) × Int32 × Int32)} (hK : ∀ (x2 : Int64) (x4 : Int32) (H : Heap) (locs : List Loc) (ls : Array Slot), K x2 x4 = some x → Wd s A D (ws_TL_digest cI cJ cZ q_this q_world q_slots q_text q_search q_world_teacher q_world_learner q_world_teacher_machine q_world_teacher_lies q_world_teacher_machine_moves q_world_teacher_machine_finals q_world_learner_asked q_world_learner_table q_world_learner_hypothesis q_world_learner_representatives q_world_learner_asked_entries q_world_learner_table_prefixes q_world_learner_table_suffixes q_world_learner_table_known q_world_learner_table_bits q_world_learner_table_prefixes_words q_world_learner_table_suffixes_words q_world_learner_hypothesis_moves q_world_learner_hypothesis_finals q_search_seen q_search_queue q_search_origin q_search_arrival q_search_letters v_textLength v_world_teacher_lieCount v_world_teacher_machine_size v_world_teacher_machine_letters v_world_teacher_machine_moves v_world_teacher_machine_finals v_world_learner_mode v_world_learner_budget v_world_learner_formed v_world_learner_counterexample v_world_learner_corrections v_world_learner_deceived v_world_learner_asked_size v_world_learner_asked_entries v_world_learner_table_letters v_world_learner_table_prefixes_size v_world_learner_table_prefixes_longest v_world_learner_table_prefixes_words v_world_learner_table_suffixes_size v_world_learner_table_suffixes_longest v_world_learner_table_suffixes_words v_world_learner_hypothesis_size v_world_learner_hypothesis_letters v_world_learner_hypothesis_moves v_world_learner_hypothesis_finals v_text v_search_length v_search_queued v_search_seen v_search_queue v_search_origin v_search_arrival v_search_letters) H locs → lv_has ls 5 [(0, .ref q_this), (1, .ref q_world_learner), (2, .long x2)] → W p l e rm_TL_digest s m args below meth c H locs 0 0 Q (F0 m 42 ls [])) : ∀ (n : Nat) (x2 : Int64) (x4 : Int32) (H : Heap) (locs : List Loc) (ls : Array Slot), itr (fun _ _ => none) (f_TL_digest_L15 v_textLength v_world_teacher_lieCount v_world_teacher_machine_size v_world_teacher_machine_letters v_world_teacher_machine_finals v_world_learner_mode v_world_learner_budget v_world_learner_corrections v_world_learner_deceived v_world_learner_asked_size v_world_learner_table_prefixes_size v_world_learner_table_suffixes_size v_world_learner_hypothesis_size K) n x2 x4 = some x → Wd s A D (ws_TL_digest cI cJ cZ q_this q_world q_slots q_text q_search q_world_teacher q_world_learner q_world_teacher_machine q_world_teacher_lies q_world_teacher_machine_moves q_world_teacher_machine_finals q_world_learner_asked q_world_learner_table q_world_learner_hypothesis q_world_learner_representatives q_world_learner_asked_entries q_world_learner_table_prefixes q_world_learner_table_suffixes q_world_learner_table_known q_world_learner_table_bits q_world_learner_table_prefixes_words q_world_learner_table_suffixes_words q_world_learner_hypothesis_moves q_world_learner_hypothesis_finals q_search_seen q_search_queue q_search_origin q_search_arrival q_search_letters v_textLength v_world_teacher_lieCount v_world_teacher_machine_size v_world_teacher_machine_letters v_world_teacher_machine_moves v_world_teacher_machine_finals v_world_learner_mode v_world_learner_budget v_world_learner_formed v_world_learner_counterexample v_world_learner_corrections v_world_learner_deceived v_world_learner_asked_size v_world_learner_asked_entries v_world_learner_table_letters v_world_learner_table_prefixes_size v_world_learner_table_prefixes_longest v_world_learner_table_prefixes_words v_world_learner_table_suffixes_size v_world_learner_table_suffixes_longest v_world_learner_table_suffixes_words v_world_learner_hypothesis_size v_world_learner_hypothesis_letters v_world_learner_hypothesis_moves v_world_learner_hypothesis_finals v_text v_search_length v_search_queued v_search_seen v_search_queue v_search_origin v_search_arrival v_search_letters) H locs → lv_has ls 5 [(0, .ref q_this), (1, .ref q_world_learner), (2, .long x2), (4, .int x4)] → W p l e rm_TL_digest s m args below meth c H locs 0 0 Q (F0 m 15 ls []) := by
  intro n
  induction n with
  | zero => intro _ _ _ _ _ h; cases (show none = some _ from h)
  | succ n ih => intro _ _ _ _ _ h w hl; exact w_TL_digest_L15 C0 hQ hK ih _ _ h w hl
set_option maxRecDepth 100000 in
theorem w_TL_digest_L111 {p : Program} {l : Launch} {e : Env} {s : State} {m : MethodId} {args : Array Value} {below : List Frame} {meth : Method} {c : Code} {Q : State → Prop} {A : Nat → Prop} {D : va_G} {cI cJ cZ cO : ClassId} {q_this q_world q_slots q_text q_search q_world_teacher q_world_learner q_world_teacher_machine q_world_teacher_lies q_world_teacher_machine_moves q_world_teacher_machine_finals q_world_learner_asked q_world_learner_table q_world_learner_hypothesis q_world_learner_representatives q_world_learner_asked_entries q_world_learner_table_prefixes q_world_learner_table_suffixes q_world_learner_table_known q_world_learner_table_bits q_world_learner_table_prefixes_words q_world_learner_table_suffixes_words q_world_learner_hypothesis_moves q_world_learner_hypothesis_finals q_search_seen q_search_queue q_search_origin q_search_arrival q_search_letters : Nat} {v_textLength : Int32} {v_world_teacher_lieCount : Int32} {v_world_teacher_machine_size : Int32} {v_world_teacher_machine_letters : Int32} {v_world_teacher_machine_moves : (Nat → Int32)} {v_world_teacher_machine_finals : (Nat → Int32)} {v_world_learner_mode : Int32} {v_world_learner_budget : Int32} {v_world_learner_formed : Int32} {v_world_learner_counterexample : Int64} {v_world_learner_corrections : Int32} {v_world_learner_deceived : Int32} {v_world_learner_asked_size : Int32} {v_world_learner_asked_entries : (Nat → Int64)} {v_world_learner_table_letters : Int32} {v_world_learner_table_prefixes_size : Int32} {v_world_learner_table_prefixes_longest : Int32} {v_world_learner_table_prefixes_words : (Nat → Int64)} {v_world_learner_table_suffixes_size : Int32} {v_world_learner_table_suffixes_longest : Int32} {v_world_learner_table_suffixes_words : (Nat → Int64)} {v_world_learner_hypothesis_size : Int32} {v_world_learner_hypothesis_letters : Int32} {v_world_learner_hypothesis_moves : (Nat → Int32)} {v_world_learner_hypothesis_finals : (Nat → Int32)} {v_text : (Nat → Int32)} {v_search_length : Int32} {v_search_queued : Int32} {v_search_seen : (Nat → Int32)} {v_search_queue : (Nat → Int32)} {v_search_origin : (Nat → Int32)} {v_search_arrival : (Nat → Int32)} {v_search_letters : (Nat → Int32)} {x : Int64 × (Nat → Int32) × (Nat → Int32) × (Nat → Int32) × (Nat → Int32) × (Nat → Int32) × Int32 × Int32} (C0 : Cx p s m args c A D cI cJ cZ cO cX9_digest 5 RX9) (hQ : RtJ p l e rm_TL_digest s m args below meth c Q A D cX9_digest (ws_TL_digest cI cJ cZ q_this q_world q_slots q_text q_search q_world_teacher q_world_learner q_world_teacher_machine q_world_teacher_lies q_world_teacher_machine_moves q_world_teacher_machine_finals q_world_learner_asked q_world_learner_table q_world_learner_hypothesis q_world_learner_representatives q_world_learner_asked_entries q_world_learner_table_prefixes q_world_learner_table_suffixes q_world_learner_table_known q_world_learner_table_bits q_world_learner_table_prefixes_words q_world_learner_table_suffixes_words q_world_learner_hypothesis_moves q_world_learner_hypothesis_finals q_search_seen q_search_queue q_search_origin q_search_arrival q_search_letters v_textLength v_world_teacher_lieCount v_world_teacher_machine_size v_world_teacher_machine_letters v_world_teacher_machine_moves v_world_teacher_machine_finals v_world_learner_mode v_world_learner_budget v_world_learner_formed v_world_learner_counterexample v_world_learner_corrections v_world_learner_deceived v_world_learner_asked_size v_world_learner_asked_entries v_world_learner_table_letters v_world_learner_table_prefixes_size v_world_learner_table_prefixes_longest v_world_learner_table_prefixes_words v_world_learner_table_suffixes_size v_world_learner_table_suffixes_longest v_world_learner_table_suffixes_words v_world_learner_hypothesis_size v_world_learner_hypothesis_letters v_world_learner_hypothesis_moves v_world_learner_hypothesis_finals v_text x.2.2.2.2.2.2.1 x.2.2.2.2.2.2.2 x.2.1 x.2.2.1 x.2.2.2.1 x.2.2.2.2.1 x.2.2.2.2.2.1) x.1) {K : Int64 → Int32 → Option (Int64 × (Nat → Int32) × (Nat → Int32) × (Nat → Int32) × (Nat → Int32) × (Nat → Int32) × Int32 × Int32)} (hK : ∀ (x2 : Int64) (x4 : Int32) (H : Heap) (locs : List Loc) (ls : Array Slot), K x2 x4 = some x → Wd s A D (ws_TL_digest cI cJ cZ q_this q_world q_slots q_text q_search q_world_teacher q_world_learner q_world_teacher_machine q_world_teacher_lies q_world_teacher_machine_moves q_world_teacher_machine_finals q_world_learner_asked q_world_learner_table q_world_learner_hypothesis q_world_learner_representatives q_world_learner_asked_entries q_world_learner_table_prefixes q_world_learner_table_suffixes q_world_learner_table_known q_world_learner_table_bits q_world_learner_table_prefixes_words q_world_learner_table_suffixes_words q_world_learner_hypothesis_moves q_world_learner_hypothesis_finals q_search_seen q_search_queue q_search_origin q_search_arrival q_search_letters v_textLength v_world_teacher_lieCount v_world_teacher_machine_size v_world_teacher_machine_letters v_world_teacher_machine_moves v_world_teacher_machine_finals v_world_learner_mode v_world_learner_budget v_world_learner_formed v_world_learner_counterexample v_world_learner_corrections v_world_learner_deceived v_world_learner_asked_size v_world_learner_asked_entries v_world_learner_table_letters v_world_learner_table_prefixes_size v_world_learner_table_prefixes_longest v_world_learner_table_prefixes_words v_world_learner_table_suffixes_size v_world_learner_table_suffixes_longest v_world_learner_table_suffixes_words v_world_learner_hypothesis_size v_world_learner_hypothesis_letters v_world_learner_hypothesis_moves v_world_learner_hypothesis_finals v_text v_search_length v_search_queued v_search_seen v_search_queue v_search_origin v_search_arrival v_search_letters) H locs → lv_has ls 5 [(2, .long x2)] → W p l e rm_TL_digest s m args below meth c H locs 0 0 Q (F0 m 141 ls [])) {rec : Int64 → Int32 → Option (Int64 × (Nat → Int32) × (Nat → Int32) × (Nat → Int32) × (Nat → Int32) × (Nat → Int32) × Int32 × Int32)} (hrec : ∀ (x2 : Int64) (x4 : Int32) (H : Heap) (locs : List Loc) (ls : Array Slot), rec x2 x4 = some x → Wd s A D (ws_TL_digest cI cJ cZ q_this q_world q_slots q_text q_search q_world_teacher q_world_learner q_world_teacher_machine q_world_teacher_lies q_world_teacher_machine_moves q_world_teacher_machine_finals q_world_learner_asked q_world_learner_table q_world_learner_hypothesis q_world_learner_representatives q_world_learner_asked_entries q_world_learner_table_prefixes q_world_learner_table_suffixes q_world_learner_table_known q_world_learner_table_bits q_world_learner_table_prefixes_words q_world_learner_table_suffixes_words q_world_learner_hypothesis_moves q_world_learner_hypothesis_finals q_search_seen q_search_queue q_search_origin q_search_arrival q_search_letters v_textLength v_world_teacher_lieCount v_world_teacher_machine_size v_world_teacher_machine_letters v_world_teacher_machine_moves v_world_teacher_machine_finals v_world_learner_mode v_world_learner_budget v_world_learner_formed v_world_learner_counterexample v_world_learner_corrections v_world_learner_deceived v_world_learner_asked_size v_world_learner_asked_entries v_world_learner_table_letters v_world_learner_table_prefixes_size v_world_learner_table_prefixes_longest v_world_learner_table_prefixes_words v_world_learner_table_suffixes_size v_world_learner_table_suffixes_longest v_world_learner_table_suffixes_words v_world_learner_hypothesis_size v_world_learner_hypothesis_letters v_world_learner_hypothesis_moves v_world_learner_hypothesis_finals v_text v_search_length v_search_queued v_search_seen v_search_queue v_search_origin v_search_arrival v_search_letters) H locs → lv_has ls 5 [(0, .ref q_this), (2, .long x2), (4, .int x4)] → W p l e rm_TL_digest s m args below meth c H locs 0 0 Q (F0 m 111 ls [])) (x2 : Int64) (x4 : Int32) {H : Heap} {locs : List Loc} {ls : Array Slot} (h : f_TL_digest_L111 v_textLength v_text K rec x2 x4 = some x) (w : Wd s A D (ws_TL_digest cI cJ cZ q_this q_world q_slots q_text q_search q_world_teacher q_world_learner q_world_teacher_machine q_world_teacher_lies q_world_teacher_machine_moves q_world_teacher_machine_finals q_world_learner_asked q_world_learner_table q_world_learner_hypothesis q_world_learner_representatives q_world_learner_asked_entries q_world_learner_table_prefixes q_world_learner_table_suffixes q_world_learner_table_known q_world_learner_table_bits q_world_learner_table_prefixes_words q_world_learner_table_suffixes_words q_world_learner_hypothesis_moves q_world_learner_hypothesis_finals q_search_seen q_search_queue q_search_origin q_search_arrival q_search_letters v_textLength v_world_teacher_lieCount v_world_teacher_machine_size v_world_teacher_machine_letters v_world_teacher_machine_moves v_world_teacher_machine_finals v_world_learner_mode v_world_learner_budget v_world_learner_formed v_world_learner_counterexample v_world_learner_corrections v_world_learner_deceived v_world_learner_asked_size v_world_learner_asked_entries v_world_learner_table_letters v_world_learner_table_prefixes_size v_world_learner_table_prefixes_longest v_world_learner_table_prefixes_words v_world_learner_table_suffixes_size v_world_learner_table_suffixes_longest v_world_learner_table_suffixes_words v_world_learner_hypothesis_size v_world_learner_hypothesis_letters v_world_learner_hypothesis_moves v_world_learner_hypothesis_finals v_text v_search_length v_search_queued v_search_seen v_search_queue v_search_origin v_search_arrival v_search_letters) H locs) (hl : lv_has ls 5 [(0, .ref q_this), (2, .long x2), (4, .int x4)]) : W p l e rm_TL_digest s m args below meth c H locs 0 0 Q (F0 m 111 ls []) := by
  obtain ⟨hx, hb, hml, hown, hts, -, -⟩ := id C0
  unfold f_TL_digest_L111 at h
  refine lv_iload hx hb dX9_digest_111 (lv_at hl 2 rfl) ?_
  refine lv_aload_n hx hb dX9_digest_113 rfl (lv_at hl 0 rfl) ?_
  refine r_get C0 w 0 rfl kf_TL 3 (by decide) lf_RX9_24 rfl dX9_digest_114 ?_
  refine lv_icmp_ge (tgt := 141) hx hb dX9_digest_117 (by decide) (fun hc => ?_) (fun hc => ?_)
  · have h := if_h hc h
    exact hK _ _ _ _ _ h w (lv_sub hl [1] rfl)
  · have h := nf_h hc h
    refine lv_ldc2 (v := (31 : Int64)) hx hb hown (hts _ ll_RX9_212) dX9_digest_120 ?_
    refine lv_lload_n hx hb dX9_digest_123 rfl (lv_at hl 1 rfl) ?_
    refine lv_lmul hx hb dX9_digest_124 ?_
    refine lv_aload_n hx hb dX9_digest_125 rfl (lv_at hl 0 rfl) ?_
    refine r_get C0 w 0 rfl kf_TL 2 (by decide) lf_RX9_20 rfl dX9_digest_126 ?_
    refine lv_iload hx hb dX9_digest_129 (lv_at hl 2 rfl) ?_
    obtain ⟨hi, h⟩ := gIn_h h
    refine r_iald C0 w 17 rfl rfl hi dX9_digest_131 ?_
    refine lv_i2l hx hb dX9_digest_132 rfl ?_
    refine lv_ladd hx hb dX9_digest_133 ?_
    refine lv_topl (fun x2_1 ex2_1 => ?_)
    have h := bnd_at ex2_1 h
    refine lv_lstore_n (lv' := [(2, .long x2_1), (0, .ref q_this), (4, .int x4)]) hx hb dX9_digest_134 rfl hl (by decide) rfl (fun ls hl => ?_)
    obtain ⟨x4_1, ex4_1⟩ : ∃ y : Int32, y = (x4 + 1) := ⟨_, rfl⟩
    have h := bnd_at ex4_1 h
    refine lv_iinc (v := x4_1) (lv' := [(4, .int x4_1), (2, .long x2_1), (0, .ref q_this)]) hx hb dX9_digest_135 hl (k := 2) rfl (by rw [ex4_1]; rfl) (by decide) rfl (fun ls hl => ?_)
    refine lv_goto (tgt := 111) hx hb dX9_digest_138 (by decide) ?_
    exact hrec _ _ _ _ _ h w (lv_sub hl [2, 1, 0] rfl)
set_option maxRecDepth 100000 in
theorem wl_TL_digest_L111 {p : Program} {l : Launch} {e : Env} {s : State} {m : MethodId} {args : Array Value} {below : List Frame} {meth : Method} {c : Code} {Q : State → Prop} {A : Nat → Prop} {D : va_G} {cI cJ cZ cO : ClassId} {q_this q_world q_slots q_text q_search q_world_teacher q_world_learner q_world_teacher_machine q_world_teacher_lies q_world_teacher_machine_moves q_world_teacher_machine_finals q_world_learner_asked q_world_learner_table q_world_learner_hypothesis q_world_learner_representatives q_world_learner_asked_entries q_world_learner_table_prefixes q_world_learner_table_suffixes q_world_learner_table_known q_world_learner_table_bits q_world_learner_table_prefixes_words q_world_learner_table_suffixes_words q_world_learner_hypothesis_moves q_world_learner_hypothesis_finals q_search_seen q_search_queue q_search_origin q_search_arrival q_search_letters : Nat} {v_textLength : Int32} {v_world_teacher_lieCount : Int32} {v_world_teacher_machine_size : Int32} {v_world_teacher_machine_letters : Int32} {v_world_teacher_machine_moves : (Nat → Int32)} {v_world_teacher_machine_finals : (Nat → Int32)} {v_world_learner_mode : Int32} {v_world_learner_budget : Int32} {v_world_learner_formed : Int32} {v_world_learner_counterexample : Int64} {v_world_learner_corrections : Int32} {v_world_learner_deceived : Int32} {v_world_learner_asked_size : Int32} {v_world_learner_asked_entries : (Nat → Int64)} {v_world_learner_table_letters : Int32} {v_world_learner_table_prefixes_size : Int32} {v_world_learner_table_prefixes_longest : Int32} {v_world_learner_table_prefixes_words : (Nat → Int64)} {v_world_learner_table_suffixes_size : Int32} {v_world_learner_table_suffixes_longest : Int32} {v_world_learner_table_suffixes_words : (Nat → Int64)} {v_world_learner_hypothesis_size : Int32} {v_world_learner_hypothesis_letters : Int32} {v_world_learner_hypothesis_moves : (Nat → Int32)} {v_world_learner_hypothesis_finals : (Nat → Int32)} {v_text : (Nat → Int32)} {v_search_length : Int32} {v_search_queued : Int32} {v_search_seen : (Nat → Int32)} {v_search_queue : (Nat → Int32)} {v_search_origin : (Nat → Int32)} {v_search_arrival : (Nat → Int32)} {v_search_letters : (Nat → Int32)} {x : Int64 × (Nat → Int32) × (Nat → Int32) × (Nat → Int32) × (Nat → Int32) × (Nat → Int32) × Int32 × Int32} (C0 : Cx p s m args c A D cI cJ cZ cO cX9_digest 5 RX9) (hQ : RtJ p l e rm_TL_digest s m args below meth c Q A D cX9_digest (ws_TL_digest cI cJ cZ q_this q_world q_slots q_text q_search q_world_teacher q_world_learner q_world_teacher_machine q_world_teacher_lies q_world_teacher_machine_moves q_world_teacher_machine_finals q_world_learner_asked q_world_learner_table q_world_learner_hypothesis q_world_learner_representatives q_world_learner_asked_entries q_world_learner_table_prefixes q_world_learner_table_suffixes q_world_learner_table_known q_world_learner_table_bits q_world_learner_table_prefixes_words q_world_learner_table_suffixes_words q_world_learner_hypothesis_moves q_world_learner_hypothesis_finals q_search_seen q_search_queue q_search_origin q_search_arrival q_search_letters v_textLength v_world_teacher_lieCount v_world_teacher_machine_size v_world_teacher_machine_letters v_world_teacher_machine_moves v_world_teacher_machine_finals v_world_learner_mode v_world_learner_budget v_world_learner_formed v_world_learner_counterexample v_world_learner_corrections v_world_learner_deceived v_world_learner_asked_size v_world_learner_asked_entries v_world_learner_table_letters v_world_learner_table_prefixes_size v_world_learner_table_prefixes_longest v_world_learner_table_prefixes_words v_world_learner_table_suffixes_size v_world_learner_table_suffixes_longest v_world_learner_table_suffixes_words v_world_learner_hypothesis_size v_world_learner_hypothesis_letters v_world_learner_hypothesis_moves v_world_learner_hypothesis_finals v_text x.2.2.2.2.2.2.1 x.2.2.2.2.2.2.2 x.2.1 x.2.2.1 x.2.2.2.1 x.2.2.2.2.1 x.2.2.2.2.2.1) x.1) {K : Int64 → Int32 → Option (Int64 × (Nat → Int32) × (Nat → Int32) × (Nat → Int32) × (Nat → Int32) × (Nat → Int32) × Int32 × Int32)} (hK : ∀ (x2 : Int64) (x4 : Int32) (H : Heap) (locs : List Loc) (ls : Array Slot), K x2 x4 = some x → Wd s A D (ws_TL_digest cI cJ cZ q_this q_world q_slots q_text q_search q_world_teacher q_world_learner q_world_teacher_machine q_world_teacher_lies q_world_teacher_machine_moves q_world_teacher_machine_finals q_world_learner_asked q_world_learner_table q_world_learner_hypothesis q_world_learner_representatives q_world_learner_asked_entries q_world_learner_table_prefixes q_world_learner_table_suffixes q_world_learner_table_known q_world_learner_table_bits q_world_learner_table_prefixes_words q_world_learner_table_suffixes_words q_world_learner_hypothesis_moves q_world_learner_hypothesis_finals q_search_seen q_search_queue q_search_origin q_search_arrival q_search_letters v_textLength v_world_teacher_lieCount v_world_teacher_machine_size v_world_teacher_machine_letters v_world_teacher_machine_moves v_world_teacher_machine_finals v_world_learner_mode v_world_learner_budget v_world_learner_formed v_world_learner_counterexample v_world_learner_corrections v_world_learner_deceived v_world_learner_asked_size v_world_learner_asked_entries v_world_learner_table_letters v_world_learner_table_prefixes_size v_world_learner_table_prefixes_longest v_world_learner_table_prefixes_words v_world_learner_table_suffixes_size v_world_learner_table_suffixes_longest v_world_learner_table_suffixes_words v_world_learner_hypothesis_size v_world_learner_hypothesis_letters v_world_learner_hypothesis_moves v_world_learner_hypothesis_finals v_text v_search_length v_search_queued v_search_seen v_search_queue v_search_origin v_search_arrival v_search_letters) H locs → lv_has ls 5 [(2, .long x2)] → W p l e rm_TL_digest s m args below meth c H locs 0 0 Q (F0 m 141 ls [])) : ∀ (n : Nat) (x2 : Int64) (x4 : Int32) (H : Heap) (locs : List Loc) (ls : Array Slot), itr (fun _ _ => none) (f_TL_digest_L111 v_textLength v_text K) n x2 x4 = some x → Wd s A D (ws_TL_digest cI cJ cZ q_this q_world q_slots q_text q_search q_world_teacher q_world_learner q_world_teacher_machine q_world_teacher_lies q_world_teacher_machine_moves q_world_teacher_machine_finals q_world_learner_asked q_world_learner_table q_world_learner_hypothesis q_world_learner_representatives q_world_learner_asked_entries q_world_learner_table_prefixes q_world_learner_table_suffixes q_world_learner_table_known q_world_learner_table_bits q_world_learner_table_prefixes_words q_world_learner_table_suffixes_words q_world_learner_hypothesis_moves q_world_learner_hypothesis_finals q_search_seen q_search_queue q_search_origin q_search_arrival q_search_letters v_textLength v_world_teacher_lieCount v_world_teacher_machine_size v_world_teacher_machine_letters v_world_teacher_machine_moves v_world_teacher_machine_finals v_world_learner_mode v_world_learner_budget v_world_learner_formed v_world_learner_counterexample v_world_learner_corrections v_world_learner_deceived v_world_learner_asked_size v_world_learner_asked_entries v_world_learner_table_letters v_world_learner_table_prefixes_size v_world_learner_table_prefixes_longest v_world_learner_table_prefixes_words v_world_learner_table_suffixes_size v_world_learner_table_suffixes_longest v_world_learner_table_suffixes_words v_world_learner_hypothesis_size v_world_learner_hypothesis_letters v_world_learner_hypothesis_moves v_world_learner_hypothesis_finals v_text v_search_length v_search_queued v_search_seen v_search_queue v_search_origin v_search_arrival v_search_letters) H locs → lv_has ls 5 [(0, .ref q_this), (2, .long x2), (4, .int x4)] → W p l e rm_TL_digest s m args below meth c H locs 0 0 Q (F0 m 111 ls []) := by
  intro n
  induction n with
  | zero => intro _ _ _ _ _ h; cases (show none = some _ from h)
  | succ n ih => intro _ _ _ _ _ h w hl; exact w_TL_digest_L111 C0 hQ hK ih _ _ h w hl
set_option maxRecDepth 100000 in
theorem w_TL_digest_J108 {p : Program} {l : Launch} {e : Env} {s : State} {m : MethodId} {args : Array Value} {below : List Frame} {meth : Method} {c : Code} {Q : State → Prop} {A : Nat → Prop} {D : va_G} {cI cJ cZ cO : ClassId} {q_this q_world q_slots q_text q_search q_world_teacher q_world_learner q_world_teacher_machine q_world_teacher_lies q_world_teacher_machine_moves q_world_teacher_machine_finals q_world_learner_asked q_world_learner_table q_world_learner_hypothesis q_world_learner_representatives q_world_learner_asked_entries q_world_learner_table_prefixes q_world_learner_table_suffixes q_world_learner_table_known q_world_learner_table_bits q_world_learner_table_prefixes_words q_world_learner_table_suffixes_words q_world_learner_hypothesis_moves q_world_learner_hypothesis_finals q_search_seen q_search_queue q_search_origin q_search_arrival q_search_letters : Nat} {v_textLength : Int32} {v_world_teacher_lieCount : Int32} {v_world_teacher_machine_size : Int32} {v_world_teacher_machine_letters : Int32} {v_world_teacher_machine_moves : (Nat → Int32)} {v_world_teacher_machine_finals : (Nat → Int32)} {v_world_learner_mode : Int32} {v_world_learner_budget : Int32} {v_world_learner_formed : Int32} {v_world_learner_counterexample : Int64} {v_world_learner_corrections : Int32} {v_world_learner_deceived : Int32} {v_world_learner_asked_size : Int32} {v_world_learner_asked_entries : (Nat → Int64)} {v_world_learner_table_letters : Int32} {v_world_learner_table_prefixes_size : Int32} {v_world_learner_table_prefixes_longest : Int32} {v_world_learner_table_prefixes_words : (Nat → Int64)} {v_world_learner_table_suffixes_size : Int32} {v_world_learner_table_suffixes_longest : Int32} {v_world_learner_table_suffixes_words : (Nat → Int64)} {v_world_learner_hypothesis_size : Int32} {v_world_learner_hypothesis_letters : Int32} {v_world_learner_hypothesis_moves : (Nat → Int32)} {v_world_learner_hypothesis_finals : (Nat → Int32)} {v_text : (Nat → Int32)} {v_search_length : Int32} {v_search_queued : Int32} {v_search_seen : (Nat → Int32)} {v_search_queue : (Nat → Int32)} {v_search_origin : (Nat → Int32)} {v_search_arrival : (Nat → Int32)} {v_search_letters : (Nat → Int32)} {x : Int64 × (Nat → Int32) × (Nat → Int32) × (Nat → Int32) × (Nat → Int32) × (Nat → Int32) × Int32 × Int32} {x2 : Int64} (C0 : Cx p s m args c A D cI cJ cZ cO cX9_digest 5 RX9) (hQ : RtJ p l e rm_TL_digest s m args below meth c Q A D cX9_digest (ws_TL_digest cI cJ cZ q_this q_world q_slots q_text q_search q_world_teacher q_world_learner q_world_teacher_machine q_world_teacher_lies q_world_teacher_machine_moves q_world_teacher_machine_finals q_world_learner_asked q_world_learner_table q_world_learner_hypothesis q_world_learner_representatives q_world_learner_asked_entries q_world_learner_table_prefixes q_world_learner_table_suffixes q_world_learner_table_known q_world_learner_table_bits q_world_learner_table_prefixes_words q_world_learner_table_suffixes_words q_world_learner_hypothesis_moves q_world_learner_hypothesis_finals q_search_seen q_search_queue q_search_origin q_search_arrival q_search_letters v_textLength v_world_teacher_lieCount v_world_teacher_machine_size v_world_teacher_machine_letters v_world_teacher_machine_moves v_world_teacher_machine_finals v_world_learner_mode v_world_learner_budget v_world_learner_formed v_world_learner_counterexample v_world_learner_corrections v_world_learner_deceived v_world_learner_asked_size v_world_learner_asked_entries v_world_learner_table_letters v_world_learner_table_prefixes_size v_world_learner_table_prefixes_longest v_world_learner_table_prefixes_words v_world_learner_table_suffixes_size v_world_learner_table_suffixes_longest v_world_learner_table_suffixes_words v_world_learner_hypothesis_size v_world_learner_hypothesis_letters v_world_learner_hypothesis_moves v_world_learner_hypothesis_finals v_text x.2.2.2.2.2.2.1 x.2.2.2.2.2.2.2 x.2.1 x.2.2.1 x.2.2.2.1 x.2.2.2.2.1 x.2.2.2.2.2.1) x.1) {H : Heap} {locs : List Loc} {ls : Array Slot} (h : f_TL_digest_J108 x2 v_textLength v_text v_search_length v_search_queued v_search_seen v_search_queue v_search_origin v_search_arrival v_search_letters = some x) (w : Wd s A D (ws_TL_digest cI cJ cZ q_this q_world q_slots q_text q_search q_world_teacher q_world_learner q_world_teacher_machine q_world_teacher_lies q_world_teacher_machine_moves q_world_teacher_machine_finals q_world_learner_asked q_world_learner_table q_world_learner_hypothesis q_world_learner_representatives q_world_learner_asked_entries q_world_learner_table_prefixes q_world_learner_table_suffixes q_world_learner_table_known q_world_learner_table_bits q_world_learner_table_prefixes_words q_world_learner_table_suffixes_words q_world_learner_hypothesis_moves q_world_learner_hypothesis_finals q_search_seen q_search_queue q_search_origin q_search_arrival q_search_letters v_textLength v_world_teacher_lieCount v_world_teacher_machine_size v_world_teacher_machine_letters v_world_teacher_machine_moves v_world_teacher_machine_finals v_world_learner_mode v_world_learner_budget v_world_learner_formed v_world_learner_counterexample v_world_learner_corrections v_world_learner_deceived v_world_learner_asked_size v_world_learner_asked_entries v_world_learner_table_letters v_world_learner_table_prefixes_size v_world_learner_table_prefixes_longest v_world_learner_table_prefixes_words v_world_learner_table_suffixes_size v_world_learner_table_suffixes_longest v_world_learner_table_suffixes_words v_world_learner_hypothesis_size v_world_learner_hypothesis_letters v_world_learner_hypothesis_moves v_world_learner_hypothesis_finals v_text v_search_length v_search_queued v_search_seen v_search_queue v_search_origin v_search_arrival v_search_letters) H locs) (hl : lv_has ls 5 [(0, .ref q_this), (2, .long x2)]) : W p l e rm_TL_digest s m args below meth c H locs 0 0 Q (F0 m 108 ls []) := by
  obtain ⟨hx, hb, hml, hown, hts, -, -⟩ := id C0
  unfold f_TL_digest_J108 at h
  refine lv_iconst (v := (0 : Int32)) hx hb dX9_digest_108 (by decide) ?_
  refine lv_istore (lv' := [(4, .int (0 : Int32)), (0, .ref q_this), (2, .long x2)]) hx hb dX9_digest_109 hl (by decide) rfl (fun ls hl => ?_)
  refine wl_TL_digest_L111 C0 hQ (fun x2_1 x4 H locs ls h w hl => ?_) _ _ _ _ _ _ h w (lv_sub hl [1, 2, 0] rfl)
  refine lv_lload_n hx hb dX9_digest_141 rfl (lv_at hl 0 rfl) ?_
  cases h
  exact hQ _ _ _ _ dX9_digest_142 w
set_option maxRecDepth 100000 in
theorem c_TL_digest {l : Launch} {D : va_G} {cI cJ cZ cO : ClassId} {q_this q_world q_slots q_text q_search q_world_teacher q_world_learner q_world_teacher_machine q_world_teacher_lies q_world_teacher_machine_moves q_world_teacher_machine_finals q_world_learner_asked q_world_learner_table q_world_learner_hypothesis q_world_learner_representatives q_world_learner_asked_entries q_world_learner_table_prefixes q_world_learner_table_suffixes q_world_learner_table_known q_world_learner_table_bits q_world_learner_table_prefixes_words q_world_learner_table_suffixes_words q_world_learner_hypothesis_moves q_world_learner_hypothesis_finals q_search_seen q_search_queue q_search_origin q_search_arrival q_search_letters : Nat} {v_textLength : Int32} {v_world_teacher_lieCount : Int32} {v_world_teacher_machine_size : Int32} {v_world_teacher_machine_letters : Int32} {v_world_teacher_machine_moves : (Nat → Int32)} {v_world_teacher_machine_finals : (Nat → Int32)} {v_world_learner_mode : Int32} {v_world_learner_budget : Int32} {v_world_learner_formed : Int32} {v_world_learner_counterexample : Int64} {v_world_learner_corrections : Int32} {v_world_learner_deceived : Int32} {v_world_learner_asked_size : Int32} {v_world_learner_asked_entries : (Nat → Int64)} {v_world_learner_table_letters : Int32} {v_world_learner_table_prefixes_size : Int32} {v_world_learner_table_prefixes_longest : Int32} {v_world_learner_table_prefixes_words : (Nat → Int64)} {v_world_learner_table_suffixes_size : Int32} {v_world_learner_table_suffixes_longest : Int32} {v_world_learner_table_suffixes_words : (Nat → Int64)} {v_world_learner_hypothesis_size : Int32} {v_world_learner_hypothesis_letters : Int32} {v_world_learner_hypothesis_moves : (Nat → Int32)} {v_world_learner_hypothesis_finals : (Nat → Int32)} {v_text : (Nat → Int32)} {v_search_length : Int32} {v_search_queued : Int32} {v_search_seen : (Nat → Int32)} {v_search_queue : (Nat → Int32)} {v_search_origin : (Nat → Int32)} {v_search_arrival : (Nat → Int32)} {v_search_letters : (Nat → Int32)} {x : Int64 × (Nat → Int32) × (Nat → Int32) × (Nat → Int32) × (Nat → Int32) × (Nat → Int32) × Int32 × Int32} (h : f_TL_digest v_textLength v_world_teacher_lieCount v_world_teacher_machine_size v_world_teacher_machine_letters v_world_teacher_machine_moves v_world_teacher_machine_finals v_world_learner_mode v_world_learner_budget v_world_learner_counterexample v_world_learner_corrections v_world_learner_deceived v_world_learner_asked_size v_world_learner_asked_entries v_world_learner_table_letters v_world_learner_table_prefixes_size v_world_learner_table_prefixes_words v_world_learner_table_suffixes_size v_world_learner_table_suffixes_words v_world_learner_hypothesis_size v_world_learner_hypothesis_letters v_world_learner_hypothesis_moves v_world_learner_hypothesis_finals v_text v_search_length v_search_queued v_search_seen v_search_queue v_search_origin v_search_arrival v_search_letters = some x) : ctJ l D cI cJ cZ cO yX9_digest cX9_digest 5 rm_TL_digest [.ref q_this] (ws_TL_digest cI cJ cZ q_this q_world q_slots q_text q_search q_world_teacher q_world_learner q_world_teacher_machine q_world_teacher_lies q_world_teacher_machine_moves q_world_teacher_machine_finals q_world_learner_asked q_world_learner_table q_world_learner_hypothesis q_world_learner_representatives q_world_learner_asked_entries q_world_learner_table_prefixes q_world_learner_table_suffixes q_world_learner_table_known q_world_learner_table_bits q_world_learner_table_prefixes_words q_world_learner_table_suffixes_words q_world_learner_hypothesis_moves q_world_learner_hypothesis_finals q_search_seen q_search_queue q_search_origin q_search_arrival q_search_letters v_textLength v_world_teacher_lieCount v_world_teacher_machine_size v_world_teacher_machine_letters v_world_teacher_machine_moves v_world_teacher_machine_finals v_world_learner_mode v_world_learner_budget v_world_learner_formed v_world_learner_counterexample v_world_learner_corrections v_world_learner_deceived v_world_learner_asked_size v_world_learner_asked_entries v_world_learner_table_letters v_world_learner_table_prefixes_size v_world_learner_table_prefixes_longest v_world_learner_table_prefixes_words v_world_learner_table_suffixes_size v_world_learner_table_suffixes_longest v_world_learner_table_suffixes_words v_world_learner_hypothesis_size v_world_learner_hypothesis_letters v_world_learner_hypothesis_moves v_world_learner_hypothesis_finals v_text v_search_length v_search_queued v_search_seen v_search_queue v_search_origin v_search_arrival v_search_letters) (ws_TL_digest cI cJ cZ q_this q_world q_slots q_text q_search q_world_teacher q_world_learner q_world_teacher_machine q_world_teacher_lies q_world_teacher_machine_moves q_world_teacher_machine_finals q_world_learner_asked q_world_learner_table q_world_learner_hypothesis q_world_learner_representatives q_world_learner_asked_entries q_world_learner_table_prefixes q_world_learner_table_suffixes q_world_learner_table_known q_world_learner_table_bits q_world_learner_table_prefixes_words q_world_learner_table_suffixes_words q_world_learner_hypothesis_moves q_world_learner_hypothesis_finals q_search_seen q_search_queue q_search_origin q_search_arrival q_search_letters v_textLength v_world_teacher_lieCount v_world_teacher_machine_size v_world_teacher_machine_letters v_world_teacher_machine_moves v_world_teacher_machine_finals v_world_learner_mode v_world_learner_budget v_world_learner_formed v_world_learner_counterexample v_world_learner_corrections v_world_learner_deceived v_world_learner_asked_size v_world_learner_asked_entries v_world_learner_table_letters v_world_learner_table_prefixes_size v_world_learner_table_prefixes_longest v_world_learner_table_prefixes_words v_world_learner_table_suffixes_size v_world_learner_table_suffixes_longest v_world_learner_table_suffixes_words v_world_learner_hypothesis_size v_world_learner_hypothesis_letters v_world_learner_hypothesis_moves v_world_learner_hypothesis_finals v_text x.2.2.2.2.2.2.1 x.2.2.2.2.2.2.2 x.2.1 x.2.2.1 x.2.2.2.1 x.2.2.2.2.1 x.2.2.2.2.2.1) x.1 := by
  refine ctJ_of (by decide) (Nat.le_of_ble_eq_true rfl) ?_
  intro p e s m below meth c Q A ls C0 hQ w hl
  have hl : lv_has ls 5 [(0, .ref q_this)] := hl
  generalize List.toArray (α := Value) [.ref q_this] = args at C0 hQ ⊢
  obtain ⟨hx, hb, hml, hown, hts, -, -⟩ := id C0
  unfold f_TL_digest at h
  refine lv_aload_n hx hb dX9_digest_0 rfl (lv_at hl 0 rfl) ?_
  refine r_get C0 w 0 rfl kf_TL 0 (by decide) lf_RX9_10 rfl dX9_digest_1 ?_
  refine r_get C0 w 1 rfl kf_Wo 1 (by decide) lf_RX9_116 rfl dX9_digest_4 ?_
  refine lv_astore_n (lv' := [(1, .ref q_world_learner), (0, .ref q_this)]) hx hb dX9_digest_7 rfl hl (by decide) rfl (fun ls hl => ?_)
  refine lv_ldc2 (v := (59 : Int64)) hx hb hown (hts _ ll_RX9_210) dX9_digest_8 ?_
  refine lv_lstore_n (lv' := [(2, .long (59 : Int64)), (1, .ref q_world_learner), (0, .ref q_this)]) hx hb dX9_digest_11 rfl hl (by decide) rfl (fun ls hl => ?_)
  refine lv_iconst (v := (0 : Int32)) hx hb dX9_digest_12 (by decide) ?_
  refine lv_istore (lv' := [(4, .int (0 : Int32)), (2, .long (59 : Int64)), (1, .ref q_world_learner), (0, .ref q_this)]) hx hb dX9_digest_13 hl (by decide) rfl (fun ls hl => ?_)
  refine wl_TL_digest_L15 C0 hQ (fun x2 x4 H locs ls h w hl => ?_) _ _ _ _ _ _ h w (lv_sub hl [3, 2, 1, 0] rfl)
  refine lv_lload_n hx hb dX9_digest_42 rfl (lv_at hl 2 rfl) ?_
  refine lv_aload_n hx hb dX9_digest_43 rfl (lv_at hl 0 rfl) ?_
  refine r_get C0 w 0 rfl kf_TL 0 (by decide) lf_RX9_10 rfl dX9_digest_44 ?_
  refine r_get C0 w 1 rfl kf_Wo 0 (by decide) lf_RX9_35 rfl dX9_digest_47 ?_
  refine r_get C0 w 2 rfl kf_Te 0 (by decide) lf_RX9_39 rfl dX9_digest_50 ?_
  obtain ⟨r, hcall, h⟩ := bd1_h h
  obtain ⟨wr, hp, hp'⟩ := rd_of (ws := (ws_TL_digest cI cJ cZ q_this q_world q_slots q_text q_search q_world_teacher q_world_learner q_world_teacher_machine q_world_teacher_lies q_world_teacher_machine_moves q_world_teacher_machine_finals q_world_learner_asked q_world_learner_table q_world_learner_hypothesis q_world_learner_representatives q_world_learner_asked_entries q_world_learner_table_prefixes q_world_learner_table_suffixes q_world_learner_table_known q_world_learner_table_bits q_world_learner_table_prefixes_words q_world_learner_table_suffixes_words q_world_learner_hypothesis_moves q_world_learner_hypothesis_finals q_search_seen q_search_queue q_search_origin q_search_arrival q_search_letters v_textLength v_world_teacher_lieCount v_world_teacher_machine_size v_world_teacher_machine_letters v_world_teacher_machine_moves v_world_teacher_machine_finals v_world_learner_mode v_world_learner_budget v_world_learner_formed v_world_learner_counterexample v_world_learner_corrections v_world_learner_deceived v_world_learner_asked_size v_world_learner_asked_entries v_world_learner_table_letters v_world_learner_table_prefixes_size v_world_learner_table_prefixes_longest v_world_learner_table_prefixes_words v_world_learner_table_suffixes_size v_world_learner_table_suffixes_longest v_world_learner_table_suffixes_words v_world_learner_hypothesis_size v_world_learner_hypothesis_letters v_world_learner_hypothesis_moves v_world_learner_hypothesis_finals v_text v_search_length v_search_queued v_search_seen v_search_queue v_search_origin v_search_arrival v_search_letters)) (wc := (ws_TL_mixAutomaton cI cJ cZ q_world_teacher_machine q_world_teacher_machine_moves q_world_teacher_machine_finals 24 8 v_world_teacher_machine_size v_world_teacher_machine_letters v_world_teacher_machine_moves v_world_teacher_machine_finals)) [3, 4, 5] rfl rfl
  refine r_SJ (r := r) (As := [.long x2, .ref q_world_teacher_machine]) (rest := []) (wc' := (ws_TL_mixAutomaton cI cJ cZ q_world_teacher_machine q_world_teacher_machine_moves q_world_teacher_machine_finals 24 8 v_world_teacher_machine_size v_world_teacher_machine_letters v_world_teacher_machine_moves v_world_teacher_machine_finals)) (ws' := (ws_TL_digest cI cJ cZ q_this q_world q_slots q_text q_search q_world_teacher q_world_learner q_world_teacher_machine q_world_teacher_lies q_world_teacher_machine_moves q_world_teacher_machine_finals q_world_learner_asked q_world_learner_table q_world_learner_hypothesis q_world_learner_representatives q_world_learner_asked_entries q_world_learner_table_prefixes q_world_learner_table_suffixes q_world_learner_table_known q_world_learner_table_bits q_world_learner_table_prefixes_words q_world_learner_table_suffixes_words q_world_learner_hypothesis_moves q_world_learner_hypothesis_finals q_search_seen q_search_queue q_search_origin q_search_arrival q_search_letters v_textLength v_world_teacher_lieCount v_world_teacher_machine_size v_world_teacher_machine_letters v_world_teacher_machine_moves v_world_teacher_machine_finals v_world_learner_mode v_world_learner_budget v_world_learner_formed v_world_learner_counterexample v_world_learner_corrections v_world_learner_deceived v_world_learner_asked_size v_world_learner_asked_entries v_world_learner_table_letters v_world_learner_table_prefixes_size v_world_learner_table_prefixes_longest v_world_learner_table_prefixes_words v_world_learner_table_suffixes_size v_world_learner_table_suffixes_longest v_world_learner_table_suffixes_words v_world_learner_hypothesis_size v_world_learner_hypothesis_letters v_world_learner_hypothesis_moves v_world_learner_hypothesis_finals v_text v_search_length v_search_queued v_search_seen v_search_queue v_search_origin v_search_arrival v_search_letters)) C0 w (c_TL_mixAutomaton hcall) hp hp' lm_RX9_217 ms_TL_mixAutomaton ⟨rfl, rfl⟩ ⟨by decide, by decide⟩ ⟨Nat.zero_le _, Nat.zero_le _⟩ rfl hl rfl (Nat.le_of_ble_eq_true rfl) dX9_digest_53 (fun H locs w => ?_)
  refine lv_lstore_n (lv' := [(2, .long r), (0, .ref q_this), (1, .ref q_world_learner)]) hx hb dX9_digest_56 rfl hl (by decide) rfl (fun ls hl => ?_)
  refine lv_ldc2 (v := (31 : Int64)) hx hb hown (hts _ ll_RX9_212) dX9_digest_57 ?_
  refine lv_lload_n hx hb dX9_digest_60 rfl (lv_at hl 0 rfl) ?_
  refine lv_lmul hx hb dX9_digest_61 ?_
  refine lv_aload_n hx hb dX9_digest_62 rfl (lv_at hl 1 rfl) ?_
  obtain ⟨r_1, v_search_seen_1, v_search_queue_1, v_search_origin_1, v_search_arrival_1, v_search_letters_1, v_search_length_1, v_search_queued_1, hcall, h⟩ := bd8_h h
  have hp := sp_of (ws := (ws_TL_digest cI cJ cZ q_this q_world q_slots q_text q_search q_world_teacher q_world_learner q_world_teacher_machine q_world_teacher_lies q_world_teacher_machine_moves q_world_teacher_machine_finals q_world_learner_asked q_world_learner_table q_world_learner_hypothesis q_world_learner_representatives q_world_learner_asked_entries q_world_learner_table_prefixes q_world_learner_table_suffixes q_world_learner_table_known q_world_learner_table_bits q_world_learner_table_prefixes_words q_world_learner_table_suffixes_words q_world_learner_hypothesis_moves q_world_learner_hypothesis_finals q_search_seen q_search_queue q_search_origin q_search_arrival q_search_letters v_textLength v_world_teacher_lieCount v_world_teacher_machine_size v_world_teacher_machine_letters v_world_teacher_machine_moves v_world_teacher_machine_finals v_world_learner_mode v_world_learner_budget v_world_learner_formed v_world_learner_counterexample v_world_learner_corrections v_world_learner_deceived v_world_learner_asked_size v_world_learner_asked_entries v_world_learner_table_letters v_world_learner_table_prefixes_size v_world_learner_table_prefixes_longest v_world_learner_table_prefixes_words v_world_learner_table_suffixes_size v_world_learner_table_suffixes_longest v_world_learner_table_suffixes_words v_world_learner_hypothesis_size v_world_learner_hypothesis_letters v_world_learner_hypothesis_moves v_world_learner_hypothesis_finals v_text v_search_length v_search_queued v_search_seen v_search_queue v_search_origin v_search_arrival v_search_letters)) (wc := (ws_TL_leastStates cI cJ cZ q_this q_world q_slots q_text q_search q_world_teacher q_world_learner q_world_teacher_machine q_world_teacher_lies q_world_teacher_machine_moves q_world_teacher_machine_finals q_search_seen q_search_queue q_search_origin q_search_arrival q_search_letters v_textLength v_world_teacher_lieCount v_world_teacher_machine_size v_world_teacher_machine_letters v_world_teacher_machine_moves v_world_teacher_machine_finals v_search_length v_search_queued v_search_seen v_search_queue v_search_origin v_search_arrival v_search_letters)) [0, 1, 2, 3, 4, 5, 18, 19, 20, 21, 22, 23] [6, 7, 8, 9, 10, 11, 12, 13, 14, 15, 16, 17] rfl rfl
  have hp' : Rp (pk (ws_TL_digest cI cJ cZ q_this q_world q_slots q_text q_search q_world_teacher q_world_learner q_world_teacher_machine q_world_teacher_lies q_world_teacher_machine_moves q_world_teacher_machine_finals q_world_learner_asked q_world_learner_table q_world_learner_hypothesis q_world_learner_representatives q_world_learner_asked_entries q_world_learner_table_prefixes q_world_learner_table_suffixes q_world_learner_table_known q_world_learner_table_bits q_world_learner_table_prefixes_words q_world_learner_table_suffixes_words q_world_learner_hypothesis_moves q_world_learner_hypothesis_finals q_search_seen q_search_queue q_search_origin q_search_arrival q_search_letters v_textLength v_world_teacher_lieCount v_world_teacher_machine_size v_world_teacher_machine_letters v_world_teacher_machine_moves v_world_teacher_machine_finals v_world_learner_mode v_world_learner_budget v_world_learner_formed v_world_learner_counterexample v_world_learner_corrections v_world_learner_deceived v_world_learner_asked_size v_world_learner_asked_entries v_world_learner_table_letters v_world_learner_table_prefixes_size v_world_learner_table_prefixes_longest v_world_learner_table_prefixes_words v_world_learner_table_suffixes_size v_world_learner_table_suffixes_longest v_world_learner_table_suffixes_words v_world_learner_hypothesis_size v_world_learner_hypothesis_letters v_world_learner_hypothesis_moves v_world_learner_hypothesis_finals v_text v_search_length v_search_queued v_search_seen v_search_queue v_search_origin v_search_arrival v_search_letters) [6, 7, 8, 9, 10, 11, 12, 13, 14, 15, 16, 17] ++ (ws_TL_leastStates cI cJ cZ q_this q_world q_slots q_text q_search q_world_teacher q_world_learner q_world_teacher_machine q_world_teacher_lies q_world_teacher_machine_moves q_world_teacher_machine_finals q_search_seen q_search_queue q_search_origin q_search_arrival q_search_letters v_textLength v_world_teacher_lieCount v_world_teacher_machine_size v_world_teacher_machine_letters v_world_teacher_machine_moves v_world_teacher_machine_finals v_search_length_1 v_search_queued_1 v_search_seen_1 v_search_queue_1 v_search_origin_1 v_search_arrival_1 v_search_letters_1)) (ws_TL_digest cI cJ cZ q_this q_world q_slots q_text q_search q_world_teacher q_world_learner q_world_teacher_machine q_world_teacher_lies q_world_teacher_machine_moves q_world_teacher_machine_finals q_world_learner_asked q_world_learner_table q_world_learner_hypothesis q_world_learner_representatives q_world_learner_asked_entries q_world_learner_table_prefixes q_world_learner_table_suffixes q_world_learner_table_known q_world_learner_table_bits q_world_learner_table_prefixes_words q_world_learner_table_suffixes_words q_world_learner_hypothesis_moves q_world_learner_hypothesis_finals q_search_seen q_search_queue q_search_origin q_search_arrival q_search_letters v_textLength v_world_teacher_lieCount v_world_teacher_machine_size v_world_teacher_machine_letters v_world_teacher_machine_moves v_world_teacher_machine_finals v_world_learner_mode v_world_learner_budget v_world_learner_formed v_world_learner_counterexample v_world_learner_corrections v_world_learner_deceived v_world_learner_asked_size v_world_learner_asked_entries v_world_learner_table_letters v_world_learner_table_prefixes_size v_world_learner_table_prefixes_longest v_world_learner_table_prefixes_words v_world_learner_table_suffixes_size v_world_learner_table_suffixes_longest v_world_learner_table_suffixes_words v_world_learner_hypothesis_size v_world_learner_hypothesis_letters v_world_learner_hypothesis_moves v_world_learner_hypothesis_finals v_text v_search_length_1 v_search_queued_1 v_search_seen_1 v_search_queue_1 v_search_origin_1 v_search_arrival_1 v_search_letters_1) := ⟨[12, 13, 14, 15, 16, 17, 0, 1, 2, 3, 4, 5, 6, 7, 8, 9, 10, 11, 18, 19, 20, 21, 22, 23], rfl, rfl⟩
  refine r_VI (r := r_1) (As := []) (rest := [.long ((31 : Int64) * r)]) (wc' := (ws_TL_leastStates cI cJ cZ q_this q_world q_slots q_text q_search q_world_teacher q_world_learner q_world_teacher_machine q_world_teacher_lies q_world_teacher_machine_moves q_world_teacher_machine_finals q_search_seen q_search_queue q_search_origin q_search_arrival q_search_letters v_textLength v_world_teacher_lieCount v_world_teacher_machine_size v_world_teacher_machine_letters v_world_teacher_machine_moves v_world_teacher_machine_finals v_search_length_1 v_search_queued_1 v_search_seen_1 v_search_queue_1 v_search_origin_1 v_search_arrival_1 v_search_letters_1)) (ws' := (ws_TL_digest cI cJ cZ q_this q_world q_slots q_text q_search q_world_teacher q_world_learner q_world_teacher_machine q_world_teacher_lies q_world_teacher_machine_moves q_world_teacher_machine_finals q_world_learner_asked q_world_learner_table q_world_learner_hypothesis q_world_learner_representatives q_world_learner_asked_entries q_world_learner_table_prefixes q_world_learner_table_suffixes q_world_learner_table_known q_world_learner_table_bits q_world_learner_table_prefixes_words q_world_learner_table_suffixes_words q_world_learner_hypothesis_moves q_world_learner_hypothesis_finals q_search_seen q_search_queue q_search_origin q_search_arrival q_search_letters v_textLength v_world_teacher_lieCount v_world_teacher_machine_size v_world_teacher_machine_letters v_world_teacher_machine_moves v_world_teacher_machine_finals v_world_learner_mode v_world_learner_budget v_world_learner_formed v_world_learner_counterexample v_world_learner_corrections v_world_learner_deceived v_world_learner_asked_size v_world_learner_asked_entries v_world_learner_table_letters v_world_learner_table_prefixes_size v_world_learner_table_prefixes_longest v_world_learner_table_prefixes_words v_world_learner_table_suffixes_size v_world_learner_table_suffixes_longest v_world_learner_table_suffixes_words v_world_learner_hypothesis_size v_world_learner_hypothesis_letters v_world_learner_hypothesis_moves v_world_learner_hypothesis_finals v_text v_search_length_1 v_search_queued_1 v_search_seen_1 v_search_queue_1 v_search_origin_1 v_search_arrival_1 v_search_letters_1)) C0 w (c_TL_leastStates hcall) hp hp' lm_RX9_221 mv_TL_leastStates ⟨rfl, rfl⟩ ⟨by decide, by decide⟩ ⟨Nat.zero_le _, Nat.zero_le _⟩ (q0 := 0) rfl rfl rfl rfl hl rfl (Nat.le_of_ble_eq_true rfl) dX9_digest_63 (fun H locs w => ?_)
  refine lv_i2l hx hb dX9_digest_66 rfl ?_
  refine lv_ladd hx hb dX9_digest_67 ?_
  refine lv_topl (fun x2_1 ex2_1 => ?_)
  have h := bnd_at ex2_1 h
  refine lv_lstore_n (lv' := [(2, .long x2_1), (0, .ref q_this), (1, .ref q_world_learner)]) hx hb dX9_digest_68 rfl hl (by decide) rfl (fun ls hl => ?_)
  refine lv_aload_n hx hb dX9_digest_69 rfl (lv_at hl 1 rfl) ?_
  refine lv_lload_n hx hb dX9_digest_70 rfl (lv_at hl 0 rfl) ?_
  refine lv_aload_n hx hb dX9_digest_71 rfl (lv_at hl 2 rfl) ?_
  refine r_get C0 w 6 rfl kf_Le 1 (by decide) lf_RX9_136 rfl dX9_digest_72 ?_
  obtain ⟨r_2, hcall, h⟩ := bd1_h h
  obtain ⟨wr, hp, hp'⟩ := rd_of (ws := (ws_TL_digest cI cJ cZ q_this q_world q_slots q_text q_search q_world_teacher q_world_learner q_world_teacher_machine q_world_teacher_lies q_world_teacher_machine_moves q_world_teacher_machine_finals q_world_learner_asked q_world_learner_table q_world_learner_hypothesis q_world_learner_representatives q_world_learner_asked_entries q_world_learner_table_prefixes q_world_learner_table_suffixes q_world_learner_table_known q_world_learner_table_bits q_world_learner_table_prefixes_words q_world_learner_table_suffixes_words q_world_learner_hypothesis_moves q_world_learner_hypothesis_finals q_search_seen q_search_queue q_search_origin q_search_arrival q_search_letters v_textLength v_world_teacher_lieCount v_world_teacher_machine_size v_world_teacher_machine_letters v_world_teacher_machine_moves v_world_teacher_machine_finals v_world_learner_mode v_world_learner_budget v_world_learner_formed v_world_learner_counterexample v_world_learner_corrections v_world_learner_deceived v_world_learner_asked_size v_world_learner_asked_entries v_world_learner_table_letters v_world_learner_table_prefixes_size v_world_learner_table_prefixes_longest v_world_learner_table_prefixes_words v_world_learner_table_suffixes_size v_world_learner_table_suffixes_longest v_world_learner_table_suffixes_words v_world_learner_hypothesis_size v_world_learner_hypothesis_letters v_world_learner_hypothesis_moves v_world_learner_hypothesis_finals v_text v_search_length_1 v_search_queued_1 v_search_seen_1 v_search_queue_1 v_search_origin_1 v_search_arrival_1 v_search_letters_1)) (wc := (ws_TL_mixTable_a cI cJ cZ q_this q_world q_slots q_text q_search q_world_teacher q_world_learner q_world_teacher_machine q_world_teacher_lies q_world_teacher_machine_moves q_world_teacher_machine_finals q_world_learner_asked q_world_learner_table q_world_learner_hypothesis q_world_learner_representatives q_world_learner_asked_entries q_world_learner_table_prefixes q_world_learner_table_suffixes q_world_learner_table_known q_world_learner_table_bits q_world_learner_table_prefixes_words q_world_learner_table_suffixes_words v_textLength v_world_teacher_lieCount v_world_teacher_machine_size v_world_teacher_machine_letters v_world_learner_mode v_world_learner_budget v_world_learner_formed v_world_learner_counterexample v_world_learner_corrections v_world_learner_deceived v_world_learner_asked_size v_world_learner_asked_entries v_world_learner_table_letters v_world_learner_table_prefixes_size v_world_learner_table_prefixes_longest v_world_learner_table_prefixes_words v_world_learner_table_suffixes_size v_world_learner_table_suffixes_longest v_world_learner_table_suffixes_words)) [0, 1, 2, 3, 6, 7, 8, 9, 10, 11, 12, 13] rfl rfl
  refine r_VJ (r := r_2) (As := [.long x2_1, .ref q_world_learner_table]) (rest := []) (wc' := (ws_TL_mixTable_a cI cJ cZ q_this q_world q_slots q_text q_search q_world_teacher q_world_learner q_world_teacher_machine q_world_teacher_lies q_world_teacher_machine_moves q_world_teacher_machine_finals q_world_learner_asked q_world_learner_table q_world_learner_hypothesis q_world_learner_representatives q_world_learner_asked_entries q_world_learner_table_prefixes q_world_learner_table_suffixes q_world_learner_table_known q_world_learner_table_bits q_world_learner_table_prefixes_words q_world_learner_table_suffixes_words v_textLength v_world_teacher_lieCount v_world_teacher_machine_size v_world_teacher_machine_letters v_world_learner_mode v_world_learner_budget v_world_learner_formed v_world_learner_counterexample v_world_learner_corrections v_world_learner_deceived v_world_learner_asked_size v_world_learner_asked_entries v_world_learner_table_letters v_world_learner_table_prefixes_size v_world_learner_table_prefixes_longest v_world_learner_table_prefixes_words v_world_learner_table_suffixes_size v_world_learner_table_suffixes_longest v_world_learner_table_suffixes_words)) (ws' := (ws_TL_digest cI cJ cZ q_this q_world q_slots q_text q_search q_world_teacher q_world_learner q_world_teacher_machine q_world_teacher_lies q_world_teacher_machine_moves q_world_teacher_machine_finals q_world_learner_asked q_world_learner_table q_world_learner_hypothesis q_world_learner_representatives q_world_learner_asked_entries q_world_learner_table_prefixes q_world_learner_table_suffixes q_world_learner_table_known q_world_learner_table_bits q_world_learner_table_prefixes_words q_world_learner_table_suffixes_words q_world_learner_hypothesis_moves q_world_learner_hypothesis_finals q_search_seen q_search_queue q_search_origin q_search_arrival q_search_letters v_textLength v_world_teacher_lieCount v_world_teacher_machine_size v_world_teacher_machine_letters v_world_teacher_machine_moves v_world_teacher_machine_finals v_world_learner_mode v_world_learner_budget v_world_learner_formed v_world_learner_counterexample v_world_learner_corrections v_world_learner_deceived v_world_learner_asked_size v_world_learner_asked_entries v_world_learner_table_letters v_world_learner_table_prefixes_size v_world_learner_table_prefixes_longest v_world_learner_table_prefixes_words v_world_learner_table_suffixes_size v_world_learner_table_suffixes_longest v_world_learner_table_suffixes_words v_world_learner_hypothesis_size v_world_learner_hypothesis_letters v_world_learner_hypothesis_moves v_world_learner_hypothesis_finals v_text v_search_length_1 v_search_queued_1 v_search_seen_1 v_search_queue_1 v_search_origin_1 v_search_arrival_1 v_search_letters_1)) C0 w (c_TL_mixTable_a hcall) hp hp' lm_RX9_224 mv_TL_mixTable_a ⟨rfl, rfl⟩ ⟨by decide, by decide⟩ ⟨Nat.zero_le _, Nat.zero_le _⟩ (q0 := 0) rfl rfl rfl rfl hl rfl (Nat.le_of_ble_eq_true rfl) dX9_digest_75 (fun H locs w => ?_)
  refine lv_lstore_n (lv' := [(2, .long r_2), (0, .ref q_this), (1, .ref q_world_learner)]) hx hb dX9_digest_78 rfl hl (by decide) rfl (fun ls hl => ?_)
  refine lv_lload_n hx hb dX9_digest_79 rfl (lv_at hl 0 rfl) ?_
  refine lv_aload_n hx hb dX9_digest_80 rfl (lv_at hl 2 rfl) ?_
  refine r_get C0 w 6 rfl kf_Le 2 (by decide) lf_RX9_184 rfl dX9_digest_81 ?_
  obtain ⟨r_3, hcall, h⟩ := bd1_h h
  obtain ⟨wr, hp, hp'⟩ := rd_of (ws := (ws_TL_digest cI cJ cZ q_this q_world q_slots q_text q_search q_world_teacher q_world_learner q_world_teacher_machine q_world_teacher_lies q_world_teacher_machine_moves q_world_teacher_machine_finals q_world_learner_asked q_world_learner_table q_world_learner_hypothesis q_world_learner_representatives q_world_learner_asked_entries q_world_learner_table_prefixes q_world_learner_table_suffixes q_world_learner_table_known q_world_learner_table_bits q_world_learner_table_prefixes_words q_world_learner_table_suffixes_words q_world_learner_hypothesis_moves q_world_learner_hypothesis_finals q_search_seen q_search_queue q_search_origin q_search_arrival q_search_letters v_textLength v_world_teacher_lieCount v_world_teacher_machine_size v_world_teacher_machine_letters v_world_teacher_machine_moves v_world_teacher_machine_finals v_world_learner_mode v_world_learner_budget v_world_learner_formed v_world_learner_counterexample v_world_learner_corrections v_world_learner_deceived v_world_learner_asked_size v_world_learner_asked_entries v_world_learner_table_letters v_world_learner_table_prefixes_size v_world_learner_table_prefixes_longest v_world_learner_table_prefixes_words v_world_learner_table_suffixes_size v_world_learner_table_suffixes_longest v_world_learner_table_suffixes_words v_world_learner_hypothesis_size v_world_learner_hypothesis_letters v_world_learner_hypothesis_moves v_world_learner_hypothesis_finals v_text v_search_length_1 v_search_queued_1 v_search_seen_1 v_search_queue_1 v_search_origin_1 v_search_arrival_1 v_search_letters_1)) (wc := (ws_TL_mixAutomaton cI cJ cZ q_world_learner_hypothesis q_world_learner_hypothesis_moves q_world_learner_hypothesis_finals 120 40 v_world_learner_hypothesis_size v_world_learner_hypothesis_letters v_world_learner_hypothesis_moves v_world_learner_hypothesis_finals)) [14, 15, 16] rfl rfl
  refine r_SJ (r := r_3) (As := [.long r_2, .ref q_world_learner_hypothesis]) (rest := []) (wc' := (ws_TL_mixAutomaton cI cJ cZ q_world_learner_hypothesis q_world_learner_hypothesis_moves q_world_learner_hypothesis_finals 120 40 v_world_learner_hypothesis_size v_world_learner_hypothesis_letters v_world_learner_hypothesis_moves v_world_learner_hypothesis_finals)) (ws' := (ws_TL_digest cI cJ cZ q_this q_world q_slots q_text q_search q_world_teacher q_world_learner q_world_teacher_machine q_world_teacher_lies q_world_teacher_machine_moves q_world_teacher_machine_finals q_world_learner_asked q_world_learner_table q_world_learner_hypothesis q_world_learner_representatives q_world_learner_asked_entries q_world_learner_table_prefixes q_world_learner_table_suffixes q_world_learner_table_known q_world_learner_table_bits q_world_learner_table_prefixes_words q_world_learner_table_suffixes_words q_world_learner_hypothesis_moves q_world_learner_hypothesis_finals q_search_seen q_search_queue q_search_origin q_search_arrival q_search_letters v_textLength v_world_teacher_lieCount v_world_teacher_machine_size v_world_teacher_machine_letters v_world_teacher_machine_moves v_world_teacher_machine_finals v_world_learner_mode v_world_learner_budget v_world_learner_formed v_world_learner_counterexample v_world_learner_corrections v_world_learner_deceived v_world_learner_asked_size v_world_learner_asked_entries v_world_learner_table_letters v_world_learner_table_prefixes_size v_world_learner_table_prefixes_longest v_world_learner_table_prefixes_words v_world_learner_table_suffixes_size v_world_learner_table_suffixes_longest v_world_learner_table_suffixes_words v_world_learner_hypothesis_size v_world_learner_hypothesis_letters v_world_learner_hypothesis_moves v_world_learner_hypothesis_finals v_text v_search_length_1 v_search_queued_1 v_search_seen_1 v_search_queue_1 v_search_origin_1 v_search_arrival_1 v_search_letters_1)) C0 w (c_TL_mixAutomaton hcall) hp hp' lm_RX9_217 ms_TL_mixAutomaton ⟨rfl, rfl⟩ ⟨by decide, by decide⟩ ⟨Nat.zero_le _, Nat.zero_le _⟩ rfl hl rfl (Nat.le_of_ble_eq_true rfl) dX9_digest_84 (fun H locs w => ?_)
  refine lv_lstore_n (lv' := [(2, .long r_3), (0, .ref q_this), (1, .ref q_world_learner)]) hx hb dX9_digest_87 rfl hl (by decide) rfl (fun ls hl => ?_)
  refine lv_aload_n hx hb dX9_digest_88 rfl (lv_at hl 2 rfl) ?_
  refine r_get C0 w 6 rfl kf_Le 7 (by decide) lf_RX9_190 rfl dX9_digest_89 ?_
  refine lv_ldc2 (v := (-1 : Int64)) hx hb hown (hts _ ll_RX9_83) dX9_digest_92 ?_
  refine r_lc_eq (tgt := 108) hx hb dX9_digest_95 dX9_digest_96 (by decide) (fun hc => ?_) (fun hc => ?_)
  · have h := if_h hc h
    exact w_TL_digest_J108 C0 hQ h w (lv_sub hl [1, 0] rfl)
  · have h := nf_h hc h
    refine lv_lload_n hx hb dX9_digest_99 rfl (lv_at hl 0 rfl) ?_
    refine lv_aload_n hx hb dX9_digest_100 rfl (lv_at hl 2 rfl) ?_
    refine r_get C0 w 6 rfl kf_Le 7 (by decide) lf_RX9_190 rfl dX9_digest_101 ?_
    obtain ⟨r_4, hcall, h⟩ := bd1_h h
    obtain ⟨wr, hp, hp'⟩ := rd_of (ws := (ws_TL_digest cI cJ cZ q_this q_world q_slots q_text q_search q_world_teacher q_world_learner q_world_teacher_machine q_world_teacher_lies q_world_teacher_machine_moves q_world_teacher_machine_finals q_world_learner_asked q_world_learner_table q_world_learner_hypothesis q_world_learner_representatives q_world_learner_asked_entries q_world_learner_table_prefixes q_world_learner_table_suffixes q_world_learner_table_known q_world_learner_table_bits q_world_learner_table_prefixes_words q_world_learner_table_suffixes_words q_world_learner_hypothesis_moves q_world_learner_hypothesis_finals q_search_seen q_search_queue q_search_origin q_search_arrival q_search_letters v_textLength v_world_teacher_lieCount v_world_teacher_machine_size v_world_teacher_machine_letters v_world_teacher_machine_moves v_world_teacher_machine_finals v_world_learner_mode v_world_learner_budget v_world_learner_formed v_world_learner_counterexample v_world_learner_corrections v_world_learner_deceived v_world_learner_asked_size v_world_learner_asked_entries v_world_learner_table_letters v_world_learner_table_prefixes_size v_world_learner_table_prefixes_longest v_world_learner_table_prefixes_words v_world_learner_table_suffixes_size v_world_learner_table_suffixes_longest v_world_learner_table_suffixes_words v_world_learner_hypothesis_size v_world_learner_hypothesis_letters v_world_learner_hypothesis_moves v_world_learner_hypothesis_finals v_text v_search_length_1 v_search_queued_1 v_search_seen_1 v_search_queue_1 v_search_origin_1 v_search_arrival_1 v_search_letters_1)) (wc := (ws_TL_mixLetters cI cJ cZ)) [] rfl rfl
    refine r_SJ (r := r_4) (As := [.long r_3, .long v_world_learner_counterexample]) (rest := []) (wc' := (ws_TL_mixLetters cI cJ cZ)) (ws' := (ws_TL_digest cI cJ cZ q_this q_world q_slots q_text q_search q_world_teacher q_world_learner q_world_teacher_machine q_world_teacher_lies q_world_teacher_machine_moves q_world_teacher_machine_finals q_world_learner_asked q_world_learner_table q_world_learner_hypothesis q_world_learner_representatives q_world_learner_asked_entries q_world_learner_table_prefixes q_world_learner_table_suffixes q_world_learner_table_known q_world_learner_table_bits q_world_learner_table_prefixes_words q_world_learner_table_suffixes_words q_world_learner_hypothesis_moves q_world_learner_hypothesis_finals q_search_seen q_search_queue q_search_origin q_search_arrival q_search_letters v_textLength v_world_teacher_lieCount v_world_teacher_machine_size v_world_teacher_machine_letters v_world_teacher_machine_moves v_world_teacher_machine_finals v_world_learner_mode v_world_learner_budget v_world_learner_formed v_world_learner_counterexample v_world_learner_corrections v_world_learner_deceived v_world_learner_asked_size v_world_learner_asked_entries v_world_learner_table_letters v_world_learner_table_prefixes_size v_world_learner_table_prefixes_longest v_world_learner_table_prefixes_words v_world_learner_table_suffixes_size v_world_learner_table_suffixes_longest v_world_learner_table_suffixes_words v_world_learner_hypothesis_size v_world_learner_hypothesis_letters v_world_learner_hypothesis_moves v_world_learner_hypothesis_finals v_text v_search_length_1 v_search_queued_1 v_search_seen_1 v_search_queue_1 v_search_origin_1 v_search_arrival_1 v_search_letters_1)) C0 w (c_TL_mixLetters hcall) hp hp' lm_RX9_228 ms_TL_mixLetters ⟨rfl, rfl⟩ ⟨by decide, by decide⟩ ⟨Nat.zero_le _, Nat.zero_le _⟩ rfl hl rfl (Nat.le_of_ble_eq_true rfl) dX9_digest_104 (fun H locs w => ?_)
    refine lv_lstore_n (lv' := [(2, .long r_4), (0, .ref q_this), (1, .ref q_world_learner)]) hx hb dX9_digest_107 rfl hl (by decide) rfl (fun ls hl => ?_)
    exact w_TL_digest_J108 C0 hQ h w (lv_sub hl [1, 0] rfl)
theorem dX10_begins_0 : decode cX10_begins 0 = .ok (.aload_n 0, 1) := by decide +kernel
theorem dX10_begins_1 : decode cX10_begins 1 = .ok (.getfield 7, 3) := by decide +kernel
theorem dX10_begins_4 : decode cX10_begins 4 = .ok (.bipush 37, 2) := by decide +kernel
theorem dX10_begins_6 : decode cX10_begins 6 = .ok (.iconst 0, 1) := by decide +kernel
theorem dX10_begins_7 : decode cX10_begins 7 = .ok (.iastore, 1) := by decide +kernel
theorem dX10_begins_8 : decode cX10_begins 8 = .ok (.aload_n 0, 1) := by decide +kernel
theorem dX10_begins_9 : decode cX10_begins 9 = .ok (.getfield 7, 3) := by decide +kernel
theorem dX10_begins_12 : decode cX10_begins 12 = .ok (.bipush 38, 2) := by decide +kernel
theorem dX10_begins_14 : decode cX10_begins 14 = .ok (.iconst 1, 1) := by decide +kernel
theorem dX10_begins_15 : decode cX10_begins 15 = .ok (.iastore, 1) := by decide +kernel
theorem dX10_begins_16 : decode cX10_begins 16 = .ok (.aload_n 0, 1) := by decide +kernel
theorem dX10_begins_17 : decode cX10_begins 17 = .ok (.getfield 7, 3) := by decide +kernel
theorem dX10_begins_20 : decode cX10_begins 20 = .ok (.bipush 39, 2) := by decide +kernel
theorem dX10_begins_22 : decode cX10_begins 22 = .ok (.iconst 1, 1) := by decide +kernel
theorem dX10_begins_23 : decode cX10_begins 23 = .ok (.iastore, 1) := by decide +kernel
theorem dX10_begins_24 : decode cX10_begins 24 = .ok (.aload_n 0, 1) := by decide +kernel
theorem dX10_begins_25 : decode cX10_begins 25 = .ok (.getfield 7, 3) := by decide +kernel
theorem dX10_begins_28 : decode cX10_begins 28 = .ok (.bipush 40, 2) := by decide +kernel
theorem dX10_begins_30 : decode cX10_begins 30 = .ok (.iconst 0, 1) := by decide +kernel
theorem dX10_begins_31 : decode cX10_begins 31 = .ok (.iastore, 1) := by decide +kernel
theorem dX10_begins_32 : decode cX10_begins 32 = .ok (.aload_n 0, 1) := by decide +kernel
theorem dX10_begins_33 : decode cX10_begins 33 = .ok (.getfield 7, 3) := by decide +kernel
theorem dX10_begins_36 : decode cX10_begins 36 = .ok (.bipush 41, 2) := by decide +kernel
theorem dX10_begins_38 : decode cX10_begins 38 = .ok (.iconst 0, 1) := by decide +kernel
theorem dX10_begins_39 : decode cX10_begins 39 = .ok (.iastore, 1) := by decide +kernel
theorem dX10_begins_40 : decode cX10_begins 40 = .ok (.aload_n 0, 1) := by decide +kernel
theorem dX10_begins_41 : decode cX10_begins 41 = .ok (.getfield 7, 3) := by decide +kernel
theorem dX10_begins_44 : decode cX10_begins 44 = .ok (.bipush 42, 2) := by decide +kernel
theorem dX10_begins_46 : decode cX10_begins 46 = .ok (.iconst 0, 1) := by decide +kernel
theorem dX10_begins_47 : decode cX10_begins 47 = .ok (.iastore, 1) := by decide +kernel
theorem dX10_begins_48 : decode cX10_begins 48 = .ok (.aload_n 0, 1) := by decide +kernel
theorem dX10_begins_49 : decode cX10_begins 49 = .ok (.getfield 7, 3) := by decide +kernel
theorem dX10_begins_52 : decode cX10_begins 52 = .ok (.bipush 43, 2) := by decide +kernel
theorem dX10_begins_54 : decode cX10_begins 54 = .ok (.iconst 0, 1) := by decide +kernel
theorem dX10_begins_55 : decode cX10_begins 55 = .ok (.iastore, 1) := by decide +kernel
theorem dX10_begins_56 : decode cX10_begins 56 = .ok (.aload_n 0, 1) := by decide +kernel
theorem dX10_begins_57 : decode cX10_begins 57 = .ok (.getfield 7, 3) := by decide +kernel
theorem dX10_begins_60 : decode cX10_begins 60 = .ok (.bipush 44, 2) := by decide +kernel
theorem dX10_begins_62 : decode cX10_begins 62 = .ok (.iconst (-1), 1) := by decide +kernel
theorem dX10_begins_63 : decode cX10_begins 63 = .ok (.iastore, 1) := by decide +kernel
theorem dX10_begins_64 : decode cX10_begins 64 = .ok (.aload_n 0, 1) := by decide +kernel
theorem dX10_begins_65 : decode cX10_begins 65 = .ok (.getfield 16, 3) := by decide +kernel
theorem dX10_begins_68 : decode cX10_begins 68 = .ok (.sipush 304, 3) := by decide +kernel
theorem dX10_begins_71 : decode cX10_begins 71 = .ok (.lconst 0, 1) := by decide +kernel
theorem dX10_begins_72 : decode cX10_begins 72 = .ok (.lastore, 1) := by decide +kernel
theorem dX10_begins_73 : decode cX10_begins 73 = .ok (.aload_n 0, 1) := by decide +kernel
theorem dX10_begins_74 : decode cX10_begins 74 = .ok (.getfield 16, 3) := by decide +kernel
theorem dX10_begins_77 : decode cX10_begins 77 = .ok (.sipush 344, 3) := by decide +kernel
theorem dX10_begins_80 : decode cX10_begins 80 = .ok (.lconst 0, 1) := by decide +kernel
theorem dX10_begins_81 : decode cX10_begins 81 = .ok (.lastore, 1) := by decide +kernel
theorem dX10_begins_82 : decode cX10_begins 82 = .ok (.return_, 1) := by decide +kernel
set_option maxRecDepth 100000 in
theorem c_Mo_begins {l : Launch} {D : va_G} {cI cJ cZ cO : ClassId} {q_this q_m q_saved q_w q_savedWords q_isSaved q_text q_far q_queue q_parent q_by q_seen q_path q_row q_more q_stateOf : Nat} {v_textLength : Int32} {v_steps : Int32} {v_missing : Int64} {v_mores : Int32} {v_hash : Int64} {v_m : (Nat → Int32)} {v_w : (Nat → Int64)} {x : (Nat → Int32) × (Nat → Int64)} (h : f_Mo_begins v_m v_w = some x) : ctV l D cI cJ cZ cO yX10_begins cX10_begins 1 rm_Mo_begins [.ref q_this] (ws_Mo_begins cI cJ cZ q_this q_m q_saved q_w q_savedWords q_isSaved q_text q_far q_queue q_parent q_by q_seen q_path q_row q_more q_stateOf v_textLength v_steps v_missing v_mores v_hash v_m v_w) (ws_Mo_begins cI cJ cZ q_this q_m q_saved q_w q_savedWords q_isSaved q_text q_far q_queue q_parent q_by q_seen q_path q_row q_more q_stateOf v_textLength v_steps v_missing v_mores v_hash x.1 x.2) := by
  refine ctV_of (by decide) (Nat.le_of_ble_eq_true rfl) ?_
  intro p e s m below meth c Q A ls C0 hQ w hl
  have hl : lv_has ls 1 [(0, .ref q_this)] := hl
  generalize List.toArray (α := Value) [.ref q_this] = args at C0 hQ ⊢
  obtain ⟨hx, hb, hml, hown, hts, -, -⟩ := id C0
  unfold f_Mo_begins at h
  refine lv_aload_n hx hb dX10_begins_0 rfl (lv_at hl 0 rfl) ?_
  refine r_get C0 w 0 rfl kf_Mo 0 (by decide) lf_RX10_7 rfl dX10_begins_1 ?_
  refine lv_bipush (v := (37 : Int32)) hx hb dX10_begins_4 (by decide) ?_
  refine lv_iconst (v := (0 : Int32)) hx hb dX10_begins_6 (by decide) ?_
  obtain ⟨v_m_1, ev_m_1⟩ : ∃ y, y = (upd v_m 37 (0 : Int32)) := ⟨_, rfl⟩
  have h := bnd_at ev_m_1 h
  refine r_iast C0 w 1 rfl (f' := v_m_1) (k := 37) (by decide) (inl (by decide)) ev_m_1 dX10_begins_7 (ws' := (ws_Mo_begins cI cJ cZ q_this q_m q_saved q_w q_savedWords q_isSaved q_text q_far q_queue q_parent q_by q_seen q_path q_row q_more q_stateOf v_textLength v_steps v_missing v_mores v_hash v_m_1 v_w)) rfl (fun H locs w => ?_)
  refine lv_aload_n hx hb dX10_begins_8 rfl (lv_at hl 0 rfl) ?_
  refine r_get C0 w 0 rfl kf_Mo 0 (by decide) lf_RX10_7 rfl dX10_begins_9 ?_
  refine lv_bipush (v := (38 : Int32)) hx hb dX10_begins_12 (by decide) ?_
  refine lv_iconst (v := (1 : Int32)) hx hb dX10_begins_14 (by decide) ?_
  obtain ⟨v_m_2, ev_m_2⟩ : ∃ y, y = (upd v_m_1 38 (1 : Int32)) := ⟨_, rfl⟩
  have h := bnd_at ev_m_2 h
  refine r_iast C0 w 1 rfl (f' := v_m_2) (k := 38) (by decide) (inl (by decide)) ev_m_2 dX10_begins_15 (ws' := (ws_Mo_begins cI cJ cZ q_this q_m q_saved q_w q_savedWords q_isSaved q_text q_far q_queue q_parent q_by q_seen q_path q_row q_more q_stateOf v_textLength v_steps v_missing v_mores v_hash v_m_2 v_w)) rfl (fun H locs w => ?_)
  refine lv_aload_n hx hb dX10_begins_16 rfl (lv_at hl 0 rfl) ?_
  refine r_get C0 w 0 rfl kf_Mo 0 (by decide) lf_RX10_7 rfl dX10_begins_17 ?_
  refine lv_bipush (v := (39 : Int32)) hx hb dX10_begins_20 (by decide) ?_
  refine lv_iconst (v := (1 : Int32)) hx hb dX10_begins_22 (by decide) ?_
  obtain ⟨v_m_3, ev_m_3⟩ : ∃ y, y = (upd v_m_2 39 (1 : Int32)) := ⟨_, rfl⟩
  have h := bnd_at ev_m_3 h
  refine r_iast C0 w 1 rfl (f' := v_m_3) (k := 39) (by decide) (inl (by decide)) ev_m_3 dX10_begins_23 (ws' := (ws_Mo_begins cI cJ cZ q_this q_m q_saved q_w q_savedWords q_isSaved q_text q_far q_queue q_parent q_by q_seen q_path q_row q_more q_stateOf v_textLength v_steps v_missing v_mores v_hash v_m_3 v_w)) rfl (fun H locs w => ?_)
  refine lv_aload_n hx hb dX10_begins_24 rfl (lv_at hl 0 rfl) ?_
  refine r_get C0 w 0 rfl kf_Mo 0 (by decide) lf_RX10_7 rfl dX10_begins_25 ?_
  refine lv_bipush (v := (40 : Int32)) hx hb dX10_begins_28 (by decide) ?_
  refine lv_iconst (v := (0 : Int32)) hx hb dX10_begins_30 (by decide) ?_
  obtain ⟨v_m_4, ev_m_4⟩ : ∃ y, y = (upd v_m_3 40 (0 : Int32)) := ⟨_, rfl⟩
  have h := bnd_at ev_m_4 h
  refine r_iast C0 w 1 rfl (f' := v_m_4) (k := 40) (by decide) (inl (by decide)) ev_m_4 dX10_begins_31 (ws' := (ws_Mo_begins cI cJ cZ q_this q_m q_saved q_w q_savedWords q_isSaved q_text q_far q_queue q_parent q_by q_seen q_path q_row q_more q_stateOf v_textLength v_steps v_missing v_mores v_hash v_m_4 v_w)) rfl (fun H locs w => ?_)
  refine lv_aload_n hx hb dX10_begins_32 rfl (lv_at hl 0 rfl) ?_
  refine r_get C0 w 0 rfl kf_Mo 0 (by decide) lf_RX10_7 rfl dX10_begins_33 ?_
  refine lv_bipush (v := (41 : Int32)) hx hb dX10_begins_36 (by decide) ?_
  refine lv_iconst (v := (0 : Int32)) hx hb dX10_begins_38 (by decide) ?_
  obtain ⟨v_m_5, ev_m_5⟩ : ∃ y, y = (upd v_m_4 41 (0 : Int32)) := ⟨_, rfl⟩
  have h := bnd_at ev_m_5 h
  refine r_iast C0 w 1 rfl (f' := v_m_5) (k := 41) (by decide) (inl (by decide)) ev_m_5 dX10_begins_39 (ws' := (ws_Mo_begins cI cJ cZ q_this q_m q_saved q_w q_savedWords q_isSaved q_text q_far q_queue q_parent q_by q_seen q_path q_row q_more q_stateOf v_textLength v_steps v_missing v_mores v_hash v_m_5 v_w)) rfl (fun H locs w => ?_)
  refine lv_aload_n hx hb dX10_begins_40 rfl (lv_at hl 0 rfl) ?_
  refine r_get C0 w 0 rfl kf_Mo 0 (by decide) lf_RX10_7 rfl dX10_begins_41 ?_
  refine lv_bipush (v := (42 : Int32)) hx hb dX10_begins_44 (by decide) ?_
  refine lv_iconst (v := (0 : Int32)) hx hb dX10_begins_46 (by decide) ?_
  obtain ⟨v_m_6, ev_m_6⟩ : ∃ y, y = (upd v_m_5 42 (0 : Int32)) := ⟨_, rfl⟩
  have h := bnd_at ev_m_6 h
  refine r_iast C0 w 1 rfl (f' := v_m_6) (k := 42) (by decide) (inl (by decide)) ev_m_6 dX10_begins_47 (ws' := (ws_Mo_begins cI cJ cZ q_this q_m q_saved q_w q_savedWords q_isSaved q_text q_far q_queue q_parent q_by q_seen q_path q_row q_more q_stateOf v_textLength v_steps v_missing v_mores v_hash v_m_6 v_w)) rfl (fun H locs w => ?_)
  refine lv_aload_n hx hb dX10_begins_48 rfl (lv_at hl 0 rfl) ?_
  refine r_get C0 w 0 rfl kf_Mo 0 (by decide) lf_RX10_7 rfl dX10_begins_49 ?_
  refine lv_bipush (v := (43 : Int32)) hx hb dX10_begins_52 (by decide) ?_
  refine lv_iconst (v := (0 : Int32)) hx hb dX10_begins_54 (by decide) ?_
  obtain ⟨v_m_7, ev_m_7⟩ : ∃ y, y = (upd v_m_6 43 (0 : Int32)) := ⟨_, rfl⟩
  have h := bnd_at ev_m_7 h
  refine r_iast C0 w 1 rfl (f' := v_m_7) (k := 43) (by decide) (inl (by decide)) ev_m_7 dX10_begins_55 (ws' := (ws_Mo_begins cI cJ cZ q_this q_m q_saved q_w q_savedWords q_isSaved q_text q_far q_queue q_parent q_by q_seen q_path q_row q_more q_stateOf v_textLength v_steps v_missing v_mores v_hash v_m_7 v_w)) rfl (fun H locs w => ?_)
  refine lv_aload_n hx hb dX10_begins_56 rfl (lv_at hl 0 rfl) ?_
  refine r_get C0 w 0 rfl kf_Mo 0 (by decide) lf_RX10_7 rfl dX10_begins_57 ?_
  refine lv_bipush (v := (44 : Int32)) hx hb dX10_begins_60 (by decide) ?_
  refine lv_iconst (v := (-1 : Int32)) hx hb dX10_begins_62 (by decide) ?_
  obtain ⟨v_m_8, ev_m_8⟩ : ∃ y, y = (upd v_m_7 44 (-1 : Int32)) := ⟨_, rfl⟩
  have h := bnd_at ev_m_8 h
  refine r_iast C0 w 1 rfl (f' := v_m_8) (k := 44) (by decide) (inl (by decide)) ev_m_8 dX10_begins_63 (ws' := (ws_Mo_begins cI cJ cZ q_this q_m q_saved q_w q_savedWords q_isSaved q_text q_far q_queue q_parent q_by q_seen q_path q_row q_more q_stateOf v_textLength v_steps v_missing v_mores v_hash v_m_8 v_w)) rfl (fun H locs w => ?_)
  refine lv_aload_n hx hb dX10_begins_64 rfl (lv_at hl 0 rfl) ?_
  refine r_get C0 w 0 rfl kf_Mo 2 (by decide) lf_RX10_16 rfl dX10_begins_65 ?_
  refine lv_sipush (v := (304 : Int32)) hx hb dX10_begins_68 (by decide) ?_
  refine lv_lconst (v := (0 : Int64)) hx hb dX10_begins_71 (by decide) ?_
  obtain ⟨v_w_1, ev_w_1⟩ : ∃ y, y = (vp_updL v_w 304 (0 : Int64)) := ⟨_, rfl⟩
  have h := bnd_at ev_w_1 h
  refine r_last C0 w 2 rfl (f' := v_w_1) (k := 304) (by decide) (inl (by decide)) ev_w_1 dX10_begins_72 (ws' := (ws_Mo_begins cI cJ cZ q_this q_m q_saved q_w q_savedWords q_isSaved q_text q_far q_queue q_parent q_by q_seen q_path q_row q_more q_stateOf v_textLength v_steps v_missing v_mores v_hash v_m_8 v_w_1)) rfl (fun H locs w => ?_)
  refine lv_aload_n hx hb dX10_begins_73 rfl (lv_at hl 0 rfl) ?_
  refine r_get C0 w 0 rfl kf_Mo 2 (by decide) lf_RX10_16 rfl dX10_begins_74 ?_
  refine lv_sipush (v := (344 : Int32)) hx hb dX10_begins_77 (by decide) ?_
  refine lv_lconst (v := (0 : Int64)) hx hb dX10_begins_80 (by decide) ?_
  obtain ⟨v_w_2, ev_w_2⟩ : ∃ y, y = (vp_updL v_w_1 344 (0 : Int64)) := ⟨_, rfl⟩
  have h := bnd_at ev_w_2 h
  refine r_last C0 w 2 rfl (f' := v_w_2) (k := 344) (by decide) (inl (by decide)) ev_w_2 dX10_begins_81 (ws' := (ws_Mo_begins cI cJ cZ q_this q_m q_saved q_w q_savedWords q_isSaved q_text q_far q_queue q_parent q_by q_seen q_path q_row q_more q_stateOf v_textLength v_steps v_missing v_mores v_hash v_m_8 v_w_2)) rfl (fun H locs w => ?_)
  cases h
  exact hQ _ _ _ _ dX10_begins_82 w
theorem dX10_in_0 : decode cX10_in 0 = .ok (.iload_n 0, 1) := by decide +kernel
theorem dX10_in_1 : decode cX10_in 1 = .ok (.iload_n 1, 1) := by decide +kernel
theorem dX10_in_2 : decode cX10_in 2 = .ok (.if_icmp .lt 12, 3) := by decide +kernel
theorem dX10_in_5 : decode cX10_in 5 = .ok (.iload_n 0, 1) := by decide +kernel
theorem dX10_in_6 : decode cX10_in 6 = .ok (.iload_n 2, 1) := by decide +kernel
theorem dX10_in_7 : decode cX10_in 7 = .ok (.if_icmp .gt 7, 3) := by decide +kernel
theorem dX10_in_10 : decode cX10_in 10 = .ok (.iconst 1, 1) := by decide +kernel
theorem dX10_in_11 : decode cX10_in 11 = .ok (.goto 4, 3) := by decide +kernel
theorem dX10_in_14 : decode cX10_in 14 = .ok (.iconst 0, 1) := by decide +kernel
theorem dX10_in_15 : decode cX10_in 15 = .ok (.ireturn, 1) := by decide +kernel
set_option maxRecDepth 100000 in
theorem c_Mo_in {l : Launch} {D : va_G} {cI cJ cZ cO : ClassId} {x0 : Int32} {x1 : Int32} {x2 : Int32} {x : Int32} (h : f_Mo_in x0 x1 x2 = some x) : ctI l D cI cJ cZ cO yX10_in cX10_in 3 .boolean rm_Mo_in [.int x0, .int x1, .int x2] (ws_Mo_in cI cJ cZ) (ws_Mo_in cI cJ cZ) x := by
  refine ctI_of (by decide) (Nat.le_of_ble_eq_true rfl) ?_
  intro p e s m below meth c Q A ls C0 hQ w hl
  have hl : lv_has ls 3 [(0, .int x0), (1, .int x1), (2, .int x2)] := hl
  generalize List.toArray (α := Value) [.int x0, .int x1, .int x2] = args at C0 hQ ⊢
  obtain ⟨hx, hb, hml, hown, hts, -, -⟩ := id C0
  unfold f_Mo_in at h
  refine lv_iload_n hx hb dX10_in_0 rfl (lv_at hl 0 rfl) ?_
  refine lv_iload_n hx hb dX10_in_1 rfl (lv_at hl 1 rfl) ?_
  refine lv_icmp_lt (tgt := 14) hx hb dX10_in_2 (by decide) (fun hc => ?_) (fun hc => ?_)
  · have h := if_h hc h
    refine lv_iconst (v := (0 : Int32)) hx hb dX10_in_14 (by decide) ?_
    cases h
    exact hQ _ _ _ _ dX10_in_15 (gB_n (v := (0 : Int32)) (Or.inl rfl)) w
  · have h := nf_h hc h
    refine lv_iload_n hx hb dX10_in_5 rfl (lv_at hl 0 rfl) ?_
    refine lv_iload_n hx hb dX10_in_6 rfl (lv_at hl 2 rfl) ?_
    refine lv_icmp_gt (tgt := 14) hx hb dX10_in_7 (by decide) (fun hc => ?_) (fun hc => ?_)
    · have h := if_h hc h
      refine lv_iconst (v := (0 : Int32)) hx hb dX10_in_14 (by decide) ?_
      cases h
      exact hQ _ _ _ _ dX10_in_15 (gB_n (v := (0 : Int32)) (Or.inl rfl)) w
    · have h := nf_h hc h
      refine lv_iconst (v := (1 : Int32)) hx hb dX10_in_10 (by decide) ?_
      refine lv_goto (tgt := 15) hx hb dX10_in_11 (by decide) ?_
      cases h
      exact hQ _ _ _ _ dX10_in_15 (gB_n (v := (1 : Int32)) (Or.inr rfl)) w
theorem dX10_lengthOf_0 : decode cX10_lengthOf 0 = .ok (.iconst 0, 1) := by decide +kernel
theorem dX10_lengthOf_1 : decode cX10_lengthOf 1 = .ok (.istore_n 2, 1) := by decide +kernel
theorem dX10_lengthOf_2 : decode cX10_lengthOf 2 = .ok (.lload_n 0, 1) := by decide +kernel
theorem dX10_lengthOf_3 : decode cX10_lengthOf 3 = .ok (.lstore_n 3, 1) := by decide +kernel
theorem dX10_lengthOf_4 : decode cX10_lengthOf 4 = .ok (.lload_n 3, 1) := by decide +kernel
theorem dX10_lengthOf_5 : decode cX10_lengthOf 5 = .ok (.lconst 0, 1) := by decide +kernel
theorem dX10_lengthOf_6 : decode cX10_lengthOf 6 = .ok (.lcmp, 1) := by decide +kernel
theorem dX10_lengthOf_7 : decode cX10_lengthOf 7 = .ok (.ifCond .le 13, 3) := by decide +kernel
theorem dX10_lengthOf_10 : decode cX10_lengthOf 10 = .ok (.iinc 2 1, 3) := by decide +kernel
theorem dX10_lengthOf_13 : decode cX10_lengthOf 13 = .ok (.lload_n 3, 1) := by decide +kernel
theorem dX10_lengthOf_14 : decode cX10_lengthOf 14 = .ok (.iconst 2, 1) := by decide +kernel
theorem dX10_lengthOf_15 : decode cX10_lengthOf 15 = .ok (.lshr, 1) := by decide +kernel
theorem dX10_lengthOf_16 : decode cX10_lengthOf 16 = .ok (.lstore_n 3, 1) := by decide +kernel
theorem dX10_lengthOf_17 : decode cX10_lengthOf 17 = .ok (.goto (-13), 3) := by decide +kernel
theorem dX10_lengthOf_20 : decode cX10_lengthOf 20 = .ok (.iload_n 2, 1) := by decide +kernel
theorem dX10_lengthOf_21 : decode cX10_lengthOf 21 = .ok (.ireturn, 1) := by decide +kernel
set_option maxRecDepth 100000 in
theorem w_Mo_lengthOf_L4 {p : Program} {l : Launch} {e : Env} {s : State} {m : MethodId} {args : Array Value} {below : List Frame} {meth : Method} {c : Code} {Q : State → Prop} {A : Nat → Prop} {D : va_G} {cI cJ cZ cO : ClassId} {x : Int32} (C0 : Cx p s m args c A D cI cJ cZ cO cX10_lengthOf 5 RX10) (hQ : RtI p l e rm_Mo_lengthOf s m args below meth c Q A D cX10_lengthOf .int (ws_Mo_lengthOf cI cJ cZ) x) {K : Int32 → Int64 → Option (Int32)} (hK : ∀ (x2 : Int32) (x3 : Int64) (H : Heap) (locs : List Loc) (ls : Array Slot), K x2 x3 = some x → Wd s A D (ws_Mo_lengthOf cI cJ cZ) H locs → lv_has ls 5 [(2, .int x2)] → W p l e rm_Mo_lengthOf s m args below meth c H locs 0 0 Q (F0 m 20 ls [])) {rec : Int32 → Int64 → Option (Int32)} (hrec : ∀ (x2 : Int32) (x3 : Int64) (H : Heap) (locs : List Loc) (ls : Array Slot), rec x2 x3 = some x → Wd s A D (ws_Mo_lengthOf cI cJ cZ) H locs → lv_has ls 5 [(2, .int x2), (3, .long x3)] → W p l e rm_Mo_lengthOf s m args below meth c H locs 0 0 Q (F0 m 4 ls [])) (x2 : Int32) (x3 : Int64) {H : Heap} {locs : List Loc} {ls : Array Slot} (h : f_Mo_lengthOf_L4 K rec x2 x3 = some x) (w : Wd s A D (ws_Mo_lengthOf cI cJ cZ) H locs) (hl : lv_has ls 5 [(2, .int x2), (3, .long x3)]) : W p l e rm_Mo_lengthOf s m args below meth c H locs 0 0 Q (F0 m 4 ls []) := by
  obtain ⟨hx, hb, hml, hown, hts, -, -⟩ := id C0
  unfold f_Mo_lengthOf_L4 at h
  refine lv_lload_n hx hb dX10_lengthOf_4 rfl (lv_at hl 1 rfl) ?_
  refine lv_lconst (v := (0 : Int64)) hx hb dX10_lengthOf_5 (by decide) ?_
  refine r_lc_le (tgt := 20) hx hb dX10_lengthOf_6 dX10_lengthOf_7 (by decide) (fun hc => ?_) (fun hc => ?_)
  · have h := nf_h hc h
    exact hK _ _ _ _ _ h w (lv_sub hl [0] rfl)
  · have h := if_h hc h
    obtain ⟨x2_1, ex2_1⟩ : ∃ y : Int32, y = (x2 + 1) := ⟨_, rfl⟩
    have h := bnd_at ex2_1 h
    refine lv_iinc (v := x2_1) (lv' := [(2, .int x2_1), (3, .long x3)]) hx hb dX10_lengthOf_10 hl (k := 0) rfl (by rw [ex2_1]; rfl) (by decide) rfl (fun ls hl => ?_)
    refine lv_lload_n hx hb dX10_lengthOf_13 rfl (lv_at hl 1 rfl) ?_
    refine lv_iconst (v := (2 : Int32)) hx hb dX10_lengthOf_14 (by decide) ?_
    refine lv_lshr (v := (x3 >>> (2 : Int64))) hx hb dX10_lengthOf_15 (lsh_litr (by decide)) ?_
    refine lv_topl (fun x3_1 ex3_1 => ?_)
    have h := bnd_at ex3_1 h
    refine lv_lstore_n (lv' := [(3, .long x3_1), (2, .int x2_1)]) hx hb dX10_lengthOf_16 rfl hl (by decide) rfl (fun ls hl => ?_)
    refine lv_goto (tgt := 4) hx hb dX10_lengthOf_17 (by decide) ?_
    exact hrec _ _ _ _ _ h w (lv_sub hl [1, 0] rfl)
set_option maxRecDepth 100000 in
theorem wl_Mo_lengthOf_L4 {p : Program} {l : Launch} {e : Env} {s : State} {m : MethodId} {args : Array Value} {below : List Frame} {meth : Method} {c : Code} {Q : State → Prop} {A : Nat → Prop} {D : va_G} {cI cJ cZ cO : ClassId} {x : Int32} (C0 : Cx p s m args c A D cI cJ cZ cO cX10_lengthOf 5 RX10) (hQ : RtI p l e rm_Mo_lengthOf s m args below meth c Q A D cX10_lengthOf .int (ws_Mo_lengthOf cI cJ cZ) x) {K : Int32 → Int64 → Option (Int32)} (hK : ∀ (x2 : Int32) (x3 : Int64) (H : Heap) (locs : List Loc) (ls : Array Slot), K x2 x3 = some x → Wd s A D (ws_Mo_lengthOf cI cJ cZ) H locs → lv_has ls 5 [(2, .int x2)] → W p l e rm_Mo_lengthOf s m args below meth c H locs 0 0 Q (F0 m 20 ls [])) : ∀ (n : Nat) (x2 : Int32) (x3 : Int64) (H : Heap) (locs : List Loc) (ls : Array Slot), itr (fun _ _ => none) (f_Mo_lengthOf_L4 K) n x2 x3 = some x → Wd s A D (ws_Mo_lengthOf cI cJ cZ) H locs → lv_has ls 5 [(2, .int x2), (3, .long x3)] → W p l e rm_Mo_lengthOf s m args below meth c H locs 0 0 Q (F0 m 4 ls []) := by
  intro n
  induction n with
  | zero => intro _ _ _ _ _ h; cases (show none = some _ from h)
  | succ n ih => intro _ _ _ _ _ h w hl; exact w_Mo_lengthOf_L4 C0 hQ hK ih _ _ h w hl
set_option maxRecDepth 100000 in
theorem c_Mo_lengthOf {l : Launch} {D : va_G} {cI cJ cZ cO : ClassId} {x0 : Int64} {x : Int32} (h : f_Mo_lengthOf x0 = some x) : ctI l D cI cJ cZ cO yX10_lengthOf cX10_lengthOf 5 .int rm_Mo_lengthOf [.long x0] (ws_Mo_lengthOf cI cJ cZ) (ws_Mo_lengthOf cI cJ cZ) x := by
  refine ctI_of (by decide) (Nat.le_of_ble_eq_true rfl) ?_
  intro p e s m below meth c Q A ls C0 hQ w hl
  have hl : lv_has ls 5 [(0, .long x0)] := hl
  generalize List.toArray (α := Value) [.long x0] = args at C0 hQ ⊢
  obtain ⟨hx, hb, hml, hown, hts, -, -⟩ := id C0
  unfold f_Mo_lengthOf at h
  refine lv_iconst (v := (0 : Int32)) hx hb dX10_lengthOf_0 (by decide) ?_
  refine lv_istore_n (lv' := [(2, .int (0 : Int32)), (0, .long x0)]) hx hb dX10_lengthOf_1 rfl hl (by decide) rfl (fun ls hl => ?_)
  refine lv_lload_n hx hb dX10_lengthOf_2 rfl (lv_at hl 1 rfl) ?_
  refine lv_lstore_n (lv' := [(3, .long x0), (2, .int (0 : Int32)), (0, .long x0)]) hx hb dX10_lengthOf_3 rfl hl (by decide) rfl (fun ls hl => ?_)
  refine wl_Mo_lengthOf_L4 C0 hQ (fun x2 x3 H locs ls h w hl => ?_) _ _ _ _ _ _ h w (lv_sub hl [1, 0] rfl)
  refine lv_iload_n hx hb dX10_lengthOf_20 rfl (lv_at hl 0 rfl) ?_
  cases h
  exact hQ _ _ _ _ dX10_lengthOf_21 rfl w
theorem dX10_longer_0 : decode cX10_longer 0 = .ok (.ldc2_w 60, 3) := by decide +kernel
theorem dX10_longer_3 : decode cX10_longer 3 = .ok (.lload_n 0, 1) := by decide +kernel
theorem dX10_longer_4 : decode cX10_longer 4 = .ok (.lmul, 1) := by decide +kernel
theorem dX10_longer_5 : decode cX10_longer 5 = .ok (.iload_n 2, 1) := by decide +kernel
theorem dX10_longer_6 : decode cX10_longer 6 = .ok (.i2l, 1) := by decide +kernel
theorem dX10_longer_7 : decode cX10_longer 7 = .ok (.ladd, 1) := by decide +kernel
theorem dX10_longer_8 : decode cX10_longer 8 = .ok (.lconst 1, 1) := by decide +kernel
theorem dX10_longer_9 : decode cX10_longer 9 = .ok (.ladd, 1) := by decide +kernel
theorem dX10_longer_10 : decode cX10_longer 10 = .ok (.lreturn, 1) := by decide +kernel
set_option maxRecDepth 100000 in
theorem c_Mo_longer {l : Launch} {D : va_G} {cI cJ cZ cO : ClassId} {x0 : Int64} {x2 : Int32} {x : Int64} (h : f_Mo_longer x0 x2 = some x) : ctJ l D cI cJ cZ cO yX10_longer cX10_longer 3 rm_Mo_longer [.long x0, .int x2] (ws_Mo_longer cI cJ cZ) (ws_Mo_longer cI cJ cZ) x := by
  refine ctJ_of (by decide) (Nat.le_of_ble_eq_true rfl) ?_
  intro p e s m below meth c Q A ls C0 hQ w hl
  have hl : lv_has ls 3 [(0, .long x0), (2, .int x2)] := hl
  generalize List.toArray (α := Value) [.long x0, .int x2] = args at C0 hQ ⊢
  obtain ⟨hx, hb, hml, hown, hts, -, -⟩ := id C0
  unfold f_Mo_longer at h
  refine lv_ldc2 (v := (4 : Int64)) hx hb hown (hts _ ll_RX10_60) dX10_longer_0 ?_
  refine lv_lload_n hx hb dX10_longer_3 rfl (lv_at hl 0 rfl) ?_
  refine lv_lmul hx hb dX10_longer_4 ?_
  refine lv_iload_n hx hb dX10_longer_5 rfl (lv_at hl 1 rfl) ?_
  refine lv_i2l hx hb dX10_longer_6 rfl ?_
  refine lv_ladd hx hb dX10_longer_7 ?_
  refine lv_lconst (v := (1 : Int64)) hx hb dX10_longer_8 (by decide) ?_
  refine lv_ladd hx hb dX10_longer_9 ?_
  cases h
  exact hQ _ _ _ _ dX10_longer_10 w
theorem dX10_letterOf_0 : decode cX10_letterOf 0 = .ok (.lload_n 0, 1) := by decide +kernel
theorem dX10_letterOf_1 : decode cX10_letterOf 1 = .ok (.iconst 2, 1) := by decide +kernel
theorem dX10_letterOf_2 : decode cX10_letterOf 2 = .ok (.lload_n 0, 1) := by decide +kernel
theorem dX10_letterOf_3 : decode cX10_letterOf 3 = .ok (.invokestatic 62, 3) := by decide +kernel
theorem dX10_letterOf_6 : decode cX10_letterOf 6 = .ok (.iconst 1, 1) := by decide +kernel
theorem dX10_letterOf_7 : decode cX10_letterOf 7 = .ok (.isub, 1) := by decide +kernel
theorem dX10_letterOf_8 : decode cX10_letterOf 8 = .ok (.iload_n 2, 1) := by decide +kernel
theorem dX10_letterOf_9 : decode cX10_letterOf 9 = .ok (.isub, 1) := by decide +kernel
theorem dX10_letterOf_10 : decode cX10_letterOf 10 = .ok (.imul, 1) := by decide +kernel
theorem dX10_letterOf_11 : decode cX10_letterOf 11 = .ok (.lshr, 1) := by decide +kernel
theorem dX10_letterOf_12 : decode cX10_letterOf 12 = .ok (.ldc2_w 66, 3) := by decide +kernel
theorem dX10_letterOf_15 : decode cX10_letterOf 15 = .ok (.land, 1) := by decide +kernel
theorem dX10_letterOf_16 : decode cX10_letterOf 16 = .ok (.l2i, 1) := by decide +kernel
theorem dX10_letterOf_17 : decode cX10_letterOf 17 = .ok (.iconst 1, 1) := by decide +kernel
theorem dX10_letterOf_18 : decode cX10_letterOf 18 = .ok (.isub, 1) := by decide +kernel
theorem dX10_letterOf_19 : decode cX10_letterOf 19 = .ok (.ireturn, 1) := by decide +kernel
set_option maxRecDepth 100000 in
theorem c_Mo_letterOf {l : Launch} {D : va_G} {cI cJ cZ cO : ClassId} {x0 : Int64} {x2 : Int32} {x : Int32} (h : f_Mo_letterOf x0 x2 = some x) : ctI l D cI cJ cZ cO yX10_letterOf cX10_letterOf 3 .int rm_Mo_letterOf [.long x0, .int x2] (ws_Mo_letterOf cI cJ cZ) (ws_Mo_letterOf cI cJ cZ) x := by
  refine ctI_of (by decide) (Nat.le_of_ble_eq_true rfl) ?_
  intro p e s m below meth c Q A ls C0 hQ w hl
  have hl : lv_has ls 3 [(0, .long x0), (2, .int x2)] := hl
  generalize List.toArray (α := Value) [.long x0, .int x2] = args at C0 hQ ⊢
  obtain ⟨hx, hb, hml, hown, hts, -, -⟩ := id C0
  unfold f_Mo_letterOf at h
  refine lv_lload_n hx hb dX10_letterOf_0 rfl (lv_at hl 0 rfl) ?_
  refine lv_iconst (v := (2 : Int32)) hx hb dX10_letterOf_1 (by decide) ?_
  refine lv_lload_n hx hb dX10_letterOf_2 rfl (lv_at hl 0 rfl) ?_
  obtain ⟨r, hcall, h⟩ := bd1_h h
  obtain ⟨wr, hp, hp'⟩ := rd_of (ws := (ws_Mo_letterOf cI cJ cZ)) (wc := (ws_Mo_lengthOf cI cJ cZ)) [] rfl rfl
  refine r_SI (r := r) (As := [.long x0]) (rest := [.int (2 : Int32), .long x0]) (wc' := (ws_Mo_lengthOf cI cJ cZ)) (ws' := (ws_Mo_letterOf cI cJ cZ)) C0 w (c_Mo_lengthOf hcall) hp hp' lm_RX10_62 ms_Mo_lengthOf ⟨rfl, rfl⟩ ⟨by decide, by decide⟩ ⟨Nat.zero_le _, Nat.zero_le _⟩ rfl hl rfl (Nat.le_of_ble_eq_true rfl) dX10_letterOf_3 (fun H locs w => ?_)
  refine lv_iconst (v := (1 : Int32)) hx hb dX10_letterOf_6 (by decide) ?_
  refine lv_isub hx hb dX10_letterOf_7 ?_
  refine lv_iload_n hx hb dX10_letterOf_8 rfl (lv_at hl 1 rfl) ?_
  refine lv_isub hx hb dX10_letterOf_9 ?_
  refine lv_imul hx hb dX10_letterOf_10 ?_
  refine lv_lshr (v := (x0 >>> (((2 : Int32) * ((r - (1 : Int32)) - x2)).toInt64 &&& 63))) hx hb dX10_letterOf_11 rfl ?_
  refine lv_ldc2 (v := (3 : Int64)) hx hb hown (hts _ ll_RX10_66) dX10_letterOf_12 ?_
  refine lv_land hx hb dX10_letterOf_15 ?_
  refine lv_l2i hx hb dX10_letterOf_16 rfl ?_
  refine lv_iconst (v := (1 : Int32)) hx hb dX10_letterOf_17 (by decide) ?_
  refine lv_isub hx hb dX10_letterOf_18 ?_
  cases h
  exact hQ _ _ _ _ dX10_letterOf_19 rfl w
theorem dX10_joined_0 : decode cX10_joined 0 = .ok (.lload_n 0, 1) := by decide +kernel
theorem dX10_joined_1 : decode cX10_joined 1 = .ok (.iconst 2, 1) := by decide +kernel
theorem dX10_joined_2 : decode cX10_joined 2 = .ok (.lload_n 2, 1) := by decide +kernel
theorem dX10_joined_3 : decode cX10_joined 3 = .ok (.invokestatic 62, 3) := by decide +kernel
theorem dX10_joined_6 : decode cX10_joined 6 = .ok (.imul, 1) := by decide +kernel
theorem dX10_joined_7 : decode cX10_joined 7 = .ok (.lshl, 1) := by decide +kernel
theorem dX10_joined_8 : decode cX10_joined 8 = .ok (.lload_n 2, 1) := by decide +kernel
theorem dX10_joined_9 : decode cX10_joined 9 = .ok (.lor, 1) := by decide +kernel
theorem dX10_joined_10 : decode cX10_joined 10 = .ok (.lreturn, 1) := by decide +kernel
set_option maxRecDepth 100000 in
theorem c_Mo_joined {l : Launch} {D : va_G} {cI cJ cZ cO : ClassId} {x0 : Int64} {x2 : Int64} {x : Int64} (h : f_Mo_joined x0 x2 = some x) : ctJ l D cI cJ cZ cO yX10_joined cX10_joined 4 rm_Mo_joined [.long x0, .long x2] (ws_Mo_joined cI cJ cZ) (ws_Mo_joined cI cJ cZ) x := by
  refine ctJ_of (by decide) (Nat.le_of_ble_eq_true rfl) ?_
  intro p e s m below meth c Q A ls C0 hQ w hl
  have hl : lv_has ls 4 [(0, .long x0), (2, .long x2)] := hl
  generalize List.toArray (α := Value) [.long x0, .long x2] = args at C0 hQ ⊢
  obtain ⟨hx, hb, hml, hown, hts, -, -⟩ := id C0
  unfold f_Mo_joined at h
  refine lv_lload_n hx hb dX10_joined_0 rfl (lv_at hl 0 rfl) ?_
  refine lv_iconst (v := (2 : Int32)) hx hb dX10_joined_1 (by decide) ?_
  refine lv_lload_n hx hb dX10_joined_2 rfl (lv_at hl 1 rfl) ?_
  obtain ⟨r, hcall, h⟩ := bd1_h h
  obtain ⟨wr, hp, hp'⟩ := rd_of (ws := (ws_Mo_joined cI cJ cZ)) (wc := (ws_Mo_lengthOf cI cJ cZ)) [] rfl rfl
  refine r_SI (r := r) (As := [.long x2]) (rest := [.int (2 : Int32), .long x0]) (wc' := (ws_Mo_lengthOf cI cJ cZ)) (ws' := (ws_Mo_joined cI cJ cZ)) C0 w (c_Mo_lengthOf hcall) hp hp' lm_RX10_62 ms_Mo_lengthOf ⟨rfl, rfl⟩ ⟨by decide, by decide⟩ ⟨Nat.zero_le _, Nat.zero_le _⟩ rfl hl rfl (Nat.le_of_ble_eq_true rfl) dX10_joined_3 (fun H locs w => ?_)
  refine lv_imul hx hb dX10_joined_6 ?_
  refine lv_lshl (v := (x0 <<< (((2 : Int32) * r).toInt64 &&& 63))) hx hb dX10_joined_7 rfl ?_
  refine lv_lload_n hx hb dX10_joined_8 rfl (lv_at hl 1 rfl) ?_
  refine lv_lor hx hb dX10_joined_9 ?_
  cases h
  exact hQ _ _ _ _ dX10_joined_10 w
theorem dX10_letterOrLength_0 : decode cX10_letterOrLength 0 = .ok (.iload_n 3, 1) := by decide +kernel
theorem dX10_letterOrLength_1 : decode cX10_letterOrLength 1 = .ok (.iconst (-1), 1) := by decide +kernel
theorem dX10_letterOrLength_2 : decode cX10_letterOrLength 2 = .ok (.if_icmp .ne 10, 3) := by decide +kernel
theorem dX10_letterOrLength_5 : decode cX10_letterOrLength 5 = .ok (.lload_n 1, 1) := by decide +kernel
theorem dX10_letterOrLength_6 : decode cX10_letterOrLength 6 = .ok (.invokestatic 62, 3) := by decide +kernel
theorem dX10_letterOrLength_9 : decode cX10_letterOrLength 9 = .ok (.goto 20, 3) := by decide +kernel
theorem dX10_letterOrLength_12 : decode cX10_letterOrLength 12 = .ok (.iload_n 3, 1) := by decide +kernel
theorem dX10_letterOrLength_13 : decode cX10_letterOrLength 13 = .ok (.lload_n 1, 1) := by decide +kernel
theorem dX10_letterOrLength_14 : decode cX10_letterOrLength 14 = .ok (.invokestatic 62, 3) := by decide +kernel
theorem dX10_letterOrLength_17 : decode cX10_letterOrLength 17 = .ok (.if_icmp .ge 11, 3) := by decide +kernel
theorem dX10_letterOrLength_20 : decode cX10_letterOrLength 20 = .ok (.lload_n 1, 1) := by decide +kernel
theorem dX10_letterOrLength_21 : decode cX10_letterOrLength 21 = .ok (.iload_n 3, 1) := by decide +kernel
theorem dX10_letterOrLength_22 : decode cX10_letterOrLength 22 = .ok (.invokestatic 68, 3) := by decide +kernel
theorem dX10_letterOrLength_25 : decode cX10_letterOrLength 25 = .ok (.goto 4, 3) := by decide +kernel
theorem dX10_letterOrLength_28 : decode cX10_letterOrLength 28 = .ok (.iconst (-1), 1) := by decide +kernel
theorem dX10_letterOrLength_29 : decode cX10_letterOrLength 29 = .ok (.ireturn, 1) := by decide +kernel
set_option maxRecDepth 100000 in
theorem c_Mo_letterOrLength {l : Launch} {D : va_G} {cI cJ cZ cO : ClassId} {q_this : Nat} {x1 : Int64} {x3 : Int32} {x : Int32} (h : f_Mo_letterOrLength x1 x3 = some x) : ctI l D cI cJ cZ cO yX10_letterOrLength cX10_letterOrLength 4 .int rm_Mo_letterOrLength [.ref q_this, .long x1, .int x3] (ws_Mo_letterOrLength cI cJ cZ q_this) (ws_Mo_letterOrLength cI cJ cZ q_this) x := by
  refine ctI_of (by decide) (Nat.le_of_ble_eq_true rfl) ?_
  intro p e s m below meth c Q A ls C0 hQ w hl
  have hl : lv_has ls 4 [(0, .ref q_this), (1, .long x1), (3, .int x3)] := hl
  generalize List.toArray (α := Value) [.ref q_this, .long x1, .int x3] = args at C0 hQ ⊢
  obtain ⟨hx, hb, hml, hown, hts, -, -⟩ := id C0
  unfold f_Mo_letterOrLength at h
  refine lv_iload_n hx hb dX10_letterOrLength_0 rfl (lv_at hl 2 rfl) ?_
  refine lv_iconst (v := (-1 : Int32)) hx hb dX10_letterOrLength_1 (by decide) ?_
  refine lv_icmp_ne (tgt := 12) hx hb dX10_letterOrLength_2 (by decide) (fun hc => ?_) (fun hc => ?_)
  · have h := nf_h hc h
    refine lv_iload_n hx hb dX10_letterOrLength_12 rfl (lv_at hl 2 rfl) ?_
    refine lv_lload_n hx hb dX10_letterOrLength_13 rfl (lv_at hl 1 rfl) ?_
    obtain ⟨r, hcall, h⟩ := bd1_h h
    obtain ⟨wr, hp, hp'⟩ := rd_of (ws := (ws_Mo_letterOrLength cI cJ cZ q_this)) (wc := (ws_Mo_lengthOf cI cJ cZ)) [] rfl rfl
    refine r_SI (r := r) (As := [.long x1]) (rest := [.int x3]) (wc' := (ws_Mo_lengthOf cI cJ cZ)) (ws' := (ws_Mo_letterOrLength cI cJ cZ q_this)) C0 w (c_Mo_lengthOf hcall) hp hp' lm_RX10_62 ms_Mo_lengthOf ⟨rfl, rfl⟩ ⟨by decide, by decide⟩ ⟨Nat.zero_le _, Nat.zero_le _⟩ rfl hl rfl (Nat.le_of_ble_eq_true rfl) dX10_letterOrLength_14 (fun H locs w => ?_)
    refine lv_icmp_ge (tgt := 28) hx hb dX10_letterOrLength_17 (by decide) (fun hc => ?_) (fun hc => ?_)
    · have h := if_h hc h
      refine lv_iconst (v := (-1 : Int32)) hx hb dX10_letterOrLength_28 (by decide) ?_
      cases h
      exact hQ _ _ _ _ dX10_letterOrLength_29 rfl w
    · have h := nf_h hc h
      refine lv_lload_n hx hb dX10_letterOrLength_20 rfl (lv_at hl 1 rfl) ?_
      refine lv_iload_n hx hb dX10_letterOrLength_21 rfl (lv_at hl 2 rfl) ?_
      obtain ⟨r_1, hcall, h⟩ := bd1_h h
      obtain ⟨wr, hp, hp'⟩ := rd_of (ws := (ws_Mo_letterOrLength cI cJ cZ q_this)) (wc := (ws_Mo_letterOf cI cJ cZ)) [] rfl rfl
      refine r_SI (r := r_1) (As := [.long x1, .int x3]) (rest := []) (wc' := (ws_Mo_letterOf cI cJ cZ)) (ws' := (ws_Mo_letterOrLength cI cJ cZ q_this)) C0 w (c_Mo_letterOf hcall) hp hp' lm_RX10_68 ms_Mo_letterOf ⟨rfl, rfl⟩ ⟨by decide, by decide⟩ ⟨Nat.zero_le _, Nat.zero_le _⟩ rfl hl rfl (Nat.le_of_ble_eq_true rfl) dX10_letterOrLength_22 (fun H locs w => ?_)
      refine lv_goto (tgt := 29) hx hb dX10_letterOrLength_25 (by decide) ?_
      cases h
      exact hQ _ _ _ _ dX10_letterOrLength_29 rfl w
  · have h := if_h hc h
    refine lv_lload_n hx hb dX10_letterOrLength_5 rfl (lv_at hl 1 rfl) ?_
    obtain ⟨r_2, hcall, h⟩ := bd1_h h
    obtain ⟨wr, hp, hp'⟩ := rd_of (ws := (ws_Mo_letterOrLength cI cJ cZ q_this)) (wc := (ws_Mo_lengthOf cI cJ cZ)) [] rfl rfl
    refine r_SI (r := r_2) (As := [.long x1]) (rest := []) (wc' := (ws_Mo_lengthOf cI cJ cZ)) (ws' := (ws_Mo_letterOrLength cI cJ cZ q_this)) C0 w (c_Mo_lengthOf hcall) hp hp' lm_RX10_62 ms_Mo_lengthOf ⟨rfl, rfl⟩ ⟨by decide, by decide⟩ ⟨Nat.zero_le _, Nat.zero_le _⟩ rfl hl rfl (Nat.le_of_ble_eq_true rfl) dX10_letterOrLength_6 (fun H locs w => ?_)
    refine lv_goto (tgt := 29) hx hb dX10_letterOrLength_9 (by decide) ?_
    cases h
    exact hQ _ _ _ _ dX10_letterOrLength_29 rfl w
theorem dX10_told_0 : decode cX10_told 0 = .ok (.lconst 0, 1) := by decide +kernel
theorem dX10_told_1 : decode cX10_told 1 = .ok (.lstore_n 1, 1) := by decide +kernel
theorem dX10_told_2 : decode cX10_told 2 = .ok (.iconst 0, 1) := by decide +kernel
theorem dX10_told_3 : decode cX10_told 3 = .ok (.istore_n 3, 1) := by decide +kernel
theorem dX10_told_4 : decode cX10_told 4 = .ok (.iload_n 3, 1) := by decide +kernel
theorem dX10_told_5 : decode cX10_told 5 = .ok (.aload_n 0, 1) := by decide +kernel
theorem dX10_told_6 : decode cX10_told 6 = .ok (.getfield 72, 3) := by decide +kernel
theorem dX10_told_9 : decode cX10_told 9 = .ok (.if_icmp .ge 52, 3) := by decide +kernel
theorem dX10_told_12 : decode cX10_told 12 = .ok (.aload_n 0, 1) := by decide +kernel
theorem dX10_told_13 : decode cX10_told 13 = .ok (.getfield 27, 3) := by decide +kernel
theorem dX10_told_16 : decode cX10_told 16 = .ok (.iload_n 3, 1) := by decide +kernel
theorem dX10_told_17 : decode cX10_told 17 = .ok (.iaload, 1) := by decide +kernel
theorem dX10_told_18 : decode cX10_told 18 = .ok (.bipush 97, 2) := by decide +kernel
theorem dX10_told_20 : decode cX10_told 20 = .ok (.bipush 97, 2) := by decide +kernel
theorem dX10_told_22 : decode cX10_told 22 = .ok (.aload_n 0, 1) := by decide +kernel
theorem dX10_told_23 : decode cX10_told 23 = .ok (.getfield 7, 3) := by decide +kernel
theorem dX10_told_26 : decode cX10_told 26 = .ok (.iconst 1, 1) := by decide +kernel
theorem dX10_told_27 : decode cX10_told 27 = .ok (.iaload, 1) := by decide +kernel
theorem dX10_told_28 : decode cX10_told 28 = .ok (.iadd, 1) := by decide +kernel
theorem dX10_told_29 : decode cX10_told 29 = .ok (.iconst 1, 1) := by decide +kernel
theorem dX10_told_30 : decode cX10_told 30 = .ok (.isub, 1) := by decide +kernel
theorem dX10_told_31 : decode cX10_told 31 = .ok (.invokestatic 76, 3) := by decide +kernel
theorem dX10_told_34 : decode cX10_told 34 = .ok (.ifCond .ne 7, 3) := by decide +kernel
theorem dX10_told_37 : decode cX10_told 37 = .ok (.ldc2_w 80, 3) := by decide +kernel
theorem dX10_told_40 : decode cX10_told 40 = .ok (.lreturn, 1) := by decide +kernel
theorem dX10_told_41 : decode cX10_told 41 = .ok (.lload_n 1, 1) := by decide +kernel
theorem dX10_told_42 : decode cX10_told 42 = .ok (.aload_n 0, 1) := by decide +kernel
theorem dX10_told_43 : decode cX10_told 43 = .ok (.getfield 27, 3) := by decide +kernel
theorem dX10_told_46 : decode cX10_told 46 = .ok (.iload_n 3, 1) := by decide +kernel
theorem dX10_told_47 : decode cX10_told 47 = .ok (.iaload, 1) := by decide +kernel
theorem dX10_told_48 : decode cX10_told 48 = .ok (.bipush 97, 2) := by decide +kernel
theorem dX10_told_50 : decode cX10_told 50 = .ok (.isub, 1) := by decide +kernel
theorem dX10_told_51 : decode cX10_told 51 = .ok (.invokestatic 82, 3) := by decide +kernel
theorem dX10_told_54 : decode cX10_told 54 = .ok (.lstore_n 1, 1) := by decide +kernel
theorem dX10_told_55 : decode cX10_told 55 = .ok (.iinc 3 1, 3) := by decide +kernel
theorem dX10_told_58 : decode cX10_told 58 = .ok (.goto (-54), 3) := by decide +kernel
theorem dX10_told_61 : decode cX10_told 61 = .ok (.lload_n 1, 1) := by decide +kernel
theorem dX10_told_62 : decode cX10_told 62 = .ok (.lreturn, 1) := by decide +kernel
set_option maxRecDepth 100000 in
theorem w_Mo_told_L4 {p : Program} {l : Launch} {e : Env} {s : State} {m : MethodId} {args : Array Value} {below : List Frame} {meth : Method} {c : Code} {Q : State → Prop} {A : Nat → Prop} {D : va_G} {cI cJ cZ cO : ClassId} {q_this q_m q_saved q_w q_savedWords q_isSaved q_text q_far q_queue q_parent q_by q_seen q_path q_row q_more q_stateOf : Nat} {v_textLength : Int32} {v_steps : Int32} {v_missing : Int64} {v_mores : Int32} {v_hash : Int64} {v_m : (Nat → Int32)} {v_text : (Nat → Int32)} {x : Int64} (C0 : Cx p s m args c A D cI cJ cZ cO cX10_told 4 RX10) (hQ : RtJ p l e rm_Mo_told s m args below meth c Q A D cX10_told (ws_Mo_told cI cJ cZ q_this q_m q_saved q_w q_savedWords q_isSaved q_text q_far q_queue q_parent q_by q_seen q_path q_row q_more q_stateOf v_textLength v_steps v_missing v_mores v_hash v_m v_text) x) {K : Int64 → Int32 → Option (Int64)} (hK : ∀ (x1 : Int64) (x3 : Int32) (H : Heap) (locs : List Loc) (ls : Array Slot), K x1 x3 = some x → Wd s A D (ws_Mo_told cI cJ cZ q_this q_m q_saved q_w q_savedWords q_isSaved q_text q_far q_queue q_parent q_by q_seen q_path q_row q_more q_stateOf v_textLength v_steps v_missing v_mores v_hash v_m v_text) H locs → lv_has ls 4 [(1, .long x1)] → W p l e rm_Mo_told s m args below meth c H locs 0 0 Q (F0 m 61 ls [])) {rec : Int64 → Int32 → Option (Int64)} (hrec : ∀ (x1 : Int64) (x3 : Int32) (H : Heap) (locs : List Loc) (ls : Array Slot), rec x1 x3 = some x → Wd s A D (ws_Mo_told cI cJ cZ q_this q_m q_saved q_w q_savedWords q_isSaved q_text q_far q_queue q_parent q_by q_seen q_path q_row q_more q_stateOf v_textLength v_steps v_missing v_mores v_hash v_m v_text) H locs → lv_has ls 4 [(0, .ref q_this), (1, .long x1), (3, .int x3)] → W p l e rm_Mo_told s m args below meth c H locs 0 0 Q (F0 m 4 ls [])) (x1 : Int64) (x3 : Int32) {H : Heap} {locs : List Loc} {ls : Array Slot} (h : f_Mo_told_L4 v_textLength v_m v_text K rec x1 x3 = some x) (w : Wd s A D (ws_Mo_told cI cJ cZ q_this q_m q_saved q_w q_savedWords q_isSaved q_text q_far q_queue q_parent q_by q_seen q_path q_row q_more q_stateOf v_textLength v_steps v_missing v_mores v_hash v_m v_text) H locs) (hl : lv_has ls 4 [(0, .ref q_this), (1, .long x1), (3, .int x3)]) : W p l e rm_Mo_told s m args below meth c H locs 0 0 Q (F0 m 4 ls []) := by
  obtain ⟨hx, hb, hml, hown, hts, -, -⟩ := id C0
  unfold f_Mo_told_L4 at h
  refine lv_iload_n hx hb dX10_told_4 rfl (lv_at hl 2 rfl) ?_
  refine lv_aload_n hx hb dX10_told_5 rfl (lv_at hl 0 rfl) ?_
  refine r_get C0 w 0 rfl kf_Mo 6 (by decide) lf_RX10_72 rfl dX10_told_6 ?_
  refine lv_icmp_ge (tgt := 61) hx hb dX10_told_9 (by decide) (fun hc => ?_) (fun hc => ?_)
  · have h := if_h hc h
    exact hK _ _ _ _ _ h w (lv_sub hl [1] rfl)
  · have h := nf_h hc h
    refine lv_aload_n hx hb dX10_told_12 rfl (lv_at hl 0 rfl) ?_
    refine r_get C0 w 0 rfl kf_Mo 5 (by decide) lf_RX10_27 rfl dX10_told_13 ?_
    refine lv_iload_n hx hb dX10_told_16 rfl (lv_at hl 2 rfl) ?_
    obtain ⟨hi, h⟩ := gIn_h h
    refine r_iald C0 w 2 rfl rfl hi dX10_told_17 ?_
    refine lv_bipush (v := (97 : Int32)) hx hb dX10_told_18 (by decide) ?_
    refine lv_bipush (v := (97 : Int32)) hx hb dX10_told_20 (by decide) ?_
    refine lv_aload_n hx hb dX10_told_22 rfl (lv_at hl 0 rfl) ?_
    refine r_get C0 w 0 rfl kf_Mo 0 (by decide) lf_RX10_7 rfl dX10_told_23 ?_
    refine lv_iconst (v := (1 : Int32)) hx hb dX10_told_26 (by decide) ?_
    refine r_iald C0 w 1 rfl (k := 1) (by decide) (inl (by decide)) dX10_told_27 ?_
    refine lv_iadd hx hb dX10_told_28 ?_
    refine lv_iconst (v := (1 : Int32)) hx hb dX10_told_29 (by decide) ?_
    refine lv_isub hx hb dX10_told_30 ?_
    obtain ⟨r, hcall, h⟩ := bd1_h h
    obtain ⟨wr, hp, hp'⟩ := rd_of (ws := (ws_Mo_told cI cJ cZ q_this q_m q_saved q_w q_savedWords q_isSaved q_text q_far q_queue q_parent q_by q_seen q_path q_row q_more q_stateOf v_textLength v_steps v_missing v_mores v_hash v_m v_text)) (wc := (ws_Mo_in cI cJ cZ)) [] rfl rfl
    refine r_SI (r := r) (As := [.int (v_text x3.toNatClampNeg), .int (97 : Int32), .int (((97 : Int32) + (v_m 1)) - (1 : Int32))]) (rest := []) (wc' := (ws_Mo_in cI cJ cZ)) (ws' := (ws_Mo_told cI cJ cZ q_this q_m q_saved q_w q_savedWords q_isSaved q_text q_far q_queue q_parent q_by q_seen q_path q_row q_more q_stateOf v_textLength v_steps v_missing v_mores v_hash v_m v_text)) C0 w (c_Mo_in hcall) hp hp' lm_RX10_76 ms_Mo_in ⟨rfl, rfl⟩ ⟨by decide, by decide⟩ ⟨Nat.zero_le _, Nat.zero_le _⟩ rfl hl rfl (Nat.le_of_ble_eq_true rfl) dX10_told_31 (fun H locs w => ?_)
    refine lv_if_ne (tgt := 41) hx hb dX10_told_34 (by decide) (fun hc => ?_) (fun hc => ?_)
    · have h := nf_h hc h
      refine lv_lload_n hx hb dX10_told_41 rfl (lv_at hl 1 rfl) ?_
      refine lv_aload_n hx hb dX10_told_42 rfl (lv_at hl 0 rfl) ?_
      refine r_get C0 w 0 rfl kf_Mo 5 (by decide) lf_RX10_27 rfl dX10_told_43 ?_
      refine lv_iload_n hx hb dX10_told_46 rfl (lv_at hl 2 rfl) ?_
      obtain ⟨hi, h⟩ := gIn_h h
      refine r_iald C0 w 2 rfl rfl hi dX10_told_47 ?_
      refine lv_bipush (v := (97 : Int32)) hx hb dX10_told_48 (by decide) ?_
      refine lv_isub hx hb dX10_told_50 ?_
      obtain ⟨r_1, hcall, h⟩ := bd1_h h
      obtain ⟨wr, hp, hp'⟩ := rd_of (ws := (ws_Mo_told cI cJ cZ q_this q_m q_saved q_w q_savedWords q_isSaved q_text q_far q_queue q_parent q_by q_seen q_path q_row q_more q_stateOf v_textLength v_steps v_missing v_mores v_hash v_m v_text)) (wc := (ws_Mo_longer cI cJ cZ)) [] rfl rfl
      refine r_SJ (r := r_1) (As := [.long x1, .int ((v_text x3.toNatClampNeg) - (97 : Int32))]) (rest := []) (wc' := (ws_Mo_longer cI cJ cZ)) (ws' := (ws_Mo_told cI cJ cZ q_this q_m q_saved q_w q_savedWords q_isSaved q_text q_far q_queue q_parent q_by q_seen q_path q_row q_more q_stateOf v_textLength v_steps v_missing v_mores v_hash v_m v_text)) C0 w (c_Mo_longer hcall) hp hp' lm_RX10_82 ms_Mo_longer ⟨rfl, rfl⟩ ⟨by decide, by decide⟩ ⟨Nat.zero_le _, Nat.zero_le _⟩ rfl hl rfl (Nat.le_of_ble_eq_true rfl) dX10_told_51 (fun H locs w => ?_)
      refine lv_lstore_n (lv' := [(1, .long r_1), (0, .ref q_this), (3, .int x3)]) hx hb dX10_told_54 rfl hl (by decide) rfl (fun ls hl => ?_)
      obtain ⟨x3_1, ex3_1⟩ : ∃ y : Int32, y = (x3 + 1) := ⟨_, rfl⟩
      have h := bnd_at ex3_1 h
      refine lv_iinc (v := x3_1) (lv' := [(3, .int x3_1), (1, .long r_1), (0, .ref q_this)]) hx hb dX10_told_55 hl (k := 2) rfl (by rw [ex3_1]; rfl) (by decide) rfl (fun ls hl => ?_)
      refine lv_goto (tgt := 4) hx hb dX10_told_58 (by decide) ?_
      exact hrec _ _ _ _ _ h w (lv_sub hl [2, 1, 0] rfl)
    · have h := if_h hc h
      refine lv_ldc2 (v := (-1 : Int64)) hx hb hown (hts _ ll_RX10_80) dX10_told_37 ?_
      cases h
      exact hQ _ _ _ _ dX10_told_40 w
set_option maxRecDepth 100000 in
theorem wl_Mo_told_L4 {p : Program} {l : Launch} {e : Env} {s : State} {m : MethodId} {args : Array Value} {below : List Frame} {meth : Method} {c : Code} {Q : State → Prop} {A : Nat → Prop} {D : va_G} {cI cJ cZ cO : ClassId} {q_this q_m q_saved q_w q_savedWords q_isSaved q_text q_far q_queue q_parent q_by q_seen q_path q_row q_more q_stateOf : Nat} {v_textLength : Int32} {v_steps : Int32} {v_missing : Int64} {v_mores : Int32} {v_hash : Int64} {v_m : (Nat → Int32)} {v_text : (Nat → Int32)} {x : Int64} (C0 : Cx p s m args c A D cI cJ cZ cO cX10_told 4 RX10) (hQ : RtJ p l e rm_Mo_told s m args below meth c Q A D cX10_told (ws_Mo_told cI cJ cZ q_this q_m q_saved q_w q_savedWords q_isSaved q_text q_far q_queue q_parent q_by q_seen q_path q_row q_more q_stateOf v_textLength v_steps v_missing v_mores v_hash v_m v_text) x) {K : Int64 → Int32 → Option (Int64)} (hK : ∀ (x1 : Int64) (x3 : Int32) (H : Heap) (locs : List Loc) (ls : Array Slot), K x1 x3 = some x → Wd s A D (ws_Mo_told cI cJ cZ q_this q_m q_saved q_w q_savedWords q_isSaved q_text q_far q_queue q_parent q_by q_seen q_path q_row q_more q_stateOf v_textLength v_steps v_missing v_mores v_hash v_m v_text) H locs → lv_has ls 4 [(1, .long x1)] → W p l e rm_Mo_told s m args below meth c H locs 0 0 Q (F0 m 61 ls [])) : ∀ (n : Nat) (x1 : Int64) (x3 : Int32) (H : Heap) (locs : List Loc) (ls : Array Slot), itr (fun _ _ => none) (f_Mo_told_L4 v_textLength v_m v_text K) n x1 x3 = some x → Wd s A D (ws_Mo_told cI cJ cZ q_this q_m q_saved q_w q_savedWords q_isSaved q_text q_far q_queue q_parent q_by q_seen q_path q_row q_more q_stateOf v_textLength v_steps v_missing v_mores v_hash v_m v_text) H locs → lv_has ls 4 [(0, .ref q_this), (1, .long x1), (3, .int x3)] → W p l e rm_Mo_told s m args below meth c H locs 0 0 Q (F0 m 4 ls []) := by
  intro n
  induction n with
  | zero => intro _ _ _ _ _ h; cases (show none = some _ from h)
  | succ n ih => intro _ _ _ _ _ h w hl; exact w_Mo_told_L4 C0 hQ hK ih _ _ h w hl
set_option maxRecDepth 100000 in
theorem c_Mo_told {l : Launch} {D : va_G} {cI cJ cZ cO : ClassId} {q_this q_m q_saved q_w q_savedWords q_isSaved q_text q_far q_queue q_parent q_by q_seen q_path q_row q_more q_stateOf : Nat} {v_textLength : Int32} {v_steps : Int32} {v_missing : Int64} {v_mores : Int32} {v_hash : Int64} {v_m : (Nat → Int32)} {v_text : (Nat → Int32)} {x : Int64} (h : f_Mo_told v_textLength v_m v_text = some x) : ctJ l D cI cJ cZ cO yX10_told cX10_told 4 rm_Mo_told [.ref q_this] (ws_Mo_told cI cJ cZ q_this q_m q_saved q_w q_savedWords q_isSaved q_text q_far q_queue q_parent q_by q_seen q_path q_row q_more q_stateOf v_textLength v_steps v_missing v_mores v_hash v_m v_text) (ws_Mo_told cI cJ cZ q_this q_m q_saved q_w q_savedWords q_isSaved q_text q_far q_queue q_parent q_by q_seen q_path q_row q_more q_stateOf v_textLength v_steps v_missing v_mores v_hash v_m v_text) x := by
  refine ctJ_of (by decide) (Nat.le_of_ble_eq_true rfl) ?_
  intro p e s m below meth c Q A ls C0 hQ w hl
  have hl : lv_has ls 4 [(0, .ref q_this)] := hl
  generalize List.toArray (α := Value) [.ref q_this] = args at C0 hQ ⊢
  obtain ⟨hx, hb, hml, hown, hts, -, -⟩ := id C0
  unfold f_Mo_told at h
  refine lv_lconst (v := (0 : Int64)) hx hb dX10_told_0 (by decide) ?_
  refine lv_lstore_n (lv' := [(1, .long (0 : Int64)), (0, .ref q_this)]) hx hb dX10_told_1 rfl hl (by decide) rfl (fun ls hl => ?_)
  refine lv_iconst (v := (0 : Int32)) hx hb dX10_told_2 (by decide) ?_
  refine lv_istore_n (lv' := [(3, .int (0 : Int32)), (1, .long (0 : Int64)), (0, .ref q_this)]) hx hb dX10_told_3 rfl hl (by decide) rfl (fun ls hl => ?_)
  refine wl_Mo_told_L4 C0 hQ (fun x1 x3 H locs ls h w hl => ?_) _ _ _ _ _ _ h w (lv_sub hl [2, 1, 0] rfl)
  refine lv_lload_n hx hb dX10_told_61 rfl (lv_at hl 0 rfl) ?_
  cases h
  exact hQ _ _ _ _ dX10_told_62 w
theorem dX10_isState_0 : decode cX10_isState 0 = .ok (.iload_n 1, 1) := by decide +kernel
theorem dX10_isState_1 : decode cX10_isState 1 = .ok (.iconst 0, 1) := by decide +kernel
theorem dX10_isState_2 : decode cX10_isState 2 = .ok (.aload_n 0, 1) := by decide +kernel
theorem dX10_isState_3 : decode cX10_isState 3 = .ok (.getfield 7, 3) := by decide +kernel
theorem dX10_isState_6 : decode cX10_isState 6 = .ok (.iconst 0, 1) := by decide +kernel
theorem dX10_isState_7 : decode cX10_isState 7 = .ok (.iaload, 1) := by decide +kernel
theorem dX10_isState_8 : decode cX10_isState 8 = .ok (.iconst 1, 1) := by decide +kernel
theorem dX10_isState_9 : decode cX10_isState 9 = .ok (.isub, 1) := by decide +kernel
theorem dX10_isState_10 : decode cX10_isState 10 = .ok (.invokestatic 76, 3) := by decide +kernel
theorem dX10_isState_13 : decode cX10_isState 13 = .ok (.ireturn, 1) := by decide +kernel
set_option maxRecDepth 100000 in
theorem c_Mo_isState {l : Launch} {D : va_G} {cI cJ cZ cO : ClassId} {q_this q_m q_saved q_w q_savedWords q_isSaved q_text q_far q_queue q_parent q_by q_seen q_path q_row q_more q_stateOf : Nat} {x1 : Int32} {v_textLength : Int32} {v_steps : Int32} {v_missing : Int64} {v_mores : Int32} {v_hash : Int64} {v_m : (Nat → Int32)} {x : Int32} (h : f_Mo_isState x1 v_m = some x) : ctI l D cI cJ cZ cO yX10_isState cX10_isState 2 .boolean rm_Mo_isState [.ref q_this, .int x1] (ws_Mo_isState cI cJ cZ q_this q_m q_saved q_w q_savedWords q_isSaved q_text q_far q_queue q_parent q_by q_seen q_path q_row q_more q_stateOf v_textLength v_steps v_missing v_mores v_hash v_m) (ws_Mo_isState cI cJ cZ q_this q_m q_saved q_w q_savedWords q_isSaved q_text q_far q_queue q_parent q_by q_seen q_path q_row q_more q_stateOf v_textLength v_steps v_missing v_mores v_hash v_m) x := by
  refine ctI_of (by decide) (Nat.le_of_ble_eq_true rfl) ?_
  intro p e s m below meth c Q A ls C0 hQ w hl
  have hl : lv_has ls 2 [(0, .ref q_this), (1, .int x1)] := hl
  generalize List.toArray (α := Value) [.ref q_this, .int x1] = args at C0 hQ ⊢
  obtain ⟨hx, hb, hml, hown, hts, -, -⟩ := id C0
  unfold f_Mo_isState at h
  refine lv_iload_n hx hb dX10_isState_0 rfl (lv_at hl 1 rfl) ?_
  refine lv_iconst (v := (0 : Int32)) hx hb dX10_isState_1 (by decide) ?_
  refine lv_aload_n hx hb dX10_isState_2 rfl (lv_at hl 0 rfl) ?_
  refine r_get C0 w 0 rfl kf_Mo 0 (by decide) lf_RX10_7 rfl dX10_isState_3 ?_
  refine lv_iconst (v := (0 : Int32)) hx hb dX10_isState_6 (by decide) ?_
  refine r_iald C0 w 1 rfl (k := 0) (by decide) (inl (by decide)) dX10_isState_7 ?_
  refine lv_iconst (v := (1 : Int32)) hx hb dX10_isState_8 (by decide) ?_
  refine lv_isub hx hb dX10_isState_9 ?_
  obtain ⟨r, hcall, h⟩ := bd1_h h
  obtain ⟨wr, hp, hp'⟩ := rd_of (ws := (ws_Mo_isState cI cJ cZ q_this q_m q_saved q_w q_savedWords q_isSaved q_text q_far q_queue q_parent q_by q_seen q_path q_row q_more q_stateOf v_textLength v_steps v_missing v_mores v_hash v_m)) (wc := (ws_Mo_in cI cJ cZ)) [] rfl rfl
  refine r_SI (r := r) (As := [.int x1, .int (0 : Int32), .int ((v_m 0) - (1 : Int32))]) (rest := []) (wc' := (ws_Mo_in cI cJ cZ)) (ws' := (ws_Mo_isState cI cJ cZ q_this q_m q_saved q_w q_savedWords q_isSaved q_text q_far q_queue q_parent q_by q_seen q_path q_row q_more q_stateOf v_textLength v_steps v_missing v_mores v_hash v_m)) C0 w (c_Mo_in hcall) hp hp' lm_RX10_76 ms_Mo_in ⟨rfl, rfl⟩ ⟨by decide, by decide⟩ ⟨Nat.zero_le _, Nat.zero_le _⟩ rfl hl rfl (Nat.le_of_ble_eq_true rfl) dX10_isState_10 (fun H locs w => ?_)
  obtain ⟨hg, h⟩ := gB_h h
  cases h
  exact hQ _ _ _ _ dX10_isState_13 (gB_n hg) w
theorem dX10_isLetter_0 : decode cX10_isLetter 0 = .ok (.iload_n 1, 1) := by decide +kernel
theorem dX10_isLetter_1 : decode cX10_isLetter 1 = .ok (.iconst 0, 1) := by decide +kernel
theorem dX10_isLetter_2 : decode cX10_isLetter 2 = .ok (.aload_n 0, 1) := by decide +kernel
theorem dX10_isLetter_3 : decode cX10_isLetter 3 = .ok (.getfield 7, 3) := by decide +kernel
theorem dX10_isLetter_6 : decode cX10_isLetter 6 = .ok (.iconst 1, 1) := by decide +kernel
theorem dX10_isLetter_7 : decode cX10_isLetter 7 = .ok (.iaload, 1) := by decide +kernel
theorem dX10_isLetter_8 : decode cX10_isLetter 8 = .ok (.iconst 1, 1) := by decide +kernel
theorem dX10_isLetter_9 : decode cX10_isLetter 9 = .ok (.isub, 1) := by decide +kernel
theorem dX10_isLetter_10 : decode cX10_isLetter 10 = .ok (.invokestatic 76, 3) := by decide +kernel
theorem dX10_isLetter_13 : decode cX10_isLetter 13 = .ok (.ireturn, 1) := by decide +kernel
set_option maxRecDepth 100000 in
theorem c_Mo_isLetter {l : Launch} {D : va_G} {cI cJ cZ cO : ClassId} {q_this q_m q_saved q_w q_savedWords q_isSaved q_text q_far q_queue q_parent q_by q_seen q_path q_row q_more q_stateOf : Nat} {x1 : Int32} {v_textLength : Int32} {v_steps : Int32} {v_missing : Int64} {v_mores : Int32} {v_hash : Int64} {v_m : (Nat → Int32)} {x : Int32} (h : f_Mo_isLetter x1 v_m = some x) : ctI l D cI cJ cZ cO yX10_isLetter cX10_isLetter 2 .boolean rm_Mo_isLetter [.ref q_this, .int x1] (ws_Mo_isLetter cI cJ cZ q_this q_m q_saved q_w q_savedWords q_isSaved q_text q_far q_queue q_parent q_by q_seen q_path q_row q_more q_stateOf v_textLength v_steps v_missing v_mores v_hash v_m) (ws_Mo_isLetter cI cJ cZ q_this q_m q_saved q_w q_savedWords q_isSaved q_text q_far q_queue q_parent q_by q_seen q_path q_row q_more q_stateOf v_textLength v_steps v_missing v_mores v_hash v_m) x := by
  refine ctI_of (by decide) (Nat.le_of_ble_eq_true rfl) ?_
  intro p e s m below meth c Q A ls C0 hQ w hl
  have hl : lv_has ls 2 [(0, .ref q_this), (1, .int x1)] := hl
  generalize List.toArray (α := Value) [.ref q_this, .int x1] = args at C0 hQ ⊢
  obtain ⟨hx, hb, hml, hown, hts, -, -⟩ := id C0
  unfold f_Mo_isLetter at h
  refine lv_iload_n hx hb dX10_isLetter_0 rfl (lv_at hl 1 rfl) ?_
  refine lv_iconst (v := (0 : Int32)) hx hb dX10_isLetter_1 (by decide) ?_
  refine lv_aload_n hx hb dX10_isLetter_2 rfl (lv_at hl 0 rfl) ?_
  refine r_get C0 w 0 rfl kf_Mo 0 (by decide) lf_RX10_7 rfl dX10_isLetter_3 ?_
  refine lv_iconst (v := (1 : Int32)) hx hb dX10_isLetter_6 (by decide) ?_
  refine r_iald C0 w 1 rfl (k := 1) (by decide) (inl (by decide)) dX10_isLetter_7 ?_
  refine lv_iconst (v := (1 : Int32)) hx hb dX10_isLetter_8 (by decide) ?_
  refine lv_isub hx hb dX10_isLetter_9 ?_
  obtain ⟨r, hcall, h⟩ := bd1_h h
  obtain ⟨wr, hp, hp'⟩ := rd_of (ws := (ws_Mo_isLetter cI cJ cZ q_this q_m q_saved q_w q_savedWords q_isSaved q_text q_far q_queue q_parent q_by q_seen q_path q_row q_more q_stateOf v_textLength v_steps v_missing v_mores v_hash v_m)) (wc := (ws_Mo_in cI cJ cZ)) [] rfl rfl
  refine r_SI (r := r) (As := [.int x1, .int (0 : Int32), .int ((v_m 1) - (1 : Int32))]) (rest := []) (wc' := (ws_Mo_in cI cJ cZ)) (ws' := (ws_Mo_isLetter cI cJ cZ q_this q_m q_saved q_w q_savedWords q_isSaved q_text q_far q_queue q_parent q_by q_seen q_path q_row q_more q_stateOf v_textLength v_steps v_missing v_mores v_hash v_m)) C0 w (c_Mo_in hcall) hp hp' lm_RX10_76 ms_Mo_in ⟨rfl, rfl⟩ ⟨by decide, by decide⟩ ⟨Nat.zero_le _, Nat.zero_le _⟩ rfl hl rfl (Nat.le_of_ble_eq_true rfl) dX10_isLetter_10 (fun H locs w => ?_)
  obtain ⟨hg, h⟩ := gB_h h
  cases h
  exact hQ _ _ _ _ dX10_isLetter_13 (gB_n hg) w
theorem dX10_reset_0 : decode cX10_reset 0 = .ok (.iload_n 1, 1) := by decide +kernel
theorem dX10_reset_1 : decode cX10_reset 1 = .ok (.iconst 1, 1) := by decide +kernel
theorem dX10_reset_2 : decode cX10_reset 2 = .ok (.bipush 8, 2) := by decide +kernel
theorem dX10_reset_4 : decode cX10_reset 4 = .ok (.invokestatic 76, 3) := by decide +kernel
theorem dX10_reset_7 : decode cX10_reset 7 = .ok (.ifCond .eq 12, 3) := by decide +kernel
theorem dX10_reset_10 : decode cX10_reset 10 = .ok (.iload_n 2, 1) := by decide +kernel
theorem dX10_reset_11 : decode cX10_reset 11 = .ok (.iconst 1, 1) := by decide +kernel
theorem dX10_reset_12 : decode cX10_reset 12 = .ok (.iconst 3, 1) := by decide +kernel
theorem dX10_reset_13 : decode cX10_reset 13 = .ok (.invokestatic 76, 3) := by decide +kernel
theorem dX10_reset_16 : decode cX10_reset 16 = .ok (.ifCond .ne 6, 3) := by decide +kernel
theorem dX10_reset_19 : decode cX10_reset 19 = .ok (.bipush (-2), 2) := by decide +kernel
theorem dX10_reset_21 : decode cX10_reset 21 = .ok (.ireturn, 1) := by decide +kernel
theorem dX10_reset_22 : decode cX10_reset 22 = .ok (.aload_n 0, 1) := by decide +kernel
theorem dX10_reset_23 : decode cX10_reset 23 = .ok (.getfield 7, 3) := by decide +kernel
theorem dX10_reset_26 : decode cX10_reset 26 = .ok (.iconst 0, 1) := by decide +kernel
theorem dX10_reset_27 : decode cX10_reset 27 = .ok (.iload_n 1, 1) := by decide +kernel
theorem dX10_reset_28 : decode cX10_reset 28 = .ok (.iastore, 1) := by decide +kernel
theorem dX10_reset_29 : decode cX10_reset 29 = .ok (.aload_n 0, 1) := by decide +kernel
theorem dX10_reset_30 : decode cX10_reset 30 = .ok (.getfield 7, 3) := by decide +kernel
theorem dX10_reset_33 : decode cX10_reset 33 = .ok (.iconst 1, 1) := by decide +kernel
theorem dX10_reset_34 : decode cX10_reset 34 = .ok (.iload_n 2, 1) := by decide +kernel
theorem dX10_reset_35 : decode cX10_reset 35 = .ok (.iastore, 1) := by decide +kernel
theorem dX10_reset_36 : decode cX10_reset 36 = .ok (.aload_n 0, 1) := by decide +kernel
theorem dX10_reset_37 : decode cX10_reset 37 = .ok (.getfield 7, 3) := by decide +kernel
theorem dX10_reset_40 : decode cX10_reset 40 = .ok (.bipush 34, 2) := by decide +kernel
theorem dX10_reset_42 : decode cX10_reset 42 = .ok (.iconst 0, 1) := by decide +kernel
theorem dX10_reset_43 : decode cX10_reset 43 = .ok (.iastore, 1) := by decide +kernel
theorem dX10_reset_44 : decode cX10_reset 44 = .ok (.iconst 2, 1) := by decide +kernel
theorem dX10_reset_45 : decode cX10_reset 45 = .ok (.istore_n 3, 1) := by decide +kernel
theorem dX10_reset_46 : decode cX10_reset 46 = .ok (.iload_n 3, 1) := by decide +kernel
theorem dX10_reset_47 : decode cX10_reset 47 = .ok (.bipush 34, 2) := by decide +kernel
theorem dX10_reset_49 : decode cX10_reset 49 = .ok (.if_icmp .ge 16, 3) := by decide +kernel
theorem dX10_reset_52 : decode cX10_reset 52 = .ok (.aload_n 0, 1) := by decide +kernel
theorem dX10_reset_53 : decode cX10_reset 53 = .ok (.getfield 7, 3) := by decide +kernel
theorem dX10_reset_56 : decode cX10_reset 56 = .ok (.iload_n 3, 1) := by decide +kernel
theorem dX10_reset_57 : decode cX10_reset 57 = .ok (.iconst 0, 1) := by decide +kernel
theorem dX10_reset_58 : decode cX10_reset 58 = .ok (.iastore, 1) := by decide +kernel
theorem dX10_reset_59 : decode cX10_reset 59 = .ok (.iinc 3 1, 3) := by decide +kernel
theorem dX10_reset_62 : decode cX10_reset 62 = .ok (.goto (-16), 3) := by decide +kernel
theorem dX10_reset_65 : decode cX10_reset 65 = .ok (.aload_n 0, 1) := by decide +kernel
theorem dX10_reset_66 : decode cX10_reset 66 = .ok (.invokevirtual 57, 3) := by decide +kernel
theorem dX10_reset_69 : decode cX10_reset 69 = .ok (.iload_n 1, 1) := by decide +kernel
theorem dX10_reset_70 : decode cX10_reset 70 = .ok (.ireturn, 1) := by decide +kernel
set_option maxRecDepth 100000 in
theorem w_Mo_reset_L46 {p : Program} {l : Launch} {e : Env} {s : State} {m : MethodId} {args : Array Value} {below : List Frame} {meth : Method} {c : Code} {Q : State → Prop} {A : Nat → Prop} {D : va_G} {cI cJ cZ cO : ClassId} {q_this q_m q_saved q_w q_savedWords q_isSaved q_text q_far q_queue q_parent q_by q_seen q_path q_row q_more q_stateOf : Nat} {v_textLength : Int32} {v_steps : Int32} {v_missing : Int64} {v_mores : Int32} {v_hash : Int64} {v_w : (Nat → Int64)} {x1 : Int32} {x : Int32 × (Nat → Int32) × (Nat → Int64)} (C0 : Cx p s m args c A D cI cJ cZ cO cX10_reset 4 RX10) (hQ : RtI p l e rm_Mo_reset s m args below meth c Q A D cX10_reset .int (ws_Mo_reset cI cJ cZ q_this q_m q_saved q_w q_savedWords q_isSaved q_text q_far q_queue q_parent q_by q_seen q_path q_row q_more q_stateOf v_textLength v_steps v_missing v_mores v_hash x.2.1 x.2.2) x.1) {K : Int32 → (Nat → Int32) → Option (Int32 × (Nat → Int32) × (Nat → Int64))} (hK : ∀ (x3 : Int32) (v_m : (Nat → Int32)) (H : Heap) (locs : List Loc) (ls : Array Slot), K x3 v_m = some x → Wd s A D (ws_Mo_reset cI cJ cZ q_this q_m q_saved q_w q_savedWords q_isSaved q_text q_far q_queue q_parent q_by q_seen q_path q_row q_more q_stateOf v_textLength v_steps v_missing v_mores v_hash v_m v_w) H locs → lv_has ls 4 [(0, .ref q_this), (1, .int x1)] → W p l e rm_Mo_reset s m args below meth c H locs 0 0 Q (F0 m 65 ls [])) {rec : Int32 → (Nat → Int32) → Option (Int32 × (Nat → Int32) × (Nat → Int64))} (hrec : ∀ (x3 : Int32) (v_m : (Nat → Int32)) (H : Heap) (locs : List Loc) (ls : Array Slot), rec x3 v_m = some x → Wd s A D (ws_Mo_reset cI cJ cZ q_this q_m q_saved q_w q_savedWords q_isSaved q_text q_far q_queue q_parent q_by q_seen q_path q_row q_more q_stateOf v_textLength v_steps v_missing v_mores v_hash v_m v_w) H locs → lv_has ls 4 [(0, .ref q_this), (1, .int x1), (3, .int x3)] → W p l e rm_Mo_reset s m args below meth c H locs 0 0 Q (F0 m 46 ls [])) (x3 : Int32) (v_m : (Nat → Int32)) {H : Heap} {locs : List Loc} {ls : Array Slot} (h : f_Mo_reset_L46 K rec x3 v_m = some x) (w : Wd s A D (ws_Mo_reset cI cJ cZ q_this q_m q_saved q_w q_savedWords q_isSaved q_text q_far q_queue q_parent q_by q_seen q_path q_row q_more q_stateOf v_textLength v_steps v_missing v_mores v_hash v_m v_w) H locs) (hl : lv_has ls 4 [(0, .ref q_this), (1, .int x1), (3, .int x3)]) : W p l e rm_Mo_reset s m args below meth c H locs 0 0 Q (F0 m 46 ls []) := by
  obtain ⟨hx, hb, hml, hown, hts, -, -⟩ := id C0
  unfold f_Mo_reset_L46 at h
  refine lv_iload_n hx hb dX10_reset_46 rfl (lv_at hl 2 rfl) ?_
  refine lv_bipush (v := (34 : Int32)) hx hb dX10_reset_47 (by decide) ?_
  refine lv_icmp_ge (tgt := 65) hx hb dX10_reset_49 (by decide) (fun hc => ?_) (fun hc => ?_)
  · have h := if_h hc h
    exact hK _ _ _ _ _ h w (lv_sub hl [0, 1] rfl)
  · have h := nf_h hc h
    refine lv_aload_n hx hb dX10_reset_52 rfl (lv_at hl 0 rfl) ?_
    refine r_get C0 w 0 rfl kf_Mo 0 (by decide) lf_RX10_7 rfl dX10_reset_53 ?_
    refine lv_iload_n hx hb dX10_reset_56 rfl (lv_at hl 2 rfl) ?_
    refine lv_iconst (v := (0 : Int32)) hx hb dX10_reset_57 (by decide) ?_
    obtain ⟨hi, h⟩ := gIn_h h
    obtain ⟨v_m_1, ev_m_1⟩ : ∃ y, y = (upd v_m x3.toNatClampNeg (0 : Int32)) := ⟨_, rfl⟩
    have h := bnd_at ev_m_1 h
    refine r_iast C0 w 1 rfl (f' := v_m_1) rfl hi ev_m_1 dX10_reset_58 (ws' := (ws_Mo_reset cI cJ cZ q_this q_m q_saved q_w q_savedWords q_isSaved q_text q_far q_queue q_parent q_by q_seen q_path q_row q_more q_stateOf v_textLength v_steps v_missing v_mores v_hash v_m_1 v_w)) rfl (fun H locs w => ?_)
    obtain ⟨x3_1, ex3_1⟩ : ∃ y : Int32, y = (x3 + 1) := ⟨_, rfl⟩
    have h := bnd_at ex3_1 h
    refine lv_iinc (v := x3_1) (lv' := [(3, .int x3_1), (0, .ref q_this), (1, .int x1)]) hx hb dX10_reset_59 hl (k := 2) rfl (by rw [ex3_1]; rfl) (by decide) rfl (fun ls hl => ?_)
    refine lv_goto (tgt := 46) hx hb dX10_reset_62 (by decide) ?_
    exact hrec _ _ _ _ _ h w (lv_sub hl [1, 2, 0] rfl)
set_option maxRecDepth 100000 in
theorem wl_Mo_reset_L46 {p : Program} {l : Launch} {e : Env} {s : State} {m : MethodId} {args : Array Value} {below : List Frame} {meth : Method} {c : Code} {Q : State → Prop} {A : Nat → Prop} {D : va_G} {cI cJ cZ cO : ClassId} {q_this q_m q_saved q_w q_savedWords q_isSaved q_text q_far q_queue q_parent q_by q_seen q_path q_row q_more q_stateOf : Nat} {v_textLength : Int32} {v_steps : Int32} {v_missing : Int64} {v_mores : Int32} {v_hash : Int64} {v_w : (Nat → Int64)} {x1 : Int32} {x : Int32 × (Nat → Int32) × (Nat → Int64)} (C0 : Cx p s m args c A D cI cJ cZ cO cX10_reset 4 RX10) (hQ : RtI p l e rm_Mo_reset s m args below meth c Q A D cX10_reset .int (ws_Mo_reset cI cJ cZ q_this q_m q_saved q_w q_savedWords q_isSaved q_text q_far q_queue q_parent q_by q_seen q_path q_row q_more q_stateOf v_textLength v_steps v_missing v_mores v_hash x.2.1 x.2.2) x.1) {K : Int32 → (Nat → Int32) → Option (Int32 × (Nat → Int32) × (Nat → Int64))} (hK : ∀ (x3 : Int32) (v_m : (Nat → Int32)) (H : Heap) (locs : List Loc) (ls : Array Slot), K x3 v_m = some x → Wd s A D (ws_Mo_reset cI cJ cZ q_this q_m q_saved q_w q_savedWords q_isSaved q_text q_far q_queue q_parent q_by q_seen q_path q_row q_more q_stateOf v_textLength v_steps v_missing v_mores v_hash v_m v_w) H locs → lv_has ls 4 [(0, .ref q_this), (1, .int x1)] → W p l e rm_Mo_reset s m args below meth c H locs 0 0 Q (F0 m 65 ls [])) : ∀ (n : Nat) (x3 : Int32) (v_m : (Nat → Int32)) (H : Heap) (locs : List Loc) (ls : Array Slot), itr (fun _ _ => none) (f_Mo_reset_L46 K) n x3 v_m = some x → Wd s A D (ws_Mo_reset cI cJ cZ q_this q_m q_saved q_w q_savedWords q_isSaved q_text q_far q_queue q_parent q_by q_seen q_path q_row q_more q_stateOf v_textLength v_steps v_missing v_mores v_hash v_m v_w) H locs → lv_has ls 4 [(0, .ref q_this), (1, .int x1), (3, .int x3)] → W p l e rm_Mo_reset s m args below meth c H locs 0 0 Q (F0 m 46 ls []) := by
  intro n
  induction n with
  | zero => intro _ _ _ _ _ h; cases (show none = some _ from h)
  | succ n ih => intro _ _ _ _ _ h w hl; exact w_Mo_reset_L46 C0 hQ hK ih _ _ h w hl
set_option maxRecDepth 100000 in
theorem c_Mo_reset {l : Launch} {D : va_G} {cI cJ cZ cO : ClassId} {q_this q_m q_saved q_w q_savedWords q_isSaved q_text q_far q_queue q_parent q_by q_seen q_path q_row q_more q_stateOf : Nat} {x1 : Int32} {x2 : Int32} {v_textLength : Int32} {v_steps : Int32} {v_missing : Int64} {v_mores : Int32} {v_hash : Int64} {v_m : (Nat → Int32)} {v_w : (Nat → Int64)} {x : Int32 × (Nat → Int32) × (Nat → Int64)} (h : f_Mo_reset x1 x2 v_m v_w = some x) : ctI l D cI cJ cZ cO yX10_reset cX10_reset 4 .int rm_Mo_reset [.ref q_this, .int x1, .int x2] (ws_Mo_reset cI cJ cZ q_this q_m q_saved q_w q_savedWords q_isSaved q_text q_far q_queue q_parent q_by q_seen q_path q_row q_more q_stateOf v_textLength v_steps v_missing v_mores v_hash v_m v_w) (ws_Mo_reset cI cJ cZ q_this q_m q_saved q_w q_savedWords q_isSaved q_text q_far q_queue q_parent q_by q_seen q_path q_row q_more q_stateOf v_textLength v_steps v_missing v_mores v_hash x.2.1 x.2.2) x.1 := by
  refine ctI_of (by decide) (Nat.le_of_ble_eq_true rfl) ?_
  intro p e s m below meth c Q A ls C0 hQ w hl
  have hl : lv_has ls 4 [(0, .ref q_this), (1, .int x1), (2, .int x2)] := hl
  generalize List.toArray (α := Value) [.ref q_this, .int x1, .int x2] = args at C0 hQ ⊢
  obtain ⟨hx, hb, hml, hown, hts, -, -⟩ := id C0
  unfold f_Mo_reset at h
  refine lv_iload_n hx hb dX10_reset_0 rfl (lv_at hl 1 rfl) ?_
  refine lv_iconst (v := (1 : Int32)) hx hb dX10_reset_1 (by decide) ?_
  refine lv_bipush (v := (8 : Int32)) hx hb dX10_reset_2 (by decide) ?_
  obtain ⟨r, hcall, h⟩ := bd1_h h
  obtain ⟨wr, hp, hp'⟩ := rd_of (ws := (ws_Mo_reset cI cJ cZ q_this q_m q_saved q_w q_savedWords q_isSaved q_text q_far q_queue q_parent q_by q_seen q_path q_row q_more q_stateOf v_textLength v_steps v_missing v_mores v_hash v_m v_w)) (wc := (ws_Mo_in cI cJ cZ)) [] rfl rfl
  refine r_SI (r := r) (As := [.int x1, .int (1 : Int32), .int (8 : Int32)]) (rest := []) (wc' := (ws_Mo_in cI cJ cZ)) (ws' := (ws_Mo_reset cI cJ cZ q_this q_m q_saved q_w q_savedWords q_isSaved q_text q_far q_queue q_parent q_by q_seen q_path q_row q_more q_stateOf v_textLength v_steps v_missing v_mores v_hash v_m v_w)) C0 w (c_Mo_in hcall) hp hp' lm_RX10_76 ms_Mo_in ⟨rfl, rfl⟩ ⟨by decide, by decide⟩ ⟨Nat.zero_le _, Nat.zero_le _⟩ rfl hl rfl (Nat.le_of_ble_eq_true rfl) dX10_reset_4 (fun H locs w => ?_)
  refine lv_if_eq (tgt := 19) hx hb dX10_reset_7 (by decide) (fun hc => ?_) (fun hc => ?_)
  · have h := if_h hc h
    refine lv_bipush (v := (-2 : Int32)) hx hb dX10_reset_19 (by decide) ?_
    cases h
    exact hQ _ _ _ _ dX10_reset_21 rfl w
  · have h := nf_h hc h
    refine lv_iload_n hx hb dX10_reset_10 rfl (lv_at hl 2 rfl) ?_
    refine lv_iconst (v := (1 : Int32)) hx hb dX10_reset_11 (by decide) ?_
    refine lv_iconst (v := (3 : Int32)) hx hb dX10_reset_12 (by decide) ?_
    obtain ⟨r_1, hcall, h⟩ := bd1_h h
    obtain ⟨wr, hp, hp'⟩ := rd_of (ws := (ws_Mo_reset cI cJ cZ q_this q_m q_saved q_w q_savedWords q_isSaved q_text q_far q_queue q_parent q_by q_seen q_path q_row q_more q_stateOf v_textLength v_steps v_missing v_mores v_hash v_m v_w)) (wc := (ws_Mo_in cI cJ cZ)) [] rfl rfl
    refine r_SI (r := r_1) (As := [.int x2, .int (1 : Int32), .int (3 : Int32)]) (rest := []) (wc' := (ws_Mo_in cI cJ cZ)) (ws' := (ws_Mo_reset cI cJ cZ q_this q_m q_saved q_w q_savedWords q_isSaved q_text q_far q_queue q_parent q_by q_seen q_path q_row q_more q_stateOf v_textLength v_steps v_missing v_mores v_hash v_m v_w)) C0 w (c_Mo_in hcall) hp hp' lm_RX10_76 ms_Mo_in ⟨rfl, rfl⟩ ⟨by decide, by decide⟩ ⟨Nat.zero_le _, Nat.zero_le _⟩ rfl hl rfl (Nat.le_of_ble_eq_true rfl) dX10_reset_13 (fun H locs w => ?_)
    refine lv_if_ne (tgt := 22) hx hb dX10_reset_16 (by decide) (fun hc => ?_) (fun hc => ?_)
    · have h := nf_h hc h
      refine lv_aload_n hx hb dX10_reset_22 rfl (lv_at hl 0 rfl) ?_
      refine r_get C0 w 0 rfl kf_Mo 0 (by decide) lf_RX10_7 rfl dX10_reset_23 ?_
      refine lv_iconst (v := (0 : Int32)) hx hb dX10_reset_26 (by decide) ?_
      refine lv_iload_n hx hb dX10_reset_27 rfl (lv_at hl 1 rfl) ?_
      obtain ⟨v_m_1, ev_m_1⟩ : ∃ y, y = (upd v_m 0 x1) := ⟨_, rfl⟩
      have h := bnd_at ev_m_1 h
      refine r_iast C0 w 1 rfl (f' := v_m_1) (k := 0) (by decide) (inl (by decide)) ev_m_1 dX10_reset_28 (ws' := (ws_Mo_reset cI cJ cZ q_this q_m q_saved q_w q_savedWords q_isSaved q_text q_far q_queue q_parent q_by q_seen q_path q_row q_more q_stateOf v_textLength v_steps v_missing v_mores v_hash v_m_1 v_w)) rfl (fun H locs w => ?_)
      refine lv_aload_n hx hb dX10_reset_29 rfl (lv_at hl 0 rfl) ?_
      refine r_get C0 w 0 rfl kf_Mo 0 (by decide) lf_RX10_7 rfl dX10_reset_30 ?_
      refine lv_iconst (v := (1 : Int32)) hx hb dX10_reset_33 (by decide) ?_
      refine lv_iload_n hx hb dX10_reset_34 rfl (lv_at hl 2 rfl) ?_
      obtain ⟨v_m_2, ev_m_2⟩ : ∃ y, y = (upd v_m_1 1 x2) := ⟨_, rfl⟩
      have h := bnd_at ev_m_2 h
      refine r_iast C0 w 1 rfl (f' := v_m_2) (k := 1) (by decide) (inl (by decide)) ev_m_2 dX10_reset_35 (ws' := (ws_Mo_reset cI cJ cZ q_this q_m q_saved q_w q_savedWords q_isSaved q_text q_far q_queue q_parent q_by q_seen q_path q_row q_more q_stateOf v_textLength v_steps v_missing v_mores v_hash v_m_2 v_w)) rfl (fun H locs w => ?_)
      refine lv_aload_n hx hb dX10_reset_36 rfl (lv_at hl 0 rfl) ?_
      refine r_get C0 w 0 rfl kf_Mo 0 (by decide) lf_RX10_7 rfl dX10_reset_37 ?_
      refine lv_bipush (v := (34 : Int32)) hx hb dX10_reset_40 (by decide) ?_
      refine lv_iconst (v := (0 : Int32)) hx hb dX10_reset_42 (by decide) ?_
      obtain ⟨v_m_3, ev_m_3⟩ : ∃ y, y = (upd v_m_2 34 (0 : Int32)) := ⟨_, rfl⟩
      have h := bnd_at ev_m_3 h
      refine r_iast C0 w 1 rfl (f' := v_m_3) (k := 34) (by decide) (inl (by decide)) ev_m_3 dX10_reset_43 (ws' := (ws_Mo_reset cI cJ cZ q_this q_m q_saved q_w q_savedWords q_isSaved q_text q_far q_queue q_parent q_by q_seen q_path q_row q_more q_stateOf v_textLength v_steps v_missing v_mores v_hash v_m_3 v_w)) rfl (fun H locs w => ?_)
      refine lv_iconst (v := (2 : Int32)) hx hb dX10_reset_44 (by decide) ?_
      refine lv_istore_n (lv' := [(3, .int (2 : Int32)), (0, .ref q_this), (1, .int x1), (2, .int x2)]) hx hb dX10_reset_45 rfl hl (by decide) rfl (fun ls hl => ?_)
      refine wl_Mo_reset_L46 C0 hQ (fun x3 v_m_4 H locs ls h w hl => ?_) _ _ _ _ _ _ h w (lv_sub hl [1, 2, 0] rfl)
      refine lv_aload_n hx hb dX10_reset_65 rfl (lv_at hl 0 rfl) ?_
      obtain ⟨v_m_5, v_w_1, hcall, h⟩ := bd2_h h
      have hp := sp_of (ws := (ws_Mo_reset cI cJ cZ q_this q_m q_saved q_w q_savedWords q_isSaved q_text q_far q_queue q_parent q_by q_seen q_path q_row q_more q_stateOf v_textLength v_steps v_missing v_mores v_hash v_m_4 v_w)) (wc := (ws_Mo_begins cI cJ cZ q_this q_m q_saved q_w q_savedWords q_isSaved q_text q_far q_queue q_parent q_by q_seen q_path q_row q_more q_stateOf v_textLength v_steps v_missing v_mores v_hash v_m_4 v_w)) [0, 1, 2] [] rfl rfl
      have hp' : Rp (pk (ws_Mo_reset cI cJ cZ q_this q_m q_saved q_w q_savedWords q_isSaved q_text q_far q_queue q_parent q_by q_seen q_path q_row q_more q_stateOf v_textLength v_steps v_missing v_mores v_hash v_m_4 v_w) [] ++ (ws_Mo_begins cI cJ cZ q_this q_m q_saved q_w q_savedWords q_isSaved q_text q_far q_queue q_parent q_by q_seen q_path q_row q_more q_stateOf v_textLength v_steps v_missing v_mores v_hash v_m_5 v_w_1)) (ws_Mo_reset cI cJ cZ q_this q_m q_saved q_w q_savedWords q_isSaved q_text q_far q_queue q_parent q_by q_seen q_path q_row q_more q_stateOf v_textLength v_steps v_missing v_mores v_hash v_m_5 v_w_1) := ⟨[0, 1, 2], rfl, rfl⟩
      refine r_VV (As := []) (rest := []) (wc' := (ws_Mo_begins cI cJ cZ q_this q_m q_saved q_w q_savedWords q_isSaved q_text q_far q_queue q_parent q_by q_seen q_path q_row q_more q_stateOf v_textLength v_steps v_missing v_mores v_hash v_m_5 v_w_1)) (ws' := (ws_Mo_reset cI cJ cZ q_this q_m q_saved q_w q_savedWords q_isSaved q_text q_far q_queue q_parent q_by q_seen q_path q_row q_more q_stateOf v_textLength v_steps v_missing v_mores v_hash v_m_5 v_w_1)) C0 w (c_Mo_begins hcall) hp hp' lm_RX10_57 mv_Mo_begins ⟨rfl, rfl⟩ ⟨by decide, by decide⟩ ⟨Nat.zero_le _, Nat.zero_le _⟩ (q0 := 0) rfl rfl rfl rfl hl rfl (Nat.le_of_ble_eq_true rfl) dX10_reset_66 (fun H locs w => ?_)
      refine lv_iload_n hx hb dX10_reset_69 rfl (lv_at hl 1 rfl) ?_
      cases h
      exact hQ _ _ _ _ dX10_reset_70 rfl w
    · have h := if_h hc h
      refine lv_bipush (v := (-2 : Int32)) hx hb dX10_reset_19 (by decide) ?_
      cases h
      exact hQ _ _ _ _ dX10_reset_21 rfl w
theorem dX10_setMove_0 : decode cX10_setMove 0 = .ok (.aload_n 0, 1) := by decide +kernel
theorem dX10_setMove_1 : decode cX10_setMove 1 = .ok (.iload_n 1, 1) := by decide +kernel
theorem dX10_setMove_2 : decode cX10_setMove 2 = .ok (.invokevirtual 86, 3) := by decide +kernel
theorem dX10_setMove_5 : decode cX10_setMove 5 = .ok (.ifCond .eq 19, 3) := by decide +kernel
theorem dX10_setMove_8 : decode cX10_setMove 8 = .ok (.aload_n 0, 1) := by decide +kernel
theorem dX10_setMove_9 : decode cX10_setMove 9 = .ok (.iload_n 2, 1) := by decide +kernel
theorem dX10_setMove_10 : decode cX10_setMove 10 = .ok (.invokevirtual 90, 3) := by decide +kernel
theorem dX10_setMove_13 : decode cX10_setMove 13 = .ok (.ifCond .eq 11, 3) := by decide +kernel
theorem dX10_setMove_16 : decode cX10_setMove 16 = .ok (.aload_n 0, 1) := by decide +kernel
theorem dX10_setMove_17 : decode cX10_setMove 17 = .ok (.iload_n 3, 1) := by decide +kernel
theorem dX10_setMove_18 : decode cX10_setMove 18 = .ok (.invokevirtual 86, 3) := by decide +kernel
theorem dX10_setMove_21 : decode cX10_setMove 21 = .ok (.ifCond .ne 6, 3) := by decide +kernel
theorem dX10_setMove_24 : decode cX10_setMove 24 = .ok (.bipush (-2), 2) := by decide +kernel
theorem dX10_setMove_26 : decode cX10_setMove 26 = .ok (.ireturn, 1) := by decide +kernel
theorem dX10_setMove_27 : decode cX10_setMove 27 = .ok (.aload_n 0, 1) := by decide +kernel
theorem dX10_setMove_28 : decode cX10_setMove 28 = .ok (.getfield 7, 3) := by decide +kernel
theorem dX10_setMove_31 : decode cX10_setMove 31 = .ok (.iconst 2, 1) := by decide +kernel
theorem dX10_setMove_32 : decode cX10_setMove 32 = .ok (.iconst 3, 1) := by decide +kernel
theorem dX10_setMove_33 : decode cX10_setMove 33 = .ok (.iload_n 1, 1) := by decide +kernel
theorem dX10_setMove_34 : decode cX10_setMove 34 = .ok (.imul, 1) := by decide +kernel
theorem dX10_setMove_35 : decode cX10_setMove 35 = .ok (.iadd, 1) := by decide +kernel
theorem dX10_setMove_36 : decode cX10_setMove 36 = .ok (.iload_n 2, 1) := by decide +kernel
theorem dX10_setMove_37 : decode cX10_setMove 37 = .ok (.iadd, 1) := by decide +kernel
theorem dX10_setMove_38 : decode cX10_setMove 38 = .ok (.iaload, 1) := by decide +kernel
theorem dX10_setMove_39 : decode cX10_setMove 39 = .ok (.istore 4, 2) := by decide +kernel
theorem dX10_setMove_41 : decode cX10_setMove 41 = .ok (.aload_n 0, 1) := by decide +kernel
theorem dX10_setMove_42 : decode cX10_setMove 42 = .ok (.getfield 7, 3) := by decide +kernel
theorem dX10_setMove_45 : decode cX10_setMove 45 = .ok (.iconst 2, 1) := by decide +kernel
theorem dX10_setMove_46 : decode cX10_setMove 46 = .ok (.iconst 3, 1) := by decide +kernel
theorem dX10_setMove_47 : decode cX10_setMove 47 = .ok (.iload_n 1, 1) := by decide +kernel
theorem dX10_setMove_48 : decode cX10_setMove 48 = .ok (.imul, 1) := by decide +kernel
theorem dX10_setMove_49 : decode cX10_setMove 49 = .ok (.iadd, 1) := by decide +kernel
theorem dX10_setMove_50 : decode cX10_setMove 50 = .ok (.iload_n 2, 1) := by decide +kernel
theorem dX10_setMove_51 : decode cX10_setMove 51 = .ok (.iadd, 1) := by decide +kernel
theorem dX10_setMove_52 : decode cX10_setMove 52 = .ok (.iload_n 3, 1) := by decide +kernel
theorem dX10_setMove_53 : decode cX10_setMove 53 = .ok (.iastore, 1) := by decide +kernel
theorem dX10_setMove_54 : decode cX10_setMove 54 = .ok (.aload_n 0, 1) := by decide +kernel
theorem dX10_setMove_55 : decode cX10_setMove 55 = .ok (.invokevirtual 57, 3) := by decide +kernel
theorem dX10_setMove_58 : decode cX10_setMove 58 = .ok (.iload 4, 2) := by decide +kernel
theorem dX10_setMove_60 : decode cX10_setMove 60 = .ok (.ireturn, 1) := by decide +kernel
set_option maxRecDepth 100000 in
theorem c_Mo_setMove {l : Launch} {D : va_G} {cI cJ cZ cO : ClassId} {q_this q_m q_saved q_w q_savedWords q_isSaved q_text q_far q_queue q_parent q_by q_seen q_path q_row q_more q_stateOf : Nat} {x1 : Int32} {x2 : Int32} {x3 : Int32} {v_textLength : Int32} {v_steps : Int32} {v_missing : Int64} {v_mores : Int32} {v_hash : Int64} {v_m : (Nat → Int32)} {v_w : (Nat → Int64)} {x : Int32 × (Nat → Int32) × (Nat → Int64)} (h : f_Mo_setMove x1 x2 x3 v_m v_w = some x) : ctI l D cI cJ cZ cO yX10_setMove cX10_setMove 5 .int rm_Mo_setMove [.ref q_this, .int x1, .int x2, .int x3] (ws_Mo_setMove cI cJ cZ q_this q_m q_saved q_w q_savedWords q_isSaved q_text q_far q_queue q_parent q_by q_seen q_path q_row q_more q_stateOf v_textLength v_steps v_missing v_mores v_hash v_m v_w) (ws_Mo_setMove cI cJ cZ q_this q_m q_saved q_w q_savedWords q_isSaved q_text q_far q_queue q_parent q_by q_seen q_path q_row q_more q_stateOf v_textLength v_steps v_missing v_mores v_hash x.2.1 x.2.2) x.1 := by
  refine ctI_of (by decide) (Nat.le_of_ble_eq_true rfl) ?_
  intro p e s m below meth c Q A ls C0 hQ w hl
  have hl : lv_has ls 5 [(0, .ref q_this), (1, .int x1), (2, .int x2), (3, .int x3)] := hl
  generalize List.toArray (α := Value) [.ref q_this, .int x1, .int x2, .int x3] = args at C0 hQ ⊢
  obtain ⟨hx, hb, hml, hown, hts, -, -⟩ := id C0
  unfold f_Mo_setMove at h
  refine lv_aload_n hx hb dX10_setMove_0 rfl (lv_at hl 0 rfl) ?_
  refine lv_iload_n hx hb dX10_setMove_1 rfl (lv_at hl 1 rfl) ?_
  obtain ⟨r, hcall, h⟩ := bd1_h h
  obtain ⟨wr, hp, hp'⟩ := rd_of (ws := (ws_Mo_setMove cI cJ cZ q_this q_m q_saved q_w q_savedWords q_isSaved q_text q_far q_queue q_parent q_by q_seen q_path q_row q_more q_stateOf v_textLength v_steps v_missing v_mores v_hash v_m v_w)) (wc := (ws_Mo_isState cI cJ cZ q_this q_m q_saved q_w q_savedWords q_isSaved q_text q_far q_queue q_parent q_by q_seen q_path q_row q_more q_stateOf v_textLength v_steps v_missing v_mores v_hash v_m)) [0, 1] rfl rfl
  refine r_VI (r := r) (As := [.int x1]) (rest := []) (wc' := (ws_Mo_isState cI cJ cZ q_this q_m q_saved q_w q_savedWords q_isSaved q_text q_far q_queue q_parent q_by q_seen q_path q_row q_more q_stateOf v_textLength v_steps v_missing v_mores v_hash v_m)) (ws' := (ws_Mo_setMove cI cJ cZ q_this q_m q_saved q_w q_savedWords q_isSaved q_text q_far q_queue q_parent q_by q_seen q_path q_row q_more q_stateOf v_textLength v_steps v_missing v_mores v_hash v_m v_w)) C0 w (c_Mo_isState hcall) hp hp' lm_RX10_86 mv_Mo_isState ⟨rfl, rfl⟩ ⟨by decide, by decide⟩ ⟨Nat.zero_le _, Nat.zero_le _⟩ (q0 := 0) rfl rfl rfl rfl hl rfl (Nat.le_of_ble_eq_true rfl) dX10_setMove_2 (fun H locs w => ?_)
  refine lv_if_eq (tgt := 24) hx hb dX10_setMove_5 (by decide) (fun hc => ?_) (fun hc => ?_)
  · have h := if_h hc h
    refine lv_bipush (v := (-2 : Int32)) hx hb dX10_setMove_24 (by decide) ?_
    cases h
    exact hQ _ _ _ _ dX10_setMove_26 rfl w
  · have h := nf_h hc h
    refine lv_aload_n hx hb dX10_setMove_8 rfl (lv_at hl 0 rfl) ?_
    refine lv_iload_n hx hb dX10_setMove_9 rfl (lv_at hl 2 rfl) ?_
    obtain ⟨r_1, hcall, h⟩ := bd1_h h
    obtain ⟨wr, hp, hp'⟩ := rd_of (ws := (ws_Mo_setMove cI cJ cZ q_this q_m q_saved q_w q_savedWords q_isSaved q_text q_far q_queue q_parent q_by q_seen q_path q_row q_more q_stateOf v_textLength v_steps v_missing v_mores v_hash v_m v_w)) (wc := (ws_Mo_isLetter cI cJ cZ q_this q_m q_saved q_w q_savedWords q_isSaved q_text q_far q_queue q_parent q_by q_seen q_path q_row q_more q_stateOf v_textLength v_steps v_missing v_mores v_hash v_m)) [0, 1] rfl rfl
    refine r_VI (r := r_1) (As := [.int x2]) (rest := []) (wc' := (ws_Mo_isLetter cI cJ cZ q_this q_m q_saved q_w q_savedWords q_isSaved q_text q_far q_queue q_parent q_by q_seen q_path q_row q_more q_stateOf v_textLength v_steps v_missing v_mores v_hash v_m)) (ws' := (ws_Mo_setMove cI cJ cZ q_this q_m q_saved q_w q_savedWords q_isSaved q_text q_far q_queue q_parent q_by q_seen q_path q_row q_more q_stateOf v_textLength v_steps v_missing v_mores v_hash v_m v_w)) C0 w (c_Mo_isLetter hcall) hp hp' lm_RX10_90 mv_Mo_isLetter ⟨rfl, rfl⟩ ⟨by decide, by decide⟩ ⟨Nat.zero_le _, Nat.zero_le _⟩ (q0 := 0) rfl rfl rfl rfl hl rfl (Nat.le_of_ble_eq_true rfl) dX10_setMove_10 (fun H locs w => ?_)
    refine lv_if_eq (tgt := 24) hx hb dX10_setMove_13 (by decide) (fun hc => ?_) (fun hc => ?_)
    · have h := if_h hc h
      refine lv_bipush (v := (-2 : Int32)) hx hb dX10_setMove_24 (by decide) ?_
      cases h
      exact hQ _ _ _ _ dX10_setMove_26 rfl w
    · have h := nf_h hc h
      refine lv_aload_n hx hb dX10_setMove_16 rfl (lv_at hl 0 rfl) ?_
      refine lv_iload_n hx hb dX10_setMove_17 rfl (lv_at hl 3 rfl) ?_
      obtain ⟨r_2, hcall, h⟩ := bd1_h h
      obtain ⟨wr, hp, hp'⟩ := rd_of (ws := (ws_Mo_setMove cI cJ cZ q_this q_m q_saved q_w q_savedWords q_isSaved q_text q_far q_queue q_parent q_by q_seen q_path q_row q_more q_stateOf v_textLength v_steps v_missing v_mores v_hash v_m v_w)) (wc := (ws_Mo_isState cI cJ cZ q_this q_m q_saved q_w q_savedWords q_isSaved q_text q_far q_queue q_parent q_by q_seen q_path q_row q_more q_stateOf v_textLength v_steps v_missing v_mores v_hash v_m)) [0, 1] rfl rfl
      refine r_VI (r := r_2) (As := [.int x3]) (rest := []) (wc' := (ws_Mo_isState cI cJ cZ q_this q_m q_saved q_w q_savedWords q_isSaved q_text q_far q_queue q_parent q_by q_seen q_path q_row q_more q_stateOf v_textLength v_steps v_missing v_mores v_hash v_m)) (ws' := (ws_Mo_setMove cI cJ cZ q_this q_m q_saved q_w q_savedWords q_isSaved q_text q_far q_queue q_parent q_by q_seen q_path q_row q_more q_stateOf v_textLength v_steps v_missing v_mores v_hash v_m v_w)) C0 w (c_Mo_isState hcall) hp hp' lm_RX10_86 mv_Mo_isState ⟨rfl, rfl⟩ ⟨by decide, by decide⟩ ⟨Nat.zero_le _, Nat.zero_le _⟩ (q0 := 0) rfl rfl rfl rfl hl rfl (Nat.le_of_ble_eq_true rfl) dX10_setMove_18 (fun H locs w => ?_)
      refine lv_if_ne (tgt := 27) hx hb dX10_setMove_21 (by decide) (fun hc => ?_) (fun hc => ?_)
      · have h := nf_h hc h
        refine lv_aload_n hx hb dX10_setMove_27 rfl (lv_at hl 0 rfl) ?_
        refine r_get C0 w 0 rfl kf_Mo 0 (by decide) lf_RX10_7 rfl dX10_setMove_28 ?_
        refine lv_iconst (v := (2 : Int32)) hx hb dX10_setMove_31 (by decide) ?_
        refine lv_iconst (v := (3 : Int32)) hx hb dX10_setMove_32 (by decide) ?_
        refine lv_iload_n hx hb dX10_setMove_33 rfl (lv_at hl 1 rfl) ?_
        refine lv_imul hx hb dX10_setMove_34 ?_
        refine lv_iadd hx hb dX10_setMove_35 ?_
        refine lv_iload_n hx hb dX10_setMove_36 rfl (lv_at hl 2 rfl) ?_
        refine lv_iadd hx hb dX10_setMove_37 ?_
        obtain ⟨hi, h⟩ := gIn_h h
        refine r_iald C0 w 1 rfl rfl hi dX10_setMove_38 ?_
        refine lv_topi (fun x4 ex4 => ?_)
        have h := bnd_at ex4 h
        refine lv_istore (lv' := [(4, .int x4), (0, .ref q_this), (1, .int x1), (2, .int x2), (3, .int x3)]) hx hb dX10_setMove_39 hl (by decide) rfl (fun ls hl => ?_)
        refine lv_aload_n hx hb dX10_setMove_41 rfl (lv_at hl 1 rfl) ?_
        refine r_get C0 w 0 rfl kf_Mo 0 (by decide) lf_RX10_7 rfl dX10_setMove_42 ?_
        refine lv_iconst (v := (2 : Int32)) hx hb dX10_setMove_45 (by decide) ?_
        refine lv_iconst (v := (3 : Int32)) hx hb dX10_setMove_46 (by decide) ?_
        refine lv_iload_n hx hb dX10_setMove_47 rfl (lv_at hl 2 rfl) ?_
        refine lv_imul hx hb dX10_setMove_48 ?_
        refine lv_iadd hx hb dX10_setMove_49 ?_
        refine lv_iload_n hx hb dX10_setMove_50 rfl (lv_at hl 3 rfl) ?_
        refine lv_iadd hx hb dX10_setMove_51 ?_
        refine lv_iload_n hx hb dX10_setMove_52 rfl (lv_at hl 4 rfl) ?_
        obtain ⟨hi, h⟩ := gIn_h h
        obtain ⟨v_m_1, ev_m_1⟩ : ∃ y, y = (upd v_m (((2 : Int32) + ((3 : Int32) * x1)) + x2).toNatClampNeg x3) := ⟨_, rfl⟩
        have h := bnd_at ev_m_1 h
        refine r_iast C0 w 1 rfl (f' := v_m_1) rfl hi ev_m_1 dX10_setMove_53 (ws' := (ws_Mo_setMove cI cJ cZ q_this q_m q_saved q_w q_savedWords q_isSaved q_text q_far q_queue q_parent q_by q_seen q_path q_row q_more q_stateOf v_textLength v_steps v_missing v_mores v_hash v_m_1 v_w)) rfl (fun H locs w => ?_)
        refine lv_aload_n hx hb dX10_setMove_54 rfl (lv_at hl 1 rfl) ?_
        obtain ⟨v_m_2, v_w_1, hcall, h⟩ := bd2_h h
        have hp := sp_of (ws := (ws_Mo_setMove cI cJ cZ q_this q_m q_saved q_w q_savedWords q_isSaved q_text q_far q_queue q_parent q_by q_seen q_path q_row q_more q_stateOf v_textLength v_steps v_missing v_mores v_hash v_m_1 v_w)) (wc := (ws_Mo_begins cI cJ cZ q_this q_m q_saved q_w q_savedWords q_isSaved q_text q_far q_queue q_parent q_by q_seen q_path q_row q_more q_stateOf v_textLength v_steps v_missing v_mores v_hash v_m_1 v_w)) [0, 1, 2] [] rfl rfl
        have hp' : Rp (pk (ws_Mo_setMove cI cJ cZ q_this q_m q_saved q_w q_savedWords q_isSaved q_text q_far q_queue q_parent q_by q_seen q_path q_row q_more q_stateOf v_textLength v_steps v_missing v_mores v_hash v_m_1 v_w) [] ++ (ws_Mo_begins cI cJ cZ q_this q_m q_saved q_w q_savedWords q_isSaved q_text q_far q_queue q_parent q_by q_seen q_path q_row q_more q_stateOf v_textLength v_steps v_missing v_mores v_hash v_m_2 v_w_1)) (ws_Mo_setMove cI cJ cZ q_this q_m q_saved q_w q_savedWords q_isSaved q_text q_far q_queue q_parent q_by q_seen q_path q_row q_more q_stateOf v_textLength v_steps v_missing v_mores v_hash v_m_2 v_w_1) := ⟨[0, 1, 2], rfl, rfl⟩
        refine r_VV (As := []) (rest := []) (wc' := (ws_Mo_begins cI cJ cZ q_this q_m q_saved q_w q_savedWords q_isSaved q_text q_far q_queue q_parent q_by q_seen q_path q_row q_more q_stateOf v_textLength v_steps v_missing v_mores v_hash v_m_2 v_w_1)) (ws' := (ws_Mo_setMove cI cJ cZ q_this q_m q_saved q_w q_savedWords q_isSaved q_text q_far q_queue q_parent q_by q_seen q_path q_row q_more q_stateOf v_textLength v_steps v_missing v_mores v_hash v_m_2 v_w_1)) C0 w (c_Mo_begins hcall) hp hp' lm_RX10_57 mv_Mo_begins ⟨rfl, rfl⟩ ⟨by decide, by decide⟩ ⟨Nat.zero_le _, Nat.zero_le _⟩ (q0 := 0) rfl rfl rfl rfl hl rfl (Nat.le_of_ble_eq_true rfl) dX10_setMove_55 (fun H locs w => ?_)
        refine lv_iload hx hb dX10_setMove_58 (lv_at hl 0 rfl) ?_
        cases h
        exact hQ _ _ _ _ dX10_setMove_60 rfl w
      · have h := if_h hc h
        refine lv_bipush (v := (-2 : Int32)) hx hb dX10_setMove_24 (by decide) ?_
        cases h
        exact hQ _ _ _ _ dX10_setMove_26 rfl w
theorem dX10_finals_0 : decode cX10_finals 0 = .ok (.iconst 0, 1) := by decide +kernel
theorem dX10_finals_1 : decode cX10_finals 1 = .ok (.istore_n 1, 1) := by decide +kernel
theorem dX10_finals_2 : decode cX10_finals 2 = .ok (.iconst 0, 1) := by decide +kernel
theorem dX10_finals_3 : decode cX10_finals 3 = .ok (.istore_n 2, 1) := by decide +kernel
theorem dX10_finals_4 : decode cX10_finals 4 = .ok (.iload_n 2, 1) := by decide +kernel
theorem dX10_finals_5 : decode cX10_finals 5 = .ok (.aload_n 0, 1) := by decide +kernel
theorem dX10_finals_6 : decode cX10_finals 6 = .ok (.getfield 7, 3) := by decide +kernel
theorem dX10_finals_9 : decode cX10_finals 9 = .ok (.iconst 0, 1) := by decide +kernel
theorem dX10_finals_10 : decode cX10_finals 10 = .ok (.iaload, 1) := by decide +kernel
theorem dX10_finals_11 : decode cX10_finals 11 = .ok (.if_icmp .ge 21, 3) := by decide +kernel
theorem dX10_finals_14 : decode cX10_finals 14 = .ok (.iload_n 1, 1) := by decide +kernel
theorem dX10_finals_15 : decode cX10_finals 15 = .ok (.aload_n 0, 1) := by decide +kernel
theorem dX10_finals_16 : decode cX10_finals 16 = .ok (.getfield 7, 3) := by decide +kernel
theorem dX10_finals_19 : decode cX10_finals 19 = .ok (.bipush 26, 2) := by decide +kernel
theorem dX10_finals_21 : decode cX10_finals 21 = .ok (.iload_n 2, 1) := by decide +kernel
theorem dX10_finals_22 : decode cX10_finals 22 = .ok (.iadd, 1) := by decide +kernel
theorem dX10_finals_23 : decode cX10_finals 23 = .ok (.iaload, 1) := by decide +kernel
theorem dX10_finals_24 : decode cX10_finals 24 = .ok (.iadd, 1) := by decide +kernel
theorem dX10_finals_25 : decode cX10_finals 25 = .ok (.istore_n 1, 1) := by decide +kernel
theorem dX10_finals_26 : decode cX10_finals 26 = .ok (.iinc 2 1, 3) := by decide +kernel
theorem dX10_finals_29 : decode cX10_finals 29 = .ok (.goto (-25), 3) := by decide +kernel
theorem dX10_finals_32 : decode cX10_finals 32 = .ok (.iload_n 1, 1) := by decide +kernel
theorem dX10_finals_33 : decode cX10_finals 33 = .ok (.ireturn, 1) := by decide +kernel
set_option maxRecDepth 100000 in
theorem w_Mo_finals_L4 {p : Program} {l : Launch} {e : Env} {s : State} {m : MethodId} {args : Array Value} {below : List Frame} {meth : Method} {c : Code} {Q : State → Prop} {A : Nat → Prop} {D : va_G} {cI cJ cZ cO : ClassId} {q_this q_m q_saved q_w q_savedWords q_isSaved q_text q_far q_queue q_parent q_by q_seen q_path q_row q_more q_stateOf : Nat} {v_textLength : Int32} {v_steps : Int32} {v_missing : Int64} {v_mores : Int32} {v_hash : Int64} {v_m : (Nat → Int32)} {x : Int32} (C0 : Cx p s m args c A D cI cJ cZ cO cX10_finals 3 RX10) (hQ : RtI p l e rm_Mo_finals s m args below meth c Q A D cX10_finals .int (ws_Mo_finals cI cJ cZ q_this q_m q_saved q_w q_savedWords q_isSaved q_text q_far q_queue q_parent q_by q_seen q_path q_row q_more q_stateOf v_textLength v_steps v_missing v_mores v_hash v_m) x) {K : Int32 → Int32 → Option (Int32)} (hK : ∀ (x1 : Int32) (x2 : Int32) (H : Heap) (locs : List Loc) (ls : Array Slot), K x1 x2 = some x → Wd s A D (ws_Mo_finals cI cJ cZ q_this q_m q_saved q_w q_savedWords q_isSaved q_text q_far q_queue q_parent q_by q_seen q_path q_row q_more q_stateOf v_textLength v_steps v_missing v_mores v_hash v_m) H locs → lv_has ls 3 [(1, .int x1)] → W p l e rm_Mo_finals s m args below meth c H locs 0 0 Q (F0 m 32 ls [])) {rec : Int32 → Int32 → Option (Int32)} (hrec : ∀ (x1 : Int32) (x2 : Int32) (H : Heap) (locs : List Loc) (ls : Array Slot), rec x1 x2 = some x → Wd s A D (ws_Mo_finals cI cJ cZ q_this q_m q_saved q_w q_savedWords q_isSaved q_text q_far q_queue q_parent q_by q_seen q_path q_row q_more q_stateOf v_textLength v_steps v_missing v_mores v_hash v_m) H locs → lv_has ls 3 [(0, .ref q_this), (1, .int x1), (2, .int x2)] → W p l e rm_Mo_finals s m args below meth c H locs 0 0 Q (F0 m 4 ls [])) (x1 : Int32) (x2 : Int32) {H : Heap} {locs : List Loc} {ls : Array Slot} (h : f_Mo_finals_L4 v_m K rec x1 x2 = some x) (w : Wd s A D (ws_Mo_finals cI cJ cZ q_this q_m q_saved q_w q_savedWords q_isSaved q_text q_far q_queue q_parent q_by q_seen q_path q_row q_more q_stateOf v_textLength v_steps v_missing v_mores v_hash v_m) H locs) (hl : lv_has ls 3 [(0, .ref q_this), (1, .int x1), (2, .int x2)]) : W p l e rm_Mo_finals s m args below meth c H locs 0 0 Q (F0 m 4 ls []) := by
  obtain ⟨hx, hb, hml, hown, hts, -, -⟩ := id C0
  unfold f_Mo_finals_L4 at h
  refine lv_iload_n hx hb dX10_finals_4 rfl (lv_at hl 2 rfl) ?_
  refine lv_aload_n hx hb dX10_finals_5 rfl (lv_at hl 0 rfl) ?_
  refine r_get C0 w 0 rfl kf_Mo 0 (by decide) lf_RX10_7 rfl dX10_finals_6 ?_
  refine lv_iconst (v := (0 : Int32)) hx hb dX10_finals_9 (by decide) ?_
  refine r_iald C0 w 1 rfl (k := 0) (by decide) (inl (by decide)) dX10_finals_10 ?_
  refine lv_icmp_ge (tgt := 32) hx hb dX10_finals_11 (by decide) (fun hc => ?_) (fun hc => ?_)
  · have h := if_h hc h
    exact hK _ _ _ _ _ h w (lv_sub hl [1] rfl)
  · have h := nf_h hc h
    refine lv_iload_n hx hb dX10_finals_14 rfl (lv_at hl 1 rfl) ?_
    refine lv_aload_n hx hb dX10_finals_15 rfl (lv_at hl 0 rfl) ?_
    refine r_get C0 w 0 rfl kf_Mo 0 (by decide) lf_RX10_7 rfl dX10_finals_16 ?_
    refine lv_bipush (v := (26 : Int32)) hx hb dX10_finals_19 (by decide) ?_
    refine lv_iload_n hx hb dX10_finals_21 rfl (lv_at hl 2 rfl) ?_
    refine lv_iadd hx hb dX10_finals_22 ?_
    obtain ⟨hi, h⟩ := gIn_h h
    refine r_iald C0 w 1 rfl rfl hi dX10_finals_23 ?_
    refine lv_iadd hx hb dX10_finals_24 ?_
    refine lv_topi (fun x1_1 ex1_1 => ?_)
    have h := bnd_at ex1_1 h
    refine lv_istore_n (lv' := [(1, .int x1_1), (0, .ref q_this), (2, .int x2)]) hx hb dX10_finals_25 rfl hl (by decide) rfl (fun ls hl => ?_)
    obtain ⟨x2_1, ex2_1⟩ : ∃ y : Int32, y = (x2 + 1) := ⟨_, rfl⟩
    have h := bnd_at ex2_1 h
    refine lv_iinc (v := x2_1) (lv' := [(2, .int x2_1), (1, .int x1_1), (0, .ref q_this)]) hx hb dX10_finals_26 hl (k := 2) rfl (by rw [ex2_1]; rfl) (by decide) rfl (fun ls hl => ?_)
    refine lv_goto (tgt := 4) hx hb dX10_finals_29 (by decide) ?_
    exact hrec _ _ _ _ _ h w (lv_sub hl [2, 1, 0] rfl)
set_option maxRecDepth 100000 in
theorem wl_Mo_finals_L4 {p : Program} {l : Launch} {e : Env} {s : State} {m : MethodId} {args : Array Value} {below : List Frame} {meth : Method} {c : Code} {Q : State → Prop} {A : Nat → Prop} {D : va_G} {cI cJ cZ cO : ClassId} {q_this q_m q_saved q_w q_savedWords q_isSaved q_text q_far q_queue q_parent q_by q_seen q_path q_row q_more q_stateOf : Nat} {v_textLength : Int32} {v_steps : Int32} {v_missing : Int64} {v_mores : Int32} {v_hash : Int64} {v_m : (Nat → Int32)} {x : Int32} (C0 : Cx p s m args c A D cI cJ cZ cO cX10_finals 3 RX10) (hQ : RtI p l e rm_Mo_finals s m args below meth c Q A D cX10_finals .int (ws_Mo_finals cI cJ cZ q_this q_m q_saved q_w q_savedWords q_isSaved q_text q_far q_queue q_parent q_by q_seen q_path q_row q_more q_stateOf v_textLength v_steps v_missing v_mores v_hash v_m) x) {K : Int32 → Int32 → Option (Int32)} (hK : ∀ (x1 : Int32) (x2 : Int32) (H : Heap) (locs : List Loc) (ls : Array Slot), K x1 x2 = some x → Wd s A D (ws_Mo_finals cI cJ cZ q_this q_m q_saved q_w q_savedWords q_isSaved q_text q_far q_queue q_parent q_by q_seen q_path q_row q_more q_stateOf v_textLength v_steps v_missing v_mores v_hash v_m) H locs → lv_has ls 3 [(1, .int x1)] → W p l e rm_Mo_finals s m args below meth c H locs 0 0 Q (F0 m 32 ls [])) : ∀ (n : Nat) (x1 : Int32) (x2 : Int32) (H : Heap) (locs : List Loc) (ls : Array Slot), itr (fun _ _ => none) (f_Mo_finals_L4 v_m K) n x1 x2 = some x → Wd s A D (ws_Mo_finals cI cJ cZ q_this q_m q_saved q_w q_savedWords q_isSaved q_text q_far q_queue q_parent q_by q_seen q_path q_row q_more q_stateOf v_textLength v_steps v_missing v_mores v_hash v_m) H locs → lv_has ls 3 [(0, .ref q_this), (1, .int x1), (2, .int x2)] → W p l e rm_Mo_finals s m args below meth c H locs 0 0 Q (F0 m 4 ls []) := by
  intro n
  induction n with
  | zero => intro _ _ _ _ _ h; cases (show none = some _ from h)
  | succ n ih => intro _ _ _ _ _ h w hl; exact w_Mo_finals_L4 C0 hQ hK ih _ _ h w hl
set_option maxRecDepth 100000 in
theorem c_Mo_finals {l : Launch} {D : va_G} {cI cJ cZ cO : ClassId} {q_this q_m q_saved q_w q_savedWords q_isSaved q_text q_far q_queue q_parent q_by q_seen q_path q_row q_more q_stateOf : Nat} {v_textLength : Int32} {v_steps : Int32} {v_missing : Int64} {v_mores : Int32} {v_hash : Int64} {v_m : (Nat → Int32)} {x : Int32} (h : f_Mo_finals v_m = some x) : ctI l D cI cJ cZ cO yX10_finals cX10_finals 3 .int rm_Mo_finals [.ref q_this] (ws_Mo_finals cI cJ cZ q_this q_m q_saved q_w q_savedWords q_isSaved q_text q_far q_queue q_parent q_by q_seen q_path q_row q_more q_stateOf v_textLength v_steps v_missing v_mores v_hash v_m) (ws_Mo_finals cI cJ cZ q_this q_m q_saved q_w q_savedWords q_isSaved q_text q_far q_queue q_parent q_by q_seen q_path q_row q_more q_stateOf v_textLength v_steps v_missing v_mores v_hash v_m) x := by
  refine ctI_of (by decide) (Nat.le_of_ble_eq_true rfl) ?_
  intro p e s m below meth c Q A ls C0 hQ w hl
  have hl : lv_has ls 3 [(0, .ref q_this)] := hl
  generalize List.toArray (α := Value) [.ref q_this] = args at C0 hQ ⊢
  obtain ⟨hx, hb, hml, hown, hts, -, -⟩ := id C0
  unfold f_Mo_finals at h
  refine lv_iconst (v := (0 : Int32)) hx hb dX10_finals_0 (by decide) ?_
  refine lv_istore_n (lv' := [(1, .int (0 : Int32)), (0, .ref q_this)]) hx hb dX10_finals_1 rfl hl (by decide) rfl (fun ls hl => ?_)
  refine lv_iconst (v := (0 : Int32)) hx hb dX10_finals_2 (by decide) ?_
  refine lv_istore_n (lv' := [(2, .int (0 : Int32)), (1, .int (0 : Int32)), (0, .ref q_this)]) hx hb dX10_finals_3 rfl hl (by decide) rfl (fun ls hl => ?_)
  refine wl_Mo_finals_L4 C0 hQ (fun x1 x2 H locs ls h w hl => ?_) _ _ _ _ _ _ h w (lv_sub hl [2, 1, 0] rfl)
  refine lv_iload_n hx hb dX10_finals_32 rfl (lv_at hl 0 rfl) ?_
  cases h
  exact hQ _ _ _ _ dX10_finals_33 rfl w
theorem dX10_setFinal_0 : decode cX10_setFinal 0 = .ok (.aload_n 0, 1) := by decide +kernel
theorem dX10_setFinal_1 : decode cX10_setFinal 1 = .ok (.iload_n 1, 1) := by decide +kernel
theorem dX10_setFinal_2 : decode cX10_setFinal 2 = .ok (.invokevirtual 86, 3) := by decide +kernel
theorem dX10_setFinal_5 : decode cX10_setFinal 5 = .ok (.ifCond .ne 6, 3) := by decide +kernel
theorem dX10_setFinal_8 : decode cX10_setFinal 8 = .ok (.bipush (-2), 2) := by decide +kernel
theorem dX10_setFinal_10 : decode cX10_setFinal 10 = .ok (.ireturn, 1) := by decide +kernel
theorem dX10_setFinal_11 : decode cX10_setFinal 11 = .ok (.aload_n 0, 1) := by decide +kernel
theorem dX10_setFinal_12 : decode cX10_setFinal 12 = .ok (.getfield 7, 3) := by decide +kernel
theorem dX10_setFinal_15 : decode cX10_setFinal 15 = .ok (.bipush 26, 2) := by decide +kernel
theorem dX10_setFinal_17 : decode cX10_setFinal 17 = .ok (.iload_n 1, 1) := by decide +kernel
theorem dX10_setFinal_18 : decode cX10_setFinal 18 = .ok (.iadd, 1) := by decide +kernel
theorem dX10_setFinal_19 : decode cX10_setFinal 19 = .ok (.iaload, 1) := by decide +kernel
theorem dX10_setFinal_20 : decode cX10_setFinal 20 = .ok (.iload_n 2, 1) := by decide +kernel
theorem dX10_setFinal_21 : decode cX10_setFinal 21 = .ok (.ifCond .eq 7, 3) := by decide +kernel
theorem dX10_setFinal_24 : decode cX10_setFinal 24 = .ok (.iconst 1, 1) := by decide +kernel
theorem dX10_setFinal_25 : decode cX10_setFinal 25 = .ok (.goto 4, 3) := by decide +kernel
theorem dX10_setFinal_28 : decode cX10_setFinal 28 = .ok (.iconst 0, 1) := by decide +kernel
theorem dX10_setFinal_29 : decode cX10_setFinal 29 = .ok (.if_icmp .ne 6, 3) := by decide +kernel
theorem dX10_setFinal_32 : decode cX10_setFinal 32 = .ok (.bipush (-3), 2) := by decide +kernel
theorem dX10_setFinal_34 : decode cX10_setFinal 34 = .ok (.ireturn, 1) := by decide +kernel
theorem dX10_setFinal_35 : decode cX10_setFinal 35 = .ok (.aload_n 0, 1) := by decide +kernel
theorem dX10_setFinal_36 : decode cX10_setFinal 36 = .ok (.getfield 7, 3) := by decide +kernel
theorem dX10_setFinal_39 : decode cX10_setFinal 39 = .ok (.bipush 26, 2) := by decide +kernel
theorem dX10_setFinal_41 : decode cX10_setFinal 41 = .ok (.iload_n 1, 1) := by decide +kernel
theorem dX10_setFinal_42 : decode cX10_setFinal 42 = .ok (.iadd, 1) := by decide +kernel
theorem dX10_setFinal_43 : decode cX10_setFinal 43 = .ok (.iload_n 2, 1) := by decide +kernel
theorem dX10_setFinal_44 : decode cX10_setFinal 44 = .ok (.ifCond .eq 7, 3) := by decide +kernel
theorem dX10_setFinal_47 : decode cX10_setFinal 47 = .ok (.iconst 1, 1) := by decide +kernel
theorem dX10_setFinal_48 : decode cX10_setFinal 48 = .ok (.goto 4, 3) := by decide +kernel
theorem dX10_setFinal_51 : decode cX10_setFinal 51 = .ok (.iconst 0, 1) := by decide +kernel
theorem dX10_setFinal_52 : decode cX10_setFinal 52 = .ok (.iastore, 1) := by decide +kernel
theorem dX10_setFinal_53 : decode cX10_setFinal 53 = .ok (.aload_n 0, 1) := by decide +kernel
theorem dX10_setFinal_54 : decode cX10_setFinal 54 = .ok (.invokevirtual 57, 3) := by decide +kernel
theorem dX10_setFinal_57 : decode cX10_setFinal 57 = .ok (.aload_n 0, 1) := by decide +kernel
theorem dX10_setFinal_58 : decode cX10_setFinal 58 = .ok (.invokevirtual 93, 3) := by decide +kernel
theorem dX10_setFinal_61 : decode cX10_setFinal 61 = .ok (.ireturn, 1) := by decide +kernel
set_option maxRecDepth 100000 in
theorem c_Mo_setFinal {l : Launch} {D : va_G} {cI cJ cZ cO : ClassId} {q_this q_m q_saved q_w q_savedWords q_isSaved q_text q_far q_queue q_parent q_by q_seen q_path q_row q_more q_stateOf : Nat} {x1 : Int32} {x2 : Int32} {v_textLength : Int32} {v_steps : Int32} {v_missing : Int64} {v_mores : Int32} {v_hash : Int64} {v_m : (Nat → Int32)} {v_w : (Nat → Int64)} {x : Int32 × (Nat → Int32) × (Nat → Int64)} (h : f_Mo_setFinal x1 x2 v_m v_w = some x) : ctI l D cI cJ cZ cO yX10_setFinal cX10_setFinal 3 .int rm_Mo_setFinal [.ref q_this, .int x1, .int x2] (ws_Mo_setFinal cI cJ cZ q_this q_m q_saved q_w q_savedWords q_isSaved q_text q_far q_queue q_parent q_by q_seen q_path q_row q_more q_stateOf v_textLength v_steps v_missing v_mores v_hash v_m v_w) (ws_Mo_setFinal cI cJ cZ q_this q_m q_saved q_w q_savedWords q_isSaved q_text q_far q_queue q_parent q_by q_seen q_path q_row q_more q_stateOf v_textLength v_steps v_missing v_mores v_hash x.2.1 x.2.2) x.1 := by
  refine ctI_of (by decide) (Nat.le_of_ble_eq_true rfl) ?_
  intro p e s m below meth c Q A ls C0 hQ w hl
  have hl : lv_has ls 3 [(0, .ref q_this), (1, .int x1), (2, .int x2)] := hl
  generalize List.toArray (α := Value) [.ref q_this, .int x1, .int x2] = args at C0 hQ ⊢
  obtain ⟨hx, hb, hml, hown, hts, -, -⟩ := id C0
  unfold f_Mo_setFinal at h
  refine lv_aload_n hx hb dX10_setFinal_0 rfl (lv_at hl 0 rfl) ?_
  refine lv_iload_n hx hb dX10_setFinal_1 rfl (lv_at hl 1 rfl) ?_
  obtain ⟨r, hcall, h⟩ := bd1_h h
  obtain ⟨wr, hp, hp'⟩ := rd_of (ws := (ws_Mo_setFinal cI cJ cZ q_this q_m q_saved q_w q_savedWords q_isSaved q_text q_far q_queue q_parent q_by q_seen q_path q_row q_more q_stateOf v_textLength v_steps v_missing v_mores v_hash v_m v_w)) (wc := (ws_Mo_isState cI cJ cZ q_this q_m q_saved q_w q_savedWords q_isSaved q_text q_far q_queue q_parent q_by q_seen q_path q_row q_more q_stateOf v_textLength v_steps v_missing v_mores v_hash v_m)) [0, 1] rfl rfl
  refine r_VI (r := r) (As := [.int x1]) (rest := []) (wc' := (ws_Mo_isState cI cJ cZ q_this q_m q_saved q_w q_savedWords q_isSaved q_text q_far q_queue q_parent q_by q_seen q_path q_row q_more q_stateOf v_textLength v_steps v_missing v_mores v_hash v_m)) (ws' := (ws_Mo_setFinal cI cJ cZ q_this q_m q_saved q_w q_savedWords q_isSaved q_text q_far q_queue q_parent q_by q_seen q_path q_row q_more q_stateOf v_textLength v_steps v_missing v_mores v_hash v_m v_w)) C0 w (c_Mo_isState hcall) hp hp' lm_RX10_86 mv_Mo_isState ⟨rfl, rfl⟩ ⟨by decide, by decide⟩ ⟨Nat.zero_le _, Nat.zero_le _⟩ (q0 := 0) rfl rfl rfl rfl hl rfl (Nat.le_of_ble_eq_true rfl) dX10_setFinal_2 (fun H locs w => ?_)
  refine lv_if_ne (tgt := 11) hx hb dX10_setFinal_5 (by decide) (fun hc => ?_) (fun hc => ?_)
  · have h := nf_h hc h
    refine lv_aload_n hx hb dX10_setFinal_11 rfl (lv_at hl 0 rfl) ?_
    refine r_get C0 w 0 rfl kf_Mo 0 (by decide) lf_RX10_7 rfl dX10_setFinal_12 ?_
    refine lv_bipush (v := (26 : Int32)) hx hb dX10_setFinal_15 (by decide) ?_
    refine lv_iload_n hx hb dX10_setFinal_17 rfl (lv_at hl 1 rfl) ?_
    refine lv_iadd hx hb dX10_setFinal_18 ?_
    obtain ⟨hi, h⟩ := gIn_h h
    refine r_iald C0 w 1 rfl rfl hi dX10_setFinal_19 ?_
    refine lv_iload_n hx hb dX10_setFinal_20 rfl (lv_at hl 2 rfl) ?_
    obtain ⟨t, et⟩ : ∃ y : Int32, y = (if x2 = 0 then (0 : Int32) else (1 : Int32)) := ⟨_, rfl⟩
    have h := bnd_at et h
    have J : W p l e rm_Mo_setFinal s m args below meth c H locs 0 0 Q (F0 m 29 ls [.int t, .int (v_m ((26 : Int32) + x1).toNatClampNeg)]) := by
      refine lv_icmp_ne (tgt := 35) hx hb dX10_setFinal_29 (by decide) (fun hc => ?_) (fun hc => ?_)
      · have h := nf_h hc h
        refine lv_aload_n hx hb dX10_setFinal_35 rfl (lv_at hl 0 rfl) ?_
        refine r_get C0 w 0 rfl kf_Mo 0 (by decide) lf_RX10_7 rfl dX10_setFinal_36 ?_
        refine lv_bipush (v := (26 : Int32)) hx hb dX10_setFinal_39 (by decide) ?_
        refine lv_iload_n hx hb dX10_setFinal_41 rfl (lv_at hl 1 rfl) ?_
        refine lv_iadd hx hb dX10_setFinal_42 ?_
        refine lv_iload_n hx hb dX10_setFinal_43 rfl (lv_at hl 2 rfl) ?_
        obtain ⟨t_1, et_1⟩ : ∃ y : Int32, y = (if x2 = 0 then (0 : Int32) else (1 : Int32)) := ⟨_, rfl⟩
        have h := bnd_at et_1 h
        have J : W p l e rm_Mo_setFinal s m args below meth c H locs 0 0 Q (F0 m 52 ls [.int t_1, .int ((26 : Int32) + x1), .ref q_m]) := by
          obtain ⟨hi, h⟩ := gIn_h h
          obtain ⟨v_m_1, ev_m_1⟩ : ∃ y, y = (upd v_m ((26 : Int32) + x1).toNatClampNeg t_1) := ⟨_, rfl⟩
          have h := bnd_at ev_m_1 h
          refine r_iast C0 w 1 rfl (f' := v_m_1) rfl hi ev_m_1 dX10_setFinal_52 (ws' := (ws_Mo_setFinal cI cJ cZ q_this q_m q_saved q_w q_savedWords q_isSaved q_text q_far q_queue q_parent q_by q_seen q_path q_row q_more q_stateOf v_textLength v_steps v_missing v_mores v_hash v_m_1 v_w)) rfl (fun H locs w => ?_)
          refine lv_aload_n hx hb dX10_setFinal_53 rfl (lv_at hl 0 rfl) ?_
          obtain ⟨v_m_2, v_w_1, hcall, h⟩ := bd2_h h
          have hp := sp_of (ws := (ws_Mo_setFinal cI cJ cZ q_this q_m q_saved q_w q_savedWords q_isSaved q_text q_far q_queue q_parent q_by q_seen q_path q_row q_more q_stateOf v_textLength v_steps v_missing v_mores v_hash v_m_1 v_w)) (wc := (ws_Mo_begins cI cJ cZ q_this q_m q_saved q_w q_savedWords q_isSaved q_text q_far q_queue q_parent q_by q_seen q_path q_row q_more q_stateOf v_textLength v_steps v_missing v_mores v_hash v_m_1 v_w)) [0, 1, 2] [] rfl rfl
          have hp' : Rp (pk (ws_Mo_setFinal cI cJ cZ q_this q_m q_saved q_w q_savedWords q_isSaved q_text q_far q_queue q_parent q_by q_seen q_path q_row q_more q_stateOf v_textLength v_steps v_missing v_mores v_hash v_m_1 v_w) [] ++ (ws_Mo_begins cI cJ cZ q_this q_m q_saved q_w q_savedWords q_isSaved q_text q_far q_queue q_parent q_by q_seen q_path q_row q_more q_stateOf v_textLength v_steps v_missing v_mores v_hash v_m_2 v_w_1)) (ws_Mo_setFinal cI cJ cZ q_this q_m q_saved q_w q_savedWords q_isSaved q_text q_far q_queue q_parent q_by q_seen q_path q_row q_more q_stateOf v_textLength v_steps v_missing v_mores v_hash v_m_2 v_w_1) := ⟨[0, 1, 2], rfl, rfl⟩
          refine r_VV (As := []) (rest := []) (wc' := (ws_Mo_begins cI cJ cZ q_this q_m q_saved q_w q_savedWords q_isSaved q_text q_far q_queue q_parent q_by q_seen q_path q_row q_more q_stateOf v_textLength v_steps v_missing v_mores v_hash v_m_2 v_w_1)) (ws' := (ws_Mo_setFinal cI cJ cZ q_this q_m q_saved q_w q_savedWords q_isSaved q_text q_far q_queue q_parent q_by q_seen q_path q_row q_more q_stateOf v_textLength v_steps v_missing v_mores v_hash v_m_2 v_w_1)) C0 w (c_Mo_begins hcall) hp hp' lm_RX10_57 mv_Mo_begins ⟨rfl, rfl⟩ ⟨by decide, by decide⟩ ⟨Nat.zero_le _, Nat.zero_le _⟩ (q0 := 0) rfl rfl rfl rfl hl rfl (Nat.le_of_ble_eq_true rfl) dX10_setFinal_54 (fun H locs w => ?_)
          refine lv_aload_n hx hb dX10_setFinal_57 rfl (lv_at hl 0 rfl) ?_
          obtain ⟨r_1, hcall, h⟩ := bd1_h h
          obtain ⟨wr, hp, hp'⟩ := rd_of (ws := (ws_Mo_setFinal cI cJ cZ q_this q_m q_saved q_w q_savedWords q_isSaved q_text q_far q_queue q_parent q_by q_seen q_path q_row q_more q_stateOf v_textLength v_steps v_missing v_mores v_hash v_m_2 v_w_1)) (wc := (ws_Mo_finals cI cJ cZ q_this q_m q_saved q_w q_savedWords q_isSaved q_text q_far q_queue q_parent q_by q_seen q_path q_row q_more q_stateOf v_textLength v_steps v_missing v_mores v_hash v_m_2)) [0, 1] rfl rfl
          refine r_VI (r := r_1) (As := []) (rest := []) (wc' := (ws_Mo_finals cI cJ cZ q_this q_m q_saved q_w q_savedWords q_isSaved q_text q_far q_queue q_parent q_by q_seen q_path q_row q_more q_stateOf v_textLength v_steps v_missing v_mores v_hash v_m_2)) (ws' := (ws_Mo_setFinal cI cJ cZ q_this q_m q_saved q_w q_savedWords q_isSaved q_text q_far q_queue q_parent q_by q_seen q_path q_row q_more q_stateOf v_textLength v_steps v_missing v_mores v_hash v_m_2 v_w_1)) C0 w (c_Mo_finals hcall) hp hp' lm_RX10_93 mv_Mo_finals ⟨rfl, rfl⟩ ⟨by decide, by decide⟩ ⟨Nat.zero_le _, Nat.zero_le _⟩ (q0 := 0) rfl rfl rfl rfl hl rfl (Nat.le_of_ble_eq_true rfl) dX10_setFinal_58 (fun H locs w => ?_)
          cases h
          exact hQ _ _ _ _ dX10_setFinal_61 rfl w
        refine lv_if_eq (tgt := 51) hx hb dX10_setFinal_44 (by decide) (fun hc => ?_) (fun hc => ?_)
        · refine lv_iconst (v := (0 : Int32)) hx hb dX10_setFinal_51 (by decide) ?_
          exact r_eqi (et_1.trans (if_pos hc)) J
        · refine lv_iconst (v := (1 : Int32)) hx hb dX10_setFinal_47 (by decide) ?_
          refine lv_goto (tgt := 52) hx hb dX10_setFinal_48 (by decide) ?_
          exact r_eqi (et_1.trans (if_neg hc)) J
      · have h := if_h hc h
        refine lv_bipush (v := (-3 : Int32)) hx hb dX10_setFinal_32 (by decide) ?_
        cases h
        exact hQ _ _ _ _ dX10_setFinal_34 rfl w
    refine lv_if_eq (tgt := 28) hx hb dX10_setFinal_21 (by decide) (fun hc => ?_) (fun hc => ?_)
    · refine lv_iconst (v := (0 : Int32)) hx hb dX10_setFinal_28 (by decide) ?_
      exact r_eqi (et.trans (if_pos hc)) J
    · refine lv_iconst (v := (1 : Int32)) hx hb dX10_setFinal_24 (by decide) ?_
      refine lv_goto (tgt := 29) hx hb dX10_setFinal_25 (by decide) ?_
      exact r_eqi (et.trans (if_neg hc)) J
  · have h := if_h hc h
    refine lv_bipush (v := (-2 : Int32)) hx hb dX10_setFinal_8 (by decide) ?_
    cases h
    exact hQ _ _ _ _ dX10_setFinal_10 rfl w
theorem dX10_lieOf_0 : decode cX10_lieOf 0 = .ok (.iconst 0, 1) := by decide +kernel
theorem dX10_lieOf_1 : decode cX10_lieOf 1 = .ok (.istore_n 3, 1) := by decide +kernel
theorem dX10_lieOf_2 : decode cX10_lieOf 2 = .ok (.iload_n 3, 1) := by decide +kernel
theorem dX10_lieOf_3 : decode cX10_lieOf 3 = .ok (.aload_n 0, 1) := by decide +kernel
theorem dX10_lieOf_4 : decode cX10_lieOf 4 = .ok (.getfield 7, 3) := by decide +kernel
theorem dX10_lieOf_7 : decode cX10_lieOf 7 = .ok (.bipush 34, 2) := by decide +kernel
theorem dX10_lieOf_9 : decode cX10_lieOf 9 = .ok (.iaload, 1) := by decide +kernel
theorem dX10_lieOf_10 : decode cX10_lieOf 10 = .ok (.if_icmp .ge 22, 3) := by decide +kernel
theorem dX10_lieOf_13 : decode cX10_lieOf 13 = .ok (.aload_n 0, 1) := by decide +kernel
theorem dX10_lieOf_14 : decode cX10_lieOf 14 = .ok (.getfield 16, 3) := by decide +kernel
theorem dX10_lieOf_17 : decode cX10_lieOf 17 = .ok (.iload_n 3, 1) := by decide +kernel
theorem dX10_lieOf_18 : decode cX10_lieOf 18 = .ok (.laload, 1) := by decide +kernel
theorem dX10_lieOf_19 : decode cX10_lieOf 19 = .ok (.lload_n 1, 1) := by decide +kernel
theorem dX10_lieOf_20 : decode cX10_lieOf 20 = .ok (.lcmp, 1) := by decide +kernel
theorem dX10_lieOf_21 : decode cX10_lieOf 21 = .ok (.ifCond .ne 5, 3) := by decide +kernel
theorem dX10_lieOf_24 : decode cX10_lieOf 24 = .ok (.iload_n 3, 1) := by decide +kernel
theorem dX10_lieOf_25 : decode cX10_lieOf 25 = .ok (.ireturn, 1) := by decide +kernel
theorem dX10_lieOf_26 : decode cX10_lieOf 26 = .ok (.iinc 3 1, 3) := by decide +kernel
theorem dX10_lieOf_29 : decode cX10_lieOf 29 = .ok (.goto (-27), 3) := by decide +kernel
theorem dX10_lieOf_32 : decode cX10_lieOf 32 = .ok (.iconst (-1), 1) := by decide +kernel
theorem dX10_lieOf_33 : decode cX10_lieOf 33 = .ok (.ireturn, 1) := by decide +kernel
set_option maxRecDepth 100000 in
theorem w_Mo_lieOf_L2 {p : Program} {l : Launch} {e : Env} {s : State} {m : MethodId} {args : Array Value} {below : List Frame} {meth : Method} {c : Code} {Q : State → Prop} {A : Nat → Prop} {D : va_G} {cI cJ cZ cO : ClassId} {q_this q_m q_saved q_w q_savedWords q_isSaved q_text q_far q_queue q_parent q_by q_seen q_path q_row q_more q_stateOf : Nat} {v_textLength : Int32} {v_steps : Int32} {v_missing : Int64} {v_mores : Int32} {v_hash : Int64} {v_m : (Nat → Int32)} {v_w : (Nat → Int64)} {x1 : Int64} {x : Int32} (C0 : Cx p s m args c A D cI cJ cZ cO cX10_lieOf 4 RX10) (hQ : RtI p l e rm_Mo_lieOf s m args below meth c Q A D cX10_lieOf .int (ws_Mo_lieOf cI cJ cZ q_this q_m q_saved q_w q_savedWords q_isSaved q_text q_far q_queue q_parent q_by q_seen q_path q_row q_more q_stateOf v_textLength v_steps v_missing v_mores v_hash v_m v_w) x) {K : Int32 → Option (Int32)} (hK : ∀ (x3 : Int32) (H : Heap) (locs : List Loc) (ls : Array Slot), K x3 = some x → Wd s A D (ws_Mo_lieOf cI cJ cZ q_this q_m q_saved q_w q_savedWords q_isSaved q_text q_far q_queue q_parent q_by q_seen q_path q_row q_more q_stateOf v_textLength v_steps v_missing v_mores v_hash v_m v_w) H locs → lv_has ls 4 [] → W p l e rm_Mo_lieOf s m args below meth c H locs 0 0 Q (F0 m 32 ls [])) {rec : Int32 → Option (Int32)} (hrec : ∀ (x3 : Int32) (H : Heap) (locs : List Loc) (ls : Array Slot), rec x3 = some x → Wd s A D (ws_Mo_lieOf cI cJ cZ q_this q_m q_saved q_w q_savedWords q_isSaved q_text q_far q_queue q_parent q_by q_seen q_path q_row q_more q_stateOf v_textLength v_steps v_missing v_mores v_hash v_m v_w) H locs → lv_has ls 4 [(0, .ref q_this), (1, .long x1), (3, .int x3)] → W p l e rm_Mo_lieOf s m args below meth c H locs 0 0 Q (F0 m 2 ls [])) (x3 : Int32) {H : Heap} {locs : List Loc} {ls : Array Slot} (h : f_Mo_lieOf_L2 v_m v_w x1 K rec x3 = some x) (w : Wd s A D (ws_Mo_lieOf cI cJ cZ q_this q_m q_saved q_w q_savedWords q_isSaved q_text q_far q_queue q_parent q_by q_seen q_path q_row q_more q_stateOf v_textLength v_steps v_missing v_mores v_hash v_m v_w) H locs) (hl : lv_has ls 4 [(0, .ref q_this), (1, .long x1), (3, .int x3)]) : W p l e rm_Mo_lieOf s m args below meth c H locs 0 0 Q (F0 m 2 ls []) := by
  obtain ⟨hx, hb, hml, hown, hts, -, -⟩ := id C0
  unfold f_Mo_lieOf_L2 at h
  refine lv_iload_n hx hb dX10_lieOf_2 rfl (lv_at hl 2 rfl) ?_
  refine lv_aload_n hx hb dX10_lieOf_3 rfl (lv_at hl 0 rfl) ?_
  refine r_get C0 w 0 rfl kf_Mo 0 (by decide) lf_RX10_7 rfl dX10_lieOf_4 ?_
  refine lv_bipush (v := (34 : Int32)) hx hb dX10_lieOf_7 (by decide) ?_
  refine r_iald C0 w 1 rfl (k := 34) (by decide) (inl (by decide)) dX10_lieOf_9 ?_
  refine lv_icmp_ge (tgt := 32) hx hb dX10_lieOf_10 (by decide) (fun hc => ?_) (fun hc => ?_)
  · have h := if_h hc h
    exact hK _ _ _ _ h w (lv_sub hl [] rfl)
  · have h := nf_h hc h
    refine lv_aload_n hx hb dX10_lieOf_13 rfl (lv_at hl 0 rfl) ?_
    refine r_get C0 w 0 rfl kf_Mo 2 (by decide) lf_RX10_16 rfl dX10_lieOf_14 ?_
    refine lv_iload_n hx hb dX10_lieOf_17 rfl (lv_at hl 2 rfl) ?_
    obtain ⟨hi, h⟩ := gIn_h h
    refine r_lald C0 w 2 rfl rfl hi dX10_lieOf_18 ?_
    refine lv_lload_n hx hb dX10_lieOf_19 rfl (lv_at hl 1 rfl) ?_
    refine r_lc_ne (tgt := 26) hx hb dX10_lieOf_20 dX10_lieOf_21 (by decide) (fun hc => ?_) (fun hc => ?_)
    · have h := nf_h hc h
      obtain ⟨x3_1, ex3_1⟩ : ∃ y : Int32, y = (x3 + 1) := ⟨_, rfl⟩
      have h := bnd_at ex3_1 h
      refine lv_iinc (v := x3_1) (lv' := [(3, .int x3_1), (0, .ref q_this), (1, .long x1)]) hx hb dX10_lieOf_26 hl (k := 2) rfl (by rw [ex3_1]; rfl) (by decide) rfl (fun ls hl => ?_)
      refine lv_goto (tgt := 2) hx hb dX10_lieOf_29 (by decide) ?_
      exact hrec _ _ _ _ h w (lv_sub hl [1, 2, 0] rfl)
    · have h := if_h hc h
      refine lv_iload_n hx hb dX10_lieOf_24 rfl (lv_at hl 2 rfl) ?_
      cases h
      exact hQ _ _ _ _ dX10_lieOf_25 rfl w
set_option maxRecDepth 100000 in
theorem wl_Mo_lieOf_L2 {p : Program} {l : Launch} {e : Env} {s : State} {m : MethodId} {args : Array Value} {below : List Frame} {meth : Method} {c : Code} {Q : State → Prop} {A : Nat → Prop} {D : va_G} {cI cJ cZ cO : ClassId} {q_this q_m q_saved q_w q_savedWords q_isSaved q_text q_far q_queue q_parent q_by q_seen q_path q_row q_more q_stateOf : Nat} {v_textLength : Int32} {v_steps : Int32} {v_missing : Int64} {v_mores : Int32} {v_hash : Int64} {v_m : (Nat → Int32)} {v_w : (Nat → Int64)} {x1 : Int64} {x : Int32} (C0 : Cx p s m args c A D cI cJ cZ cO cX10_lieOf 4 RX10) (hQ : RtI p l e rm_Mo_lieOf s m args below meth c Q A D cX10_lieOf .int (ws_Mo_lieOf cI cJ cZ q_this q_m q_saved q_w q_savedWords q_isSaved q_text q_far q_queue q_parent q_by q_seen q_path q_row q_more q_stateOf v_textLength v_steps v_missing v_mores v_hash v_m v_w) x) {K : Int32 → Option (Int32)} (hK : ∀ (x3 : Int32) (H : Heap) (locs : List Loc) (ls : Array Slot), K x3 = some x → Wd s A D (ws_Mo_lieOf cI cJ cZ q_this q_m q_saved q_w q_savedWords q_isSaved q_text q_far q_queue q_parent q_by q_seen q_path q_row q_more q_stateOf v_textLength v_steps v_missing v_mores v_hash v_m v_w) H locs → lv_has ls 4 [] → W p l e rm_Mo_lieOf s m args below meth c H locs 0 0 Q (F0 m 32 ls [])) : ∀ (n : Nat) (x3 : Int32) (H : Heap) (locs : List Loc) (ls : Array Slot), itr (fun _ => none) (f_Mo_lieOf_L2 v_m v_w x1 K) n x3 = some x → Wd s A D (ws_Mo_lieOf cI cJ cZ q_this q_m q_saved q_w q_savedWords q_isSaved q_text q_far q_queue q_parent q_by q_seen q_path q_row q_more q_stateOf v_textLength v_steps v_missing v_mores v_hash v_m v_w) H locs → lv_has ls 4 [(0, .ref q_this), (1, .long x1), (3, .int x3)] → W p l e rm_Mo_lieOf s m args below meth c H locs 0 0 Q (F0 m 2 ls []) := by
  intro n
  induction n with
  | zero => intro _ _ _ _ h; cases (show none = some _ from h)
  | succ n ih => intro _ _ _ _ h w hl; exact w_Mo_lieOf_L2 C0 hQ hK ih _ h w hl
set_option maxRecDepth 100000 in
theorem c_Mo_lieOf {l : Launch} {D : va_G} {cI cJ cZ cO : ClassId} {q_this q_m q_saved q_w q_savedWords q_isSaved q_text q_far q_queue q_parent q_by q_seen q_path q_row q_more q_stateOf : Nat} {x1 : Int64} {v_textLength : Int32} {v_steps : Int32} {v_missing : Int64} {v_mores : Int32} {v_hash : Int64} {v_m : (Nat → Int32)} {v_w : (Nat → Int64)} {x : Int32} (h : f_Mo_lieOf x1 v_m v_w = some x) : ctI l D cI cJ cZ cO yX10_lieOf cX10_lieOf 4 .int rm_Mo_lieOf [.ref q_this, .long x1] (ws_Mo_lieOf cI cJ cZ q_this q_m q_saved q_w q_savedWords q_isSaved q_text q_far q_queue q_parent q_by q_seen q_path q_row q_more q_stateOf v_textLength v_steps v_missing v_mores v_hash v_m v_w) (ws_Mo_lieOf cI cJ cZ q_this q_m q_saved q_w q_savedWords q_isSaved q_text q_far q_queue q_parent q_by q_seen q_path q_row q_more q_stateOf v_textLength v_steps v_missing v_mores v_hash v_m v_w) x := by
  refine ctI_of (by decide) (Nat.le_of_ble_eq_true rfl) ?_
  intro p e s m below meth c Q A ls C0 hQ w hl
  have hl : lv_has ls 4 [(0, .ref q_this), (1, .long x1)] := hl
  generalize List.toArray (α := Value) [.ref q_this, .long x1] = args at C0 hQ ⊢
  obtain ⟨hx, hb, hml, hown, hts, -, -⟩ := id C0
  unfold f_Mo_lieOf at h
  refine lv_iconst (v := (0 : Int32)) hx hb dX10_lieOf_0 (by decide) ?_
  refine lv_istore_n (lv' := [(3, .int (0 : Int32)), (0, .ref q_this), (1, .long x1)]) hx hb dX10_lieOf_1 rfl hl (by decide) rfl (fun ls hl => ?_)
  refine wl_Mo_lieOf_L2 C0 hQ (fun x3 H locs ls h w hl => ?_) _ _ _ _ _ h w (lv_sub hl [1, 2, 0] rfl)
  refine lv_iconst (v := (-1 : Int32)) hx hb dX10_lieOf_32 (by decide) ?_
  cases h
  exact hQ _ _ _ _ dX10_lieOf_33 rfl w
theorem dX10_lie_0 : decode cX10_lie 0 = .ok (.aload_n 0, 1) := by decide +kernel
theorem dX10_lie_1 : decode cX10_lie 1 = .ok (.invokevirtual 97, 3) := by decide +kernel
theorem dX10_lie_4 : decode cX10_lie 4 = .ok (.lstore_n 1, 1) := by decide +kernel
theorem dX10_lie_5 : decode cX10_lie 5 = .ok (.lload_n 1, 1) := by decide +kernel
theorem dX10_lie_6 : decode cX10_lie 6 = .ok (.lconst 0, 1) := by decide +kernel
theorem dX10_lie_7 : decode cX10_lie 7 = .ok (.lcmp, 1) := by decide +kernel
theorem dX10_lie_8 : decode cX10_lie 8 = .ok (.ifCond .ge 6, 3) := by decide +kernel
theorem dX10_lie_11 : decode cX10_lie 11 = .ok (.bipush (-2), 2) := by decide +kernel
theorem dX10_lie_13 : decode cX10_lie 13 = .ok (.ireturn, 1) := by decide +kernel
theorem dX10_lie_14 : decode cX10_lie 14 = .ok (.aload_n 0, 1) := by decide +kernel
theorem dX10_lie_15 : decode cX10_lie 15 = .ok (.lload_n 1, 1) := by decide +kernel
theorem dX10_lie_16 : decode cX10_lie 16 = .ok (.invokevirtual 101, 3) := by decide +kernel
theorem dX10_lie_19 : decode cX10_lie 19 = .ok (.istore_n 3, 1) := by decide +kernel
theorem dX10_lie_20 : decode cX10_lie 20 = .ok (.iload_n 3, 1) := by decide +kernel
theorem dX10_lie_21 : decode cX10_lie 21 = .ok (.iconst (-1), 1) := by decide +kernel
theorem dX10_lie_22 : decode cX10_lie 22 = .ok (.if_icmp .ne 17, 3) := by decide +kernel
theorem dX10_lie_25 : decode cX10_lie 25 = .ok (.aload_n 0, 1) := by decide +kernel
theorem dX10_lie_26 : decode cX10_lie 26 = .ok (.getfield 7, 3) := by decide +kernel
theorem dX10_lie_29 : decode cX10_lie 29 = .ok (.bipush 34, 2) := by decide +kernel
theorem dX10_lie_31 : decode cX10_lie 31 = .ok (.iaload, 1) := by decide +kernel
theorem dX10_lie_32 : decode cX10_lie 32 = .ok (.iconst 4, 1) := by decide +kernel
theorem dX10_lie_33 : decode cX10_lie 33 = .ok (.if_icmp .ne 6, 3) := by decide +kernel
theorem dX10_lie_36 : decode cX10_lie 36 = .ok (.bipush (-5), 2) := by decide +kernel
theorem dX10_lie_38 : decode cX10_lie 38 = .ok (.ireturn, 1) := by decide +kernel
theorem dX10_lie_39 : decode cX10_lie 39 = .ok (.iload_n 3, 1) := by decide +kernel
theorem dX10_lie_40 : decode cX10_lie 40 = .ok (.iconst (-1), 1) := by decide +kernel
theorem dX10_lie_41 : decode cX10_lie 41 = .ok (.if_icmp .ne 30, 3) := by decide +kernel
theorem dX10_lie_44 : decode cX10_lie 44 = .ok (.aload_n 0, 1) := by decide +kernel
theorem dX10_lie_45 : decode cX10_lie 45 = .ok (.getfield 16, 3) := by decide +kernel
theorem dX10_lie_48 : decode cX10_lie 48 = .ok (.aload_n 0, 1) := by decide +kernel
theorem dX10_lie_49 : decode cX10_lie 49 = .ok (.getfield 7, 3) := by decide +kernel
theorem dX10_lie_52 : decode cX10_lie 52 = .ok (.bipush 34, 2) := by decide +kernel
theorem dX10_lie_54 : decode cX10_lie 54 = .ok (.iaload, 1) := by decide +kernel
theorem dX10_lie_55 : decode cX10_lie 55 = .ok (.lload_n 1, 1) := by decide +kernel
theorem dX10_lie_56 : decode cX10_lie 56 = .ok (.lastore, 1) := by decide +kernel
theorem dX10_lie_57 : decode cX10_lie 57 = .ok (.aload_n 0, 1) := by decide +kernel
theorem dX10_lie_58 : decode cX10_lie 58 = .ok (.getfield 7, 3) := by decide +kernel
theorem dX10_lie_61 : decode cX10_lie 61 = .ok (.bipush 34, 2) := by decide +kernel
theorem dX10_lie_63 : decode cX10_lie 63 = .ok (.dup2, 1) := by decide +kernel
theorem dX10_lie_64 : decode cX10_lie 64 = .ok (.iaload, 1) := by decide +kernel
theorem dX10_lie_65 : decode cX10_lie 65 = .ok (.iconst 1, 1) := by decide +kernel
theorem dX10_lie_66 : decode cX10_lie 66 = .ok (.iadd, 1) := by decide +kernel
theorem dX10_lie_67 : decode cX10_lie 67 = .ok (.iastore, 1) := by decide +kernel
theorem dX10_lie_68 : decode cX10_lie 68 = .ok (.goto 51, 3) := by decide +kernel
theorem dX10_lie_71 : decode cX10_lie 71 = .ok (.aload_n 0, 1) := by decide +kernel
theorem dX10_lie_72 : decode cX10_lie 72 = .ok (.getfield 7, 3) := by decide +kernel
theorem dX10_lie_75 : decode cX10_lie 75 = .ok (.bipush 34, 2) := by decide +kernel
theorem dX10_lie_77 : decode cX10_lie 77 = .ok (.dup2, 1) := by decide +kernel
theorem dX10_lie_78 : decode cX10_lie 78 = .ok (.iaload, 1) := by decide +kernel
theorem dX10_lie_79 : decode cX10_lie 79 = .ok (.iconst 1, 1) := by decide +kernel
theorem dX10_lie_80 : decode cX10_lie 80 = .ok (.isub, 1) := by decide +kernel
theorem dX10_lie_81 : decode cX10_lie 81 = .ok (.iastore, 1) := by decide +kernel
theorem dX10_lie_82 : decode cX10_lie 82 = .ok (.iload_n 3, 1) := by decide +kernel
theorem dX10_lie_83 : decode cX10_lie 83 = .ok (.istore 4, 2) := by decide +kernel
theorem dX10_lie_85 : decode cX10_lie 85 = .ok (.iload 4, 2) := by decide +kernel
theorem dX10_lie_87 : decode cX10_lie 87 = .ok (.aload_n 0, 1) := by decide +kernel
theorem dX10_lie_88 : decode cX10_lie 88 = .ok (.getfield 7, 3) := by decide +kernel
theorem dX10_lie_91 : decode cX10_lie 91 = .ok (.bipush 34, 2) := by decide +kernel
theorem dX10_lie_93 : decode cX10_lie 93 = .ok (.iaload, 1) := by decide +kernel
theorem dX10_lie_94 : decode cX10_lie 94 = .ok (.if_icmp .ge 25, 3) := by decide +kernel
theorem dX10_lie_97 : decode cX10_lie 97 = .ok (.aload_n 0, 1) := by decide +kernel
theorem dX10_lie_98 : decode cX10_lie 98 = .ok (.getfield 16, 3) := by decide +kernel
theorem dX10_lie_101 : decode cX10_lie 101 = .ok (.iload 4, 2) := by decide +kernel
theorem dX10_lie_103 : decode cX10_lie 103 = .ok (.aload_n 0, 1) := by decide +kernel
theorem dX10_lie_104 : decode cX10_lie 104 = .ok (.getfield 16, 3) := by decide +kernel
theorem dX10_lie_107 : decode cX10_lie 107 = .ok (.iload 4, 2) := by decide +kernel
theorem dX10_lie_109 : decode cX10_lie 109 = .ok (.iconst 1, 1) := by decide +kernel
theorem dX10_lie_110 : decode cX10_lie 110 = .ok (.iadd, 1) := by decide +kernel
theorem dX10_lie_111 : decode cX10_lie 111 = .ok (.laload, 1) := by decide +kernel
theorem dX10_lie_112 : decode cX10_lie 112 = .ok (.lastore, 1) := by decide +kernel
theorem dX10_lie_113 : decode cX10_lie 113 = .ok (.iinc 4 1, 3) := by decide +kernel
theorem dX10_lie_116 : decode cX10_lie 116 = .ok (.goto (-31), 3) := by decide +kernel
theorem dX10_lie_119 : decode cX10_lie 119 = .ok (.aload_n 0, 1) := by decide +kernel
theorem dX10_lie_120 : decode cX10_lie 120 = .ok (.invokevirtual 57, 3) := by decide +kernel
theorem dX10_lie_123 : decode cX10_lie 123 = .ok (.aload_n 0, 1) := by decide +kernel
theorem dX10_lie_124 : decode cX10_lie 124 = .ok (.getfield 7, 3) := by decide +kernel
theorem dX10_lie_127 : decode cX10_lie 127 = .ok (.bipush 34, 2) := by decide +kernel
theorem dX10_lie_129 : decode cX10_lie 129 = .ok (.iaload, 1) := by decide +kernel
theorem dX10_lie_130 : decode cX10_lie 130 = .ok (.ireturn, 1) := by decide +kernel
set_option maxRecDepth 100000 in
theorem w_Mo_lie_L85 {p : Program} {l : Launch} {e : Env} {s : State} {m : MethodId} {args : Array Value} {below : List Frame} {meth : Method} {c : Code} {Q : State → Prop} {A : Nat → Prop} {D : va_G} {cI cJ cZ cO : ClassId} {q_this q_m q_saved q_w q_savedWords q_isSaved q_text q_far q_queue q_parent q_by q_seen q_path q_row q_more q_stateOf : Nat} {v_textLength : Int32} {v_steps : Int32} {v_missing : Int64} {v_mores : Int32} {v_hash : Int64} {v_m : (Nat → Int32)} {v_text : (Nat → Int32)} {x : Int32 × (Nat → Int32) × (Nat → Int64)} (C0 : Cx p s m args c A D cI cJ cZ cO cX10_lie 5 RX10) (hQ : RtI p l e rm_Mo_lie s m args below meth c Q A D cX10_lie .int (ws_Mo_lie cI cJ cZ q_this q_m q_saved q_w q_savedWords q_isSaved q_text q_far q_queue q_parent q_by q_seen q_path q_row q_more q_stateOf v_textLength v_steps v_missing v_mores v_hash x.2.1 x.2.2 v_text) x.1) {K : Int32 → (Nat → Int64) → Option (Int32 × (Nat → Int32) × (Nat → Int64))} (hK : ∀ (x4 : Int32) (v_w : (Nat → Int64)) (H : Heap) (locs : List Loc) (ls : Array Slot), K x4 v_w = some x → Wd s A D (ws_Mo_lie cI cJ cZ q_this q_m q_saved q_w q_savedWords q_isSaved q_text q_far q_queue q_parent q_by q_seen q_path q_row q_more q_stateOf v_textLength v_steps v_missing v_mores v_hash v_m v_w v_text) H locs → lv_has ls 5 [(0, .ref q_this)] → W p l e rm_Mo_lie s m args below meth c H locs 0 0 Q (F0 m 119 ls [])) {rec : Int32 → (Nat → Int64) → Option (Int32 × (Nat → Int32) × (Nat → Int64))} (hrec : ∀ (x4 : Int32) (v_w : (Nat → Int64)) (H : Heap) (locs : List Loc) (ls : Array Slot), rec x4 v_w = some x → Wd s A D (ws_Mo_lie cI cJ cZ q_this q_m q_saved q_w q_savedWords q_isSaved q_text q_far q_queue q_parent q_by q_seen q_path q_row q_more q_stateOf v_textLength v_steps v_missing v_mores v_hash v_m v_w v_text) H locs → lv_has ls 5 [(0, .ref q_this), (4, .int x4)] → W p l e rm_Mo_lie s m args below meth c H locs 0 0 Q (F0 m 85 ls [])) (x4 : Int32) (v_w : (Nat → Int64)) {H : Heap} {locs : List Loc} {ls : Array Slot} (h : f_Mo_lie_L85 v_m K rec x4 v_w = some x) (w : Wd s A D (ws_Mo_lie cI cJ cZ q_this q_m q_saved q_w q_savedWords q_isSaved q_text q_far q_queue q_parent q_by q_seen q_path q_row q_more q_stateOf v_textLength v_steps v_missing v_mores v_hash v_m v_w v_text) H locs) (hl : lv_has ls 5 [(0, .ref q_this), (4, .int x4)]) : W p l e rm_Mo_lie s m args below meth c H locs 0 0 Q (F0 m 85 ls []) := by
  obtain ⟨hx, hb, hml, hown, hts, -, -⟩ := id C0
  unfold f_Mo_lie_L85 at h
  refine lv_iload hx hb dX10_lie_85 (lv_at hl 1 rfl) ?_
  refine lv_aload_n hx hb dX10_lie_87 rfl (lv_at hl 0 rfl) ?_
  refine r_get C0 w 0 rfl kf_Mo 0 (by decide) lf_RX10_7 rfl dX10_lie_88 ?_
  refine lv_bipush (v := (34 : Int32)) hx hb dX10_lie_91 (by decide) ?_
  refine r_iald C0 w 1 rfl (k := 34) (by decide) (inl (by decide)) dX10_lie_93 ?_
  refine lv_icmp_ge (tgt := 119) hx hb dX10_lie_94 (by decide) (fun hc => ?_) (fun hc => ?_)
  · have h := if_h hc h
    exact hK _ _ _ _ _ h w (lv_sub hl [0] rfl)
  · have h := nf_h hc h
    refine lv_aload_n hx hb dX10_lie_97 rfl (lv_at hl 0 rfl) ?_
    refine r_get C0 w 0 rfl kf_Mo 2 (by decide) lf_RX10_16 rfl dX10_lie_98 ?_
    refine lv_iload hx hb dX10_lie_101 (lv_at hl 1 rfl) ?_
    refine lv_aload_n hx hb dX10_lie_103 rfl (lv_at hl 0 rfl) ?_
    refine r_get C0 w 0 rfl kf_Mo 2 (by decide) lf_RX10_16 rfl dX10_lie_104 ?_
    refine lv_iload hx hb dX10_lie_107 (lv_at hl 1 rfl) ?_
    refine lv_iconst (v := (1 : Int32)) hx hb dX10_lie_109 (by decide) ?_
    refine lv_iadd hx hb dX10_lie_110 ?_
    obtain ⟨hi, h⟩ := gIn_h h
    refine r_lald C0 w 2 rfl rfl hi dX10_lie_111 ?_
    obtain ⟨hi, h⟩ := gIn_h h
    obtain ⟨v_w_1, ev_w_1⟩ : ∃ y, y = (vp_updL v_w x4.toNatClampNeg (v_w (x4 + (1 : Int32)).toNatClampNeg)) := ⟨_, rfl⟩
    have h := bnd_at ev_w_1 h
    refine r_last C0 w 2 rfl (f' := v_w_1) rfl hi ev_w_1 dX10_lie_112 (ws' := (ws_Mo_lie cI cJ cZ q_this q_m q_saved q_w q_savedWords q_isSaved q_text q_far q_queue q_parent q_by q_seen q_path q_row q_more q_stateOf v_textLength v_steps v_missing v_mores v_hash v_m v_w_1 v_text)) rfl (fun H locs w => ?_)
    obtain ⟨x4_1, ex4_1⟩ : ∃ y : Int32, y = (x4 + 1) := ⟨_, rfl⟩
    have h := bnd_at ex4_1 h
    refine lv_iinc (v := x4_1) (lv' := [(4, .int x4_1), (0, .ref q_this)]) hx hb dX10_lie_113 hl (k := 1) rfl (by rw [ex4_1]; rfl) (by decide) rfl (fun ls hl => ?_)
    refine lv_goto (tgt := 85) hx hb dX10_lie_116 (by decide) ?_
    exact hrec _ _ _ _ _ h w (lv_sub hl [1, 0] rfl)
set_option maxRecDepth 100000 in
theorem wl_Mo_lie_L85 {p : Program} {l : Launch} {e : Env} {s : State} {m : MethodId} {args : Array Value} {below : List Frame} {meth : Method} {c : Code} {Q : State → Prop} {A : Nat → Prop} {D : va_G} {cI cJ cZ cO : ClassId} {q_this q_m q_saved q_w q_savedWords q_isSaved q_text q_far q_queue q_parent q_by q_seen q_path q_row q_more q_stateOf : Nat} {v_textLength : Int32} {v_steps : Int32} {v_missing : Int64} {v_mores : Int32} {v_hash : Int64} {v_m : (Nat → Int32)} {v_text : (Nat → Int32)} {x : Int32 × (Nat → Int32) × (Nat → Int64)} (C0 : Cx p s m args c A D cI cJ cZ cO cX10_lie 5 RX10) (hQ : RtI p l e rm_Mo_lie s m args below meth c Q A D cX10_lie .int (ws_Mo_lie cI cJ cZ q_this q_m q_saved q_w q_savedWords q_isSaved q_text q_far q_queue q_parent q_by q_seen q_path q_row q_more q_stateOf v_textLength v_steps v_missing v_mores v_hash x.2.1 x.2.2 v_text) x.1) {K : Int32 → (Nat → Int64) → Option (Int32 × (Nat → Int32) × (Nat → Int64))} (hK : ∀ (x4 : Int32) (v_w : (Nat → Int64)) (H : Heap) (locs : List Loc) (ls : Array Slot), K x4 v_w = some x → Wd s A D (ws_Mo_lie cI cJ cZ q_this q_m q_saved q_w q_savedWords q_isSaved q_text q_far q_queue q_parent q_by q_seen q_path q_row q_more q_stateOf v_textLength v_steps v_missing v_mores v_hash v_m v_w v_text) H locs → lv_has ls 5 [(0, .ref q_this)] → W p l e rm_Mo_lie s m args below meth c H locs 0 0 Q (F0 m 119 ls [])) : ∀ (n : Nat) (x4 : Int32) (v_w : (Nat → Int64)) (H : Heap) (locs : List Loc) (ls : Array Slot), itr (fun _ _ => none) (f_Mo_lie_L85 v_m K) n x4 v_w = some x → Wd s A D (ws_Mo_lie cI cJ cZ q_this q_m q_saved q_w q_savedWords q_isSaved q_text q_far q_queue q_parent q_by q_seen q_path q_row q_more q_stateOf v_textLength v_steps v_missing v_mores v_hash v_m v_w v_text) H locs → lv_has ls 5 [(0, .ref q_this), (4, .int x4)] → W p l e rm_Mo_lie s m args below meth c H locs 0 0 Q (F0 m 85 ls []) := by
  intro n
  induction n with
  | zero => intro _ _ _ _ _ h; cases (show none = some _ from h)
  | succ n ih => intro _ _ _ _ _ h w hl; exact w_Mo_lie_L85 C0 hQ hK ih _ _ h w hl
set_option maxRecDepth 100000 in
theorem w_Mo_lie_J119 {p : Program} {l : Launch} {e : Env} {s : State} {m : MethodId} {args : Array Value} {below : List Frame} {meth : Method} {c : Code} {Q : State → Prop} {A : Nat → Prop} {D : va_G} {cI cJ cZ cO : ClassId} {q_this q_m q_saved q_w q_savedWords q_isSaved q_text q_far q_queue q_parent q_by q_seen q_path q_row q_more q_stateOf : Nat} {v_textLength : Int32} {v_steps : Int32} {v_missing : Int64} {v_mores : Int32} {v_hash : Int64} {v_m : (Nat → Int32)} {v_w : (Nat → Int64)} {v_text : (Nat → Int32)} {x : Int32 × (Nat → Int32) × (Nat → Int64)} (C0 : Cx p s m args c A D cI cJ cZ cO cX10_lie 5 RX10) (hQ : RtI p l e rm_Mo_lie s m args below meth c Q A D cX10_lie .int (ws_Mo_lie cI cJ cZ q_this q_m q_saved q_w q_savedWords q_isSaved q_text q_far q_queue q_parent q_by q_seen q_path q_row q_more q_stateOf v_textLength v_steps v_missing v_mores v_hash x.2.1 x.2.2 v_text) x.1) {H : Heap} {locs : List Loc} {ls : Array Slot} (h : f_Mo_lie_J119 v_m v_w = some x) (w : Wd s A D (ws_Mo_lie cI cJ cZ q_this q_m q_saved q_w q_savedWords q_isSaved q_text q_far q_queue q_parent q_by q_seen q_path q_row q_more q_stateOf v_textLength v_steps v_missing v_mores v_hash v_m v_w v_text) H locs) (hl : lv_has ls 5 [(0, .ref q_this)]) : W p l e rm_Mo_lie s m args below meth c H locs 0 0 Q (F0 m 119 ls []) := by
  obtain ⟨hx, hb, hml, hown, hts, -, -⟩ := id C0
  unfold f_Mo_lie_J119 at h
  refine lv_aload_n hx hb dX10_lie_119 rfl (lv_at hl 0 rfl) ?_
  obtain ⟨v_m_1, v_w_1, hcall, h⟩ := bd2_h h
  have hp := sp_of (ws := (ws_Mo_lie cI cJ cZ q_this q_m q_saved q_w q_savedWords q_isSaved q_text q_far q_queue q_parent q_by q_seen q_path q_row q_more q_stateOf v_textLength v_steps v_missing v_mores v_hash v_m v_w v_text)) (wc := (ws_Mo_begins cI cJ cZ q_this q_m q_saved q_w q_savedWords q_isSaved q_text q_far q_queue q_parent q_by q_seen q_path q_row q_more q_stateOf v_textLength v_steps v_missing v_mores v_hash v_m v_w)) [0, 1, 2] [3] rfl rfl
  have hp' : Rp (pk (ws_Mo_lie cI cJ cZ q_this q_m q_saved q_w q_savedWords q_isSaved q_text q_far q_queue q_parent q_by q_seen q_path q_row q_more q_stateOf v_textLength v_steps v_missing v_mores v_hash v_m v_w v_text) [3] ++ (ws_Mo_begins cI cJ cZ q_this q_m q_saved q_w q_savedWords q_isSaved q_text q_far q_queue q_parent q_by q_seen q_path q_row q_more q_stateOf v_textLength v_steps v_missing v_mores v_hash v_m_1 v_w_1)) (ws_Mo_lie cI cJ cZ q_this q_m q_saved q_w q_savedWords q_isSaved q_text q_far q_queue q_parent q_by q_seen q_path q_row q_more q_stateOf v_textLength v_steps v_missing v_mores v_hash v_m_1 v_w_1 v_text) := ⟨[1, 2, 3, 0], rfl, rfl⟩
  refine r_VV (As := []) (rest := []) (wc' := (ws_Mo_begins cI cJ cZ q_this q_m q_saved q_w q_savedWords q_isSaved q_text q_far q_queue q_parent q_by q_seen q_path q_row q_more q_stateOf v_textLength v_steps v_missing v_mores v_hash v_m_1 v_w_1)) (ws' := (ws_Mo_lie cI cJ cZ q_this q_m q_saved q_w q_savedWords q_isSaved q_text q_far q_queue q_parent q_by q_seen q_path q_row q_more q_stateOf v_textLength v_steps v_missing v_mores v_hash v_m_1 v_w_1 v_text)) C0 w (c_Mo_begins hcall) hp hp' lm_RX10_57 mv_Mo_begins ⟨rfl, rfl⟩ ⟨by decide, by decide⟩ ⟨Nat.zero_le _, Nat.zero_le _⟩ (q0 := 0) rfl rfl rfl rfl hl rfl (Nat.le_of_ble_eq_true rfl) dX10_lie_120 (fun H locs w => ?_)
  refine lv_aload_n hx hb dX10_lie_123 rfl (lv_at hl 0 rfl) ?_
  refine r_get C0 w 0 rfl kf_Mo 0 (by decide) lf_RX10_7 rfl dX10_lie_124 ?_
  refine lv_bipush (v := (34 : Int32)) hx hb dX10_lie_127 (by decide) ?_
  refine r_iald C0 w 1 rfl (k := 34) (by decide) (inl (by decide)) dX10_lie_129 ?_
  cases h
  exact hQ _ _ _ _ dX10_lie_130 rfl w
set_option maxRecDepth 100000 in
theorem w_Mo_lie_J39 {p : Program} {l : Launch} {e : Env} {s : State} {m : MethodId} {args : Array Value} {below : List Frame} {meth : Method} {c : Code} {Q : State → Prop} {A : Nat → Prop} {D : va_G} {cI cJ cZ cO : ClassId} {q_this q_m q_saved q_w q_savedWords q_isSaved q_text q_far q_queue q_parent q_by q_seen q_path q_row q_more q_stateOf : Nat} {v_textLength : Int32} {v_steps : Int32} {v_missing : Int64} {v_mores : Int32} {v_hash : Int64} {v_m : (Nat → Int32)} {v_w : (Nat → Int64)} {v_text : (Nat → Int32)} {x : Int32 × (Nat → Int32) × (Nat → Int64)} {x1 : Int64} {x3 : Int32} (C0 : Cx p s m args c A D cI cJ cZ cO cX10_lie 5 RX10) (hQ : RtI p l e rm_Mo_lie s m args below meth c Q A D cX10_lie .int (ws_Mo_lie cI cJ cZ q_this q_m q_saved q_w q_savedWords q_isSaved q_text q_far q_queue q_parent q_by q_seen q_path q_row q_more q_stateOf v_textLength v_steps v_missing v_mores v_hash x.2.1 x.2.2 v_text) x.1) {H : Heap} {locs : List Loc} {ls : Array Slot} (h : f_Mo_lie_J39 x1 x3 v_m v_w = some x) (w : Wd s A D (ws_Mo_lie cI cJ cZ q_this q_m q_saved q_w q_savedWords q_isSaved q_text q_far q_queue q_parent q_by q_seen q_path q_row q_more q_stateOf v_textLength v_steps v_missing v_mores v_hash v_m v_w v_text) H locs) (hl : lv_has ls 5 [(0, .ref q_this), (1, .long x1), (3, .int x3)]) : W p l e rm_Mo_lie s m args below meth c H locs 0 0 Q (F0 m 39 ls []) := by
  obtain ⟨hx, hb, hml, hown, hts, -, -⟩ := id C0
  unfold f_Mo_lie_J39 at h
  refine lv_iload_n hx hb dX10_lie_39 rfl (lv_at hl 2 rfl) ?_
  refine lv_iconst (v := (-1 : Int32)) hx hb dX10_lie_40 (by decide) ?_
  refine lv_icmp_ne (tgt := 71) hx hb dX10_lie_41 (by decide) (fun hc => ?_) (fun hc => ?_)
  · have h := nf_h hc h
    refine lv_aload_n hx hb dX10_lie_71 rfl (lv_at hl 0 rfl) ?_
    refine r_get C0 w 0 rfl kf_Mo 0 (by decide) lf_RX10_7 rfl dX10_lie_72 ?_
    refine lv_bipush (v := (34 : Int32)) hx hb dX10_lie_75 (by decide) ?_
    refine lv_dup2_11 hx hb dX10_lie_77 rfl rfl ?_
    refine r_iald C0 w 1 rfl (k := 34) (by decide) (inl (by decide)) dX10_lie_78 ?_
    refine lv_iconst (v := (1 : Int32)) hx hb dX10_lie_79 (by decide) ?_
    refine lv_isub hx hb dX10_lie_80 ?_
    obtain ⟨v_m_1, ev_m_1⟩ : ∃ y, y = (upd v_m 34 ((v_m 34) - (1 : Int32))) := ⟨_, rfl⟩
    have h := bnd_at ev_m_1 h
    refine r_iast C0 w 1 rfl (f' := v_m_1) (k := 34) (by decide) (inl (by decide)) ev_m_1 dX10_lie_81 (ws' := (ws_Mo_lie cI cJ cZ q_this q_m q_saved q_w q_savedWords q_isSaved q_text q_far q_queue q_parent q_by q_seen q_path q_row q_more q_stateOf v_textLength v_steps v_missing v_mores v_hash v_m_1 v_w v_text)) rfl (fun H locs w => ?_)
    refine lv_iload_n hx hb dX10_lie_82 rfl (lv_at hl 2 rfl) ?_
    refine lv_istore (lv' := [(4, .int x3), (0, .ref q_this), (1, .long x1), (3, .int x3)]) hx hb dX10_lie_83 hl (by decide) rfl (fun ls hl => ?_)
    refine wl_Mo_lie_L85 C0 hQ (fun x4 v_w_1 H locs ls h w hl => ?_) _ _ _ _ _ _ h w (lv_sub hl [1, 0] rfl)
    exact w_Mo_lie_J119 C0 hQ h w (lv_sub hl [0] rfl)
  · have h := if_h hc h
    refine lv_aload_n hx hb dX10_lie_44 rfl (lv_at hl 0 rfl) ?_
    refine r_get C0 w 0 rfl kf_Mo 2 (by decide) lf_RX10_16 rfl dX10_lie_45 ?_
    refine lv_aload_n hx hb dX10_lie_48 rfl (lv_at hl 0 rfl) ?_
    refine r_get C0 w 0 rfl kf_Mo 0 (by decide) lf_RX10_7 rfl dX10_lie_49 ?_
    refine lv_bipush (v := (34 : Int32)) hx hb dX10_lie_52 (by decide) ?_
    refine r_iald C0 w 1 rfl (k := 34) (by decide) (inl (by decide)) dX10_lie_54 ?_
    refine lv_lload_n hx hb dX10_lie_55 rfl (lv_at hl 1 rfl) ?_
    obtain ⟨hi, h⟩ := gIn_h h
    obtain ⟨v_w_2, ev_w_2⟩ : ∃ y, y = (vp_updL v_w (v_m 34).toNatClampNeg x1) := ⟨_, rfl⟩
    have h := bnd_at ev_w_2 h
    refine r_last C0 w 2 rfl (f' := v_w_2) rfl hi ev_w_2 dX10_lie_56 (ws' := (ws_Mo_lie cI cJ cZ q_this q_m q_saved q_w q_savedWords q_isSaved q_text q_far q_queue q_parent q_by q_seen q_path q_row q_more q_stateOf v_textLength v_steps v_missing v_mores v_hash v_m v_w_2 v_text)) rfl (fun H locs w => ?_)
    refine lv_aload_n hx hb dX10_lie_57 rfl (lv_at hl 0 rfl) ?_
    refine r_get C0 w 0 rfl kf_Mo 0 (by decide) lf_RX10_7 rfl dX10_lie_58 ?_
    refine lv_bipush (v := (34 : Int32)) hx hb dX10_lie_61 (by decide) ?_
    refine lv_dup2_11 hx hb dX10_lie_63 rfl rfl ?_
    refine r_iald C0 w 1 rfl (k := 34) (by decide) (inl (by decide)) dX10_lie_64 ?_
    refine lv_iconst (v := (1 : Int32)) hx hb dX10_lie_65 (by decide) ?_
    refine lv_iadd hx hb dX10_lie_66 ?_
    obtain ⟨v_m_2, ev_m_2⟩ : ∃ y, y = (upd v_m 34 ((v_m 34) + (1 : Int32))) := ⟨_, rfl⟩
    have h := bnd_at ev_m_2 h
    refine r_iast C0 w 1 rfl (f' := v_m_2) (k := 34) (by decide) (inl (by decide)) ev_m_2 dX10_lie_67 (ws' := (ws_Mo_lie cI cJ cZ q_this q_m q_saved q_w q_savedWords q_isSaved q_text q_far q_queue q_parent q_by q_seen q_path q_row q_more q_stateOf v_textLength v_steps v_missing v_mores v_hash v_m_2 v_w_2 v_text)) rfl (fun H locs w => ?_)
    refine lv_goto (tgt := 119) hx hb dX10_lie_68 (by decide) ?_
    exact w_Mo_lie_J119 C0 hQ h w (lv_sub hl [0] rfl)
set_option maxRecDepth 100000 in
theorem c_Mo_lie {l : Launch} {D : va_G} {cI cJ cZ cO : ClassId} {q_this q_m q_saved q_w q_savedWords q_isSaved q_text q_far q_queue q_parent q_by q_seen q_path q_row q_more q_stateOf : Nat} {v_textLength : Int32} {v_steps : Int32} {v_missing : Int64} {v_mores : Int32} {v_hash : Int64} {v_m : (Nat → Int32)} {v_w : (Nat → Int64)} {v_text : (Nat → Int32)} {x : Int32 × (Nat → Int32) × (Nat → Int64)} (h : f_Mo_lie v_textLength v_m v_w v_text = some x) : ctI l D cI cJ cZ cO yX10_lie cX10_lie 5 .int rm_Mo_lie [.ref q_this] (ws_Mo_lie cI cJ cZ q_this q_m q_saved q_w q_savedWords q_isSaved q_text q_far q_queue q_parent q_by q_seen q_path q_row q_more q_stateOf v_textLength v_steps v_missing v_mores v_hash v_m v_w v_text) (ws_Mo_lie cI cJ cZ q_this q_m q_saved q_w q_savedWords q_isSaved q_text q_far q_queue q_parent q_by q_seen q_path q_row q_more q_stateOf v_textLength v_steps v_missing v_mores v_hash x.2.1 x.2.2 v_text) x.1 := by
  refine ctI_of (by decide) (Nat.le_of_ble_eq_true rfl) ?_
  intro p e s m below meth c Q A ls C0 hQ w hl
  have hl : lv_has ls 5 [(0, .ref q_this)] := hl
  generalize List.toArray (α := Value) [.ref q_this] = args at C0 hQ ⊢
  obtain ⟨hx, hb, hml, hown, hts, -, -⟩ := id C0
  unfold f_Mo_lie at h
  refine lv_aload_n hx hb dX10_lie_0 rfl (lv_at hl 0 rfl) ?_
  obtain ⟨r, hcall, h⟩ := bd1_h h
  obtain ⟨wr, hp, hp'⟩ := rd_of (ws := (ws_Mo_lie cI cJ cZ q_this q_m q_saved q_w q_savedWords q_isSaved q_text q_far q_queue q_parent q_by q_seen q_path q_row q_more q_stateOf v_textLength v_steps v_missing v_mores v_hash v_m v_w v_text)) (wc := (ws_Mo_told cI cJ cZ q_this q_m q_saved q_w q_savedWords q_isSaved q_text q_far q_queue q_parent q_by q_seen q_path q_row q_more q_stateOf v_textLength v_steps v_missing v_mores v_hash v_m v_text)) [0, 1, 3] rfl rfl
  refine r_VJ (r := r) (As := []) (rest := []) (wc' := (ws_Mo_told cI cJ cZ q_this q_m q_saved q_w q_savedWords q_isSaved q_text q_far q_queue q_parent q_by q_seen q_path q_row q_more q_stateOf v_textLength v_steps v_missing v_mores v_hash v_m v_text)) (ws' := (ws_Mo_lie cI cJ cZ q_this q_m q_saved q_w q_savedWords q_isSaved q_text q_far q_queue q_parent q_by q_seen q_path q_row q_more q_stateOf v_textLength v_steps v_missing v_mores v_hash v_m v_w v_text)) C0 w (c_Mo_told hcall) hp hp' lm_RX10_97 mv_Mo_told ⟨rfl, rfl⟩ ⟨by decide, by decide⟩ ⟨Nat.zero_le _, Nat.zero_le _⟩ (q0 := 0) rfl rfl rfl rfl hl rfl (Nat.le_of_ble_eq_true rfl) dX10_lie_1 (fun H locs w => ?_)
  refine lv_lstore_n (lv' := [(1, .long r), (0, .ref q_this)]) hx hb dX10_lie_4 rfl hl (by decide) rfl (fun ls hl => ?_)
  refine lv_lload_n hx hb dX10_lie_5 rfl (lv_at hl 0 rfl) ?_
  refine lv_lconst (v := (0 : Int64)) hx hb dX10_lie_6 (by decide) ?_
  refine r_lc_ge (tgt := 14) hx hb dX10_lie_7 dX10_lie_8 (by decide) (fun hc => ?_) (fun hc => ?_)
  · have h := nf_h hc h
    refine lv_aload_n hx hb dX10_lie_14 rfl (lv_at hl 1 rfl) ?_
    refine lv_lload_n hx hb dX10_lie_15 rfl (lv_at hl 0 rfl) ?_
    obtain ⟨r_1, hcall, h⟩ := bd1_h h
    obtain ⟨wr, hp, hp'⟩ := rd_of (ws := (ws_Mo_lie cI cJ cZ q_this q_m q_saved q_w q_savedWords q_isSaved q_text q_far q_queue q_parent q_by q_seen q_path q_row q_more q_stateOf v_textLength v_steps v_missing v_mores v_hash v_m v_w v_text)) (wc := (ws_Mo_lieOf cI cJ cZ q_this q_m q_saved q_w q_savedWords q_isSaved q_text q_far q_queue q_parent q_by q_seen q_path q_row q_more q_stateOf v_textLength v_steps v_missing v_mores v_hash v_m v_w)) [0, 1, 2] rfl rfl
    refine r_VI (r := r_1) (As := [.long r]) (rest := []) (wc' := (ws_Mo_lieOf cI cJ cZ q_this q_m q_saved q_w q_savedWords q_isSaved q_text q_far q_queue q_parent q_by q_seen q_path q_row q_more q_stateOf v_textLength v_steps v_missing v_mores v_hash v_m v_w)) (ws' := (ws_Mo_lie cI cJ cZ q_this q_m q_saved q_w q_savedWords q_isSaved q_text q_far q_queue q_parent q_by q_seen q_path q_row q_more q_stateOf v_textLength v_steps v_missing v_mores v_hash v_m v_w v_text)) C0 w (c_Mo_lieOf hcall) hp hp' lm_RX10_101 mv_Mo_lieOf ⟨rfl, rfl⟩ ⟨by decide, by decide⟩ ⟨Nat.zero_le _, Nat.zero_le _⟩ (q0 := 0) rfl rfl rfl rfl hl rfl (Nat.le_of_ble_eq_true rfl) dX10_lie_16 (fun H locs w => ?_)
    refine lv_istore_n (lv' := [(3, .int r_1), (1, .long r), (0, .ref q_this)]) hx hb dX10_lie_19 rfl hl (by decide) rfl (fun ls hl => ?_)
    refine lv_iload_n hx hb dX10_lie_20 rfl (lv_at hl 0 rfl) ?_
    refine lv_iconst (v := (-1 : Int32)) hx hb dX10_lie_21 (by decide) ?_
    refine lv_icmp_ne (tgt := 39) hx hb dX10_lie_22 (by decide) (fun hc => ?_) (fun hc => ?_)
    · have h := nf_h hc h
      exact w_Mo_lie_J39 C0 hQ h w (lv_sub hl [2, 1, 0] rfl)
    · have h := if_h hc h
      refine lv_aload_n hx hb dX10_lie_25 rfl (lv_at hl 2 rfl) ?_
      refine r_get C0 w 0 rfl kf_Mo 0 (by decide) lf_RX10_7 rfl dX10_lie_26 ?_
      refine lv_bipush (v := (34 : Int32)) hx hb dX10_lie_29 (by decide) ?_
      refine r_iald C0 w 1 rfl (k := 34) (by decide) (inl (by decide)) dX10_lie_31 ?_
      refine lv_iconst (v := (4 : Int32)) hx hb dX10_lie_32 (by decide) ?_
      refine lv_icmp_ne (tgt := 39) hx hb dX10_lie_33 (by decide) (fun hc => ?_) (fun hc => ?_)
      · have h := nf_h hc h
        exact w_Mo_lie_J39 C0 hQ h w (lv_sub hl [2, 1, 0] rfl)
      · have h := if_h hc h
        refine lv_bipush (v := (-5 : Int32)) hx hb dX10_lie_36 (by decide) ?_
        cases h
        exact hQ _ _ _ _ dX10_lie_38 rfl w
  · have h := if_h hc h
    refine lv_bipush (v := (-2 : Int32)) hx hb dX10_lie_11 (by decide) ?_
    cases h
    exact hQ _ _ _ _ dX10_lie_13 rfl w
theorem dX10_distances_0 : decode cX10_distances 0 = .ok (.iconst 0, 1) := by decide +kernel
theorem dX10_distances_1 : decode cX10_distances 1 = .ok (.istore_n 1, 1) := by decide +kernel
theorem dX10_distances_2 : decode cX10_distances 2 = .ok (.iload_n 1, 1) := by decide +kernel
theorem dX10_distances_3 : decode cX10_distances 3 = .ok (.bipush 8, 2) := by decide +kernel
theorem dX10_distances_5 : decode cX10_distances 5 = .ok (.if_icmp .ge 24, 3) := by decide +kernel
theorem dX10_distances_8 : decode cX10_distances 8 = .ok (.aload_n 0, 1) := by decide +kernel
theorem dX10_distances_9 : decode cX10_distances 9 = .ok (.getfield 30, 3) := by decide +kernel
theorem dX10_distances_12 : decode cX10_distances 12 = .ok (.iload_n 1, 1) := by decide +kernel
theorem dX10_distances_13 : decode cX10_distances 13 = .ok (.iload_n 1, 1) := by decide +kernel
theorem dX10_distances_14 : decode cX10_distances 14 = .ok (.ifCond .ne 7, 3) := by decide +kernel
theorem dX10_distances_17 : decode cX10_distances 17 = .ok (.iconst 0, 1) := by decide +kernel
theorem dX10_distances_18 : decode cX10_distances 18 = .ok (.goto 4, 3) := by decide +kernel
theorem dX10_distances_21 : decode cX10_distances 21 = .ok (.iconst (-1), 1) := by decide +kernel
theorem dX10_distances_22 : decode cX10_distances 22 = .ok (.iastore, 1) := by decide +kernel
theorem dX10_distances_23 : decode cX10_distances 23 = .ok (.iinc 1 1, 3) := by decide +kernel
theorem dX10_distances_26 : decode cX10_distances 26 = .ok (.goto (-24), 3) := by decide +kernel
theorem dX10_distances_29 : decode cX10_distances 29 = .ok (.iconst 0, 1) := by decide +kernel
theorem dX10_distances_30 : decode cX10_distances 30 = .ok (.istore_n 1, 1) := by decide +kernel
theorem dX10_distances_31 : decode cX10_distances 31 = .ok (.iload_n 1, 1) := by decide +kernel
theorem dX10_distances_32 : decode cX10_distances 32 = .ok (.bipush 8, 2) := by decide +kernel
theorem dX10_distances_34 : decode cX10_distances 34 = .ok (.if_icmp .ge 105, 3) := by decide +kernel
theorem dX10_distances_37 : decode cX10_distances 37 = .ok (.iconst 0, 1) := by decide +kernel
theorem dX10_distances_38 : decode cX10_distances 38 = .ok (.istore_n 2, 1) := by decide +kernel
theorem dX10_distances_39 : decode cX10_distances 39 = .ok (.iload_n 2, 1) := by decide +kernel
theorem dX10_distances_40 : decode cX10_distances 40 = .ok (.aload_n 0, 1) := by decide +kernel
theorem dX10_distances_41 : decode cX10_distances 41 = .ok (.getfield 7, 3) := by decide +kernel
theorem dX10_distances_44 : decode cX10_distances 44 = .ok (.iconst 0, 1) := by decide +kernel
theorem dX10_distances_45 : decode cX10_distances 45 = .ok (.iaload, 1) := by decide +kernel
theorem dX10_distances_46 : decode cX10_distances 46 = .ok (.aload_n 0, 1) := by decide +kernel
theorem dX10_distances_47 : decode cX10_distances 47 = .ok (.getfield 7, 3) := by decide +kernel
theorem dX10_distances_50 : decode cX10_distances 50 = .ok (.iconst 1, 1) := by decide +kernel
theorem dX10_distances_51 : decode cX10_distances 51 = .ok (.iaload, 1) := by decide +kernel
theorem dX10_distances_52 : decode cX10_distances 52 = .ok (.imul, 1) := by decide +kernel
theorem dX10_distances_53 : decode cX10_distances 53 = .ok (.if_icmp .ge 80, 3) := by decide +kernel
theorem dX10_distances_56 : decode cX10_distances 56 = .ok (.iload_n 2, 1) := by decide +kernel
theorem dX10_distances_57 : decode cX10_distances 57 = .ok (.aload_n 0, 1) := by decide +kernel
theorem dX10_distances_58 : decode cX10_distances 58 = .ok (.getfield 7, 3) := by decide +kernel
theorem dX10_distances_61 : decode cX10_distances 61 = .ok (.iconst 1, 1) := by decide +kernel
theorem dX10_distances_62 : decode cX10_distances 62 = .ok (.iaload, 1) := by decide +kernel
theorem dX10_distances_63 : decode cX10_distances 63 = .ok (.idiv, 1) := by decide +kernel
theorem dX10_distances_64 : decode cX10_distances 64 = .ok (.istore_n 3, 1) := by decide +kernel
theorem dX10_distances_65 : decode cX10_distances 65 = .ok (.aload_n 0, 1) := by decide +kernel
theorem dX10_distances_66 : decode cX10_distances 66 = .ok (.getfield 7, 3) := by decide +kernel
theorem dX10_distances_69 : decode cX10_distances 69 = .ok (.iconst 2, 1) := by decide +kernel
theorem dX10_distances_70 : decode cX10_distances 70 = .ok (.iconst 3, 1) := by decide +kernel
theorem dX10_distances_71 : decode cX10_distances 71 = .ok (.iload_n 3, 1) := by decide +kernel
theorem dX10_distances_72 : decode cX10_distances 72 = .ok (.imul, 1) := by decide +kernel
theorem dX10_distances_73 : decode cX10_distances 73 = .ok (.iadd, 1) := by decide +kernel
theorem dX10_distances_74 : decode cX10_distances 74 = .ok (.iload_n 2, 1) := by decide +kernel
theorem dX10_distances_75 : decode cX10_distances 75 = .ok (.aload_n 0, 1) := by decide +kernel
theorem dX10_distances_76 : decode cX10_distances 76 = .ok (.getfield 7, 3) := by decide +kernel
theorem dX10_distances_79 : decode cX10_distances 79 = .ok (.iconst 1, 1) := by decide +kernel
theorem dX10_distances_80 : decode cX10_distances 80 = .ok (.iaload, 1) := by decide +kernel
theorem dX10_distances_81 : decode cX10_distances 81 = .ok (.irem, 1) := by decide +kernel
theorem dX10_distances_82 : decode cX10_distances 82 = .ok (.iadd, 1) := by decide +kernel
theorem dX10_distances_83 : decode cX10_distances 83 = .ok (.iaload, 1) := by decide +kernel
theorem dX10_distances_84 : decode cX10_distances 84 = .ok (.istore 4, 2) := by decide +kernel
theorem dX10_distances_86 : decode cX10_distances 86 = .ok (.aload_n 0, 1) := by decide +kernel
theorem dX10_distances_87 : decode cX10_distances 87 = .ok (.getfield 30, 3) := by decide +kernel
theorem dX10_distances_90 : decode cX10_distances 90 = .ok (.iload 4, 2) := by decide +kernel
theorem dX10_distances_92 : decode cX10_distances 92 = .ok (.aload_n 0, 1) := by decide +kernel
theorem dX10_distances_93 : decode cX10_distances 93 = .ok (.getfield 30, 3) := by decide +kernel
theorem dX10_distances_96 : decode cX10_distances 96 = .ok (.iload_n 3, 1) := by decide +kernel
theorem dX10_distances_97 : decode cX10_distances 97 = .ok (.iaload, 1) := by decide +kernel
theorem dX10_distances_98 : decode cX10_distances 98 = .ok (.iload_n 1, 1) := by decide +kernel
theorem dX10_distances_99 : decode cX10_distances 99 = .ok (.if_icmp .ne 20, 3) := by decide +kernel
theorem dX10_distances_102 : decode cX10_distances 102 = .ok (.aload_n 0, 1) := by decide +kernel
theorem dX10_distances_103 : decode cX10_distances 103 = .ok (.getfield 30, 3) := by decide +kernel
theorem dX10_distances_106 : decode cX10_distances 106 = .ok (.iload 4, 2) := by decide +kernel
theorem dX10_distances_108 : decode cX10_distances 108 = .ok (.iaload, 1) := by decide +kernel
theorem dX10_distances_109 : decode cX10_distances 109 = .ok (.iconst (-1), 1) := by decide +kernel
theorem dX10_distances_110 : decode cX10_distances 110 = .ok (.if_icmp .ne 9, 3) := by decide +kernel
theorem dX10_distances_113 : decode cX10_distances 113 = .ok (.iload_n 1, 1) := by decide +kernel
theorem dX10_distances_114 : decode cX10_distances 114 = .ok (.iconst 1, 1) := by decide +kernel
theorem dX10_distances_115 : decode cX10_distances 115 = .ok (.iadd, 1) := by decide +kernel
theorem dX10_distances_116 : decode cX10_distances 116 = .ok (.goto 10, 3) := by decide +kernel
theorem dX10_distances_119 : decode cX10_distances 119 = .ok (.aload_n 0, 1) := by decide +kernel
theorem dX10_distances_120 : decode cX10_distances 120 = .ok (.getfield 30, 3) := by decide +kernel
theorem dX10_distances_123 : decode cX10_distances 123 = .ok (.iload 4, 2) := by decide +kernel
theorem dX10_distances_125 : decode cX10_distances 125 = .ok (.iaload, 1) := by decide +kernel
theorem dX10_distances_126 : decode cX10_distances 126 = .ok (.iastore, 1) := by decide +kernel
theorem dX10_distances_127 : decode cX10_distances 127 = .ok (.iinc 2 1, 3) := by decide +kernel
theorem dX10_distances_130 : decode cX10_distances 130 = .ok (.goto (-91), 3) := by decide +kernel
theorem dX10_distances_133 : decode cX10_distances 133 = .ok (.iinc 1 1, 3) := by decide +kernel
theorem dX10_distances_136 : decode cX10_distances 136 = .ok (.goto (-105), 3) := by decide +kernel
theorem dX10_distances_139 : decode cX10_distances 139 = .ok (.return_, 1) := by decide +kernel
set_option maxRecDepth 100000 in
theorem w_Mo_distances_L2 {p : Program} {l : Launch} {e : Env} {s : State} {m : MethodId} {args : Array Value} {below : List Frame} {meth : Method} {c : Code} {Q : State → Prop} {A : Nat → Prop} {D : va_G} {cI cJ cZ cO : ClassId} {q_this q_m q_saved q_w q_savedWords q_isSaved q_text q_far q_queue q_parent q_by q_seen q_path q_row q_more q_stateOf : Nat} {v_textLength : Int32} {v_steps : Int32} {v_missing : Int64} {v_mores : Int32} {v_hash : Int64} {v_m : (Nat → Int32)} {x : (Nat → Int32)} (C0 : Cx p s m args c A D cI cJ cZ cO cX10_distances 5 RX10) (hQ : RtV p l e rm_Mo_distances s m args below meth c Q A D cX10_distances (ws_Mo_distances cI cJ cZ q_this q_m q_saved q_w q_savedWords q_isSaved q_text q_far q_queue q_parent q_by q_seen q_path q_row q_more q_stateOf v_textLength v_steps v_missing v_mores v_hash v_m x)) {K : Int32 → (Nat → Int32) → Option ((Nat → Int32))} (hK : ∀ (x1 : Int32) (v_far : (Nat → Int32)) (H : Heap) (locs : List Loc) (ls : Array Slot), K x1 v_far = some x → Wd s A D (ws_Mo_distances cI cJ cZ q_this q_m q_saved q_w q_savedWords q_isSaved q_text q_far q_queue q_parent q_by q_seen q_path q_row q_more q_stateOf v_textLength v_steps v_missing v_mores v_hash v_m v_far) H locs → lv_has ls 5 [(0, .ref q_this)] → W p l e rm_Mo_distances s m args below meth c H locs 0 0 Q (F0 m 29 ls [])) {rec : Int32 → (Nat → Int32) → Option ((Nat → Int32))} (hrec : ∀ (x1 : Int32) (v_far : (Nat → Int32)) (H : Heap) (locs : List Loc) (ls : Array Slot), rec x1 v_far = some x → Wd s A D (ws_Mo_distances cI cJ cZ q_this q_m q_saved q_w q_savedWords q_isSaved q_text q_far q_queue q_parent q_by q_seen q_path q_row q_more q_stateOf v_textLength v_steps v_missing v_mores v_hash v_m v_far) H locs → lv_has ls 5 [(0, .ref q_this), (1, .int x1)] → W p l e rm_Mo_distances s m args below meth c H locs 0 0 Q (F0 m 2 ls [])) (x1 : Int32) (v_far : (Nat → Int32)) {H : Heap} {locs : List Loc} {ls : Array Slot} (h : f_Mo_distances_L2 K rec x1 v_far = some x) (w : Wd s A D (ws_Mo_distances cI cJ cZ q_this q_m q_saved q_w q_savedWords q_isSaved q_text q_far q_queue q_parent q_by q_seen q_path q_row q_more q_stateOf v_textLength v_steps v_missing v_mores v_hash v_m v_far) H locs) (hl : lv_has ls 5 [(0, .ref q_this), (1, .int x1)]) : W p l e rm_Mo_distances s m args below meth c H locs 0 0 Q (F0 m 2 ls []) := by
  obtain ⟨hx, hb, hml, hown, hts, -, -⟩ := id C0
  unfold f_Mo_distances_L2 at h
  refine lv_iload_n hx hb dX10_distances_2 rfl (lv_at hl 1 rfl) ?_
  refine lv_bipush (v := (8 : Int32)) hx hb dX10_distances_3 (by decide) ?_
  refine lv_icmp_ge (tgt := 29) hx hb dX10_distances_5 (by decide) (fun hc => ?_) (fun hc => ?_)
  · have h := if_h hc h
    exact hK _ _ _ _ _ h w (lv_sub hl [0] rfl)
  · have h := nf_h hc h
    refine lv_aload_n hx hb dX10_distances_8 rfl (lv_at hl 0 rfl) ?_
    refine r_get C0 w 0 rfl kf_Mo 7 (by decide) lf_RX10_30 rfl dX10_distances_9 ?_
    refine lv_iload_n hx hb dX10_distances_12 rfl (lv_at hl 1 rfl) ?_
    refine lv_iload_n hx hb dX10_distances_13 rfl (lv_at hl 1 rfl) ?_
    obtain ⟨t, et⟩ : ∃ y : Int32, y = (if x1 = 0 then (0 : Int32) else (-1 : Int32)) := ⟨_, rfl⟩
    have h := bnd_at et h
    have J : W p l e rm_Mo_distances s m args below meth c H locs 0 0 Q (F0 m 22 ls [.int t, .int x1, .ref q_far]) := by
      obtain ⟨hi, h⟩ := gIn_h h
      obtain ⟨v_far_1, ev_far_1⟩ : ∃ y, y = (upd v_far x1.toNatClampNeg t) := ⟨_, rfl⟩
      have h := bnd_at ev_far_1 h
      refine r_iast C0 w 2 rfl (f' := v_far_1) rfl hi ev_far_1 dX10_distances_22 (ws' := (ws_Mo_distances cI cJ cZ q_this q_m q_saved q_w q_savedWords q_isSaved q_text q_far q_queue q_parent q_by q_seen q_path q_row q_more q_stateOf v_textLength v_steps v_missing v_mores v_hash v_m v_far_1)) rfl (fun H locs w => ?_)
      obtain ⟨x1_1, ex1_1⟩ : ∃ y : Int32, y = (x1 + 1) := ⟨_, rfl⟩
      have h := bnd_at ex1_1 h
      refine lv_iinc (v := x1_1) (lv' := [(1, .int x1_1), (0, .ref q_this)]) hx hb dX10_distances_23 hl (k := 1) rfl (by rw [ex1_1]; rfl) (by decide) rfl (fun ls hl => ?_)
      refine lv_goto (tgt := 2) hx hb dX10_distances_26 (by decide) ?_
      exact hrec _ _ _ _ _ h w (lv_sub hl [1, 0] rfl)
    refine lv_if_ne (tgt := 21) hx hb dX10_distances_14 (by decide) (fun hc => ?_) (fun hc => ?_)
    · refine lv_iconst (v := (-1 : Int32)) hx hb dX10_distances_21 (by decide) ?_
      exact r_eqi (et.trans (if_neg hc)) J
    · refine lv_iconst (v := (0 : Int32)) hx hb dX10_distances_17 (by decide) ?_
      refine lv_goto (tgt := 22) hx hb dX10_distances_18 (by decide) ?_
      exact r_eqi (et.trans (if_pos hc)) J
set_option maxRecDepth 100000 in
theorem wl_Mo_distances_L2 {p : Program} {l : Launch} {e : Env} {s : State} {m : MethodId} {args : Array Value} {below : List Frame} {meth : Method} {c : Code} {Q : State → Prop} {A : Nat → Prop} {D : va_G} {cI cJ cZ cO : ClassId} {q_this q_m q_saved q_w q_savedWords q_isSaved q_text q_far q_queue q_parent q_by q_seen q_path q_row q_more q_stateOf : Nat} {v_textLength : Int32} {v_steps : Int32} {v_missing : Int64} {v_mores : Int32} {v_hash : Int64} {v_m : (Nat → Int32)} {x : (Nat → Int32)} (C0 : Cx p s m args c A D cI cJ cZ cO cX10_distances 5 RX10) (hQ : RtV p l e rm_Mo_distances s m args below meth c Q A D cX10_distances (ws_Mo_distances cI cJ cZ q_this q_m q_saved q_w q_savedWords q_isSaved q_text q_far q_queue q_parent q_by q_seen q_path q_row q_more q_stateOf v_textLength v_steps v_missing v_mores v_hash v_m x)) {K : Int32 → (Nat → Int32) → Option ((Nat → Int32))} (hK : ∀ (x1 : Int32) (v_far : (Nat → Int32)) (H : Heap) (locs : List Loc) (ls : Array Slot), K x1 v_far = some x → Wd s A D (ws_Mo_distances cI cJ cZ q_this q_m q_saved q_w q_savedWords q_isSaved q_text q_far q_queue q_parent q_by q_seen q_path q_row q_more q_stateOf v_textLength v_steps v_missing v_mores v_hash v_m v_far) H locs → lv_has ls 5 [(0, .ref q_this)] → W p l e rm_Mo_distances s m args below meth c H locs 0 0 Q (F0 m 29 ls [])) : ∀ (n : Nat) (x1 : Int32) (v_far : (Nat → Int32)) (H : Heap) (locs : List Loc) (ls : Array Slot), itr (fun _ _ => none) (f_Mo_distances_L2 K) n x1 v_far = some x → Wd s A D (ws_Mo_distances cI cJ cZ q_this q_m q_saved q_w q_savedWords q_isSaved q_text q_far q_queue q_parent q_by q_seen q_path q_row q_more q_stateOf v_textLength v_steps v_missing v_mores v_hash v_m v_far) H locs → lv_has ls 5 [(0, .ref q_this), (1, .int x1)] → W p l e rm_Mo_distances s m args below meth c H locs 0 0 Q (F0 m 2 ls []) := by
  intro n
  induction n with
  | zero => intro _ _ _ _ _ h; cases (show none = some _ from h)
  | succ n ih => intro _ _ _ _ _ h w hl; exact w_Mo_distances_L2 C0 hQ hK ih _ _ h w hl
set_option maxRecDepth 100000 in
theorem w_Mo_distances_J126 {p : Program} {l : Launch} {e : Env} {s : State} {m : MethodId} {args : Array Value} {below : List Frame} {meth : Method} {c : Code} {Q : State → Prop} {A : Nat → Prop} {D : va_G} {cI cJ cZ cO : ClassId} {q_this q_m q_saved q_w q_savedWords q_isSaved q_text q_far q_queue q_parent q_by q_seen q_path q_row q_more q_stateOf : Nat} {v_textLength : Int32} {v_steps : Int32} {v_missing : Int64} {v_mores : Int32} {v_hash : Int64} {v_m : (Nat → Int32)} {v_far : (Nat → Int32)} {x : (Nat → Int32)} {x1 : Int32} {x2 : Int32} {s1 : Int32} {s2 : Int32} (C0 : Cx p s m args c A D cI cJ cZ cO cX10_distances 5 RX10) (hQ : RtV p l e rm_Mo_distances s m args below meth c Q A D cX10_distances (ws_Mo_distances cI cJ cZ q_this q_m q_saved q_w q_savedWords q_isSaved q_text q_far q_queue q_parent q_by q_seen q_path q_row q_more q_stateOf v_textLength v_steps v_missing v_mores v_hash v_m x)) {K : Int32 → (Nat → Int32) → Option ((Nat → Int32))} (hK : ∀ (y2 : Int32) (u_far : (Nat → Int32)) (H : Heap) (locs : List Loc) (ls : Array Slot), K y2 u_far = some x → Wd s A D (ws_Mo_distances cI cJ cZ q_this q_m q_saved q_w q_savedWords q_isSaved q_text q_far q_queue q_parent q_by q_seen q_path q_row q_more q_stateOf v_textLength v_steps v_missing v_mores v_hash v_m u_far) H locs → lv_has ls 5 [(0, .ref q_this), (1, .int x1)] → W p l e rm_Mo_distances s m args below meth c H locs 0 0 Q (F0 m 133 ls [])) {rec : Int32 → (Nat → Int32) → Option ((Nat → Int32))} (hrec : ∀ (y2 : Int32) (u_far : (Nat → Int32)) (H : Heap) (locs : List Loc) (ls : Array Slot), rec y2 u_far = some x → Wd s A D (ws_Mo_distances cI cJ cZ q_this q_m q_saved q_w q_savedWords q_isSaved q_text q_far q_queue q_parent q_by q_seen q_path q_row q_more q_stateOf v_textLength v_steps v_missing v_mores v_hash v_m u_far) H locs → lv_has ls 5 [(0, .ref q_this), (1, .int x1), (2, .int y2)] → W p l e rm_Mo_distances s m args below meth c H locs 0 0 Q (F0 m 39 ls [])) {H : Heap} {locs : List Loc} {ls : Array Slot} (h : f_Mo_distances_J126 rec x2 s1 s2 v_far = some x) (w : Wd s A D (ws_Mo_distances cI cJ cZ q_this q_m q_saved q_w q_savedWords q_isSaved q_text q_far q_queue q_parent q_by q_seen q_path q_row q_more q_stateOf v_textLength v_steps v_missing v_mores v_hash v_m v_far) H locs) (hl : lv_has ls 5 [(0, .ref q_this), (1, .int x1), (2, .int x2)]) : W p l e rm_Mo_distances s m args below meth c H locs 0 0 Q (F0 m 126 ls [.int s2, .int s1, .ref q_far]) := by
  obtain ⟨hx, hb, hml, hown, hts, -, -⟩ := id C0
  unfold f_Mo_distances_J126 at h
  obtain ⟨hi, h⟩ := gIn_h h
  obtain ⟨v_far_1, ev_far_1⟩ : ∃ y, y = (upd v_far s1.toNatClampNeg s2) := ⟨_, rfl⟩
  have h := bnd_at ev_far_1 h
  refine r_iast C0 w 2 rfl (f' := v_far_1) rfl hi ev_far_1 dX10_distances_126 (ws' := (ws_Mo_distances cI cJ cZ q_this q_m q_saved q_w q_savedWords q_isSaved q_text q_far q_queue q_parent q_by q_seen q_path q_row q_more q_stateOf v_textLength v_steps v_missing v_mores v_hash v_m v_far_1)) rfl (fun H locs w => ?_)
  obtain ⟨x2_1, ex2_1⟩ : ∃ y : Int32, y = (x2 + 1) := ⟨_, rfl⟩
  have h := bnd_at ex2_1 h
  refine lv_iinc (v := x2_1) (lv' := [(2, .int x2_1), (0, .ref q_this), (1, .int x1)]) hx hb dX10_distances_127 hl (k := 2) rfl (by rw [ex2_1]; rfl) (by decide) rfl (fun ls hl => ?_)
  refine lv_goto (tgt := 39) hx hb dX10_distances_130 (by decide) ?_
  exact hrec _ _ _ _ _ h w (lv_sub hl [1, 2, 0] rfl)
set_option maxRecDepth 100000 in
theorem w_Mo_distances_J119 {p : Program} {l : Launch} {e : Env} {s : State} {m : MethodId} {args : Array Value} {below : List Frame} {meth : Method} {c : Code} {Q : State → Prop} {A : Nat → Prop} {D : va_G} {cI cJ cZ cO : ClassId} {q_this q_m q_saved q_w q_savedWords q_isSaved q_text q_far q_queue q_parent q_by q_seen q_path q_row q_more q_stateOf : Nat} {v_textLength : Int32} {v_steps : Int32} {v_missing : Int64} {v_mores : Int32} {v_hash : Int64} {v_m : (Nat → Int32)} {v_far : (Nat → Int32)} {x : (Nat → Int32)} {x1 : Int32} {x2 : Int32} {x4 : Int32} {s1 : Int32} (C0 : Cx p s m args c A D cI cJ cZ cO cX10_distances 5 RX10) (hQ : RtV p l e rm_Mo_distances s m args below meth c Q A D cX10_distances (ws_Mo_distances cI cJ cZ q_this q_m q_saved q_w q_savedWords q_isSaved q_text q_far q_queue q_parent q_by q_seen q_path q_row q_more q_stateOf v_textLength v_steps v_missing v_mores v_hash v_m x)) {K : Int32 → (Nat → Int32) → Option ((Nat → Int32))} (hK : ∀ (y2 : Int32) (u_far : (Nat → Int32)) (H : Heap) (locs : List Loc) (ls : Array Slot), K y2 u_far = some x → Wd s A D (ws_Mo_distances cI cJ cZ q_this q_m q_saved q_w q_savedWords q_isSaved q_text q_far q_queue q_parent q_by q_seen q_path q_row q_more q_stateOf v_textLength v_steps v_missing v_mores v_hash v_m u_far) H locs → lv_has ls 5 [(0, .ref q_this), (1, .int x1)] → W p l e rm_Mo_distances s m args below meth c H locs 0 0 Q (F0 m 133 ls [])) {rec : Int32 → (Nat → Int32) → Option ((Nat → Int32))} (hrec : ∀ (y2 : Int32) (u_far : (Nat → Int32)) (H : Heap) (locs : List Loc) (ls : Array Slot), rec y2 u_far = some x → Wd s A D (ws_Mo_distances cI cJ cZ q_this q_m q_saved q_w q_savedWords q_isSaved q_text q_far q_queue q_parent q_by q_seen q_path q_row q_more q_stateOf v_textLength v_steps v_missing v_mores v_hash v_m u_far) H locs → lv_has ls 5 [(0, .ref q_this), (1, .int x1), (2, .int y2)] → W p l e rm_Mo_distances s m args below meth c H locs 0 0 Q (F0 m 39 ls [])) {H : Heap} {locs : List Loc} {ls : Array Slot} (h : f_Mo_distances_J119 rec x2 x4 s1 v_far = some x) (w : Wd s A D (ws_Mo_distances cI cJ cZ q_this q_m q_saved q_w q_savedWords q_isSaved q_text q_far q_queue q_parent q_by q_seen q_path q_row q_more q_stateOf v_textLength v_steps v_missing v_mores v_hash v_m v_far) H locs) (hl : lv_has ls 5 [(0, .ref q_this), (1, .int x1), (2, .int x2), (4, .int x4)]) : W p l e rm_Mo_distances s m args below meth c H locs 0 0 Q (F0 m 119 ls [.int s1, .ref q_far]) := by
  obtain ⟨hx, hb, hml, hown, hts, -, -⟩ := id C0
  unfold f_Mo_distances_J119 at h
  refine lv_aload_n hx hb dX10_distances_119 rfl (lv_at hl 0 rfl) ?_
  refine r_get C0 w 0 rfl kf_Mo 7 (by decide) lf_RX10_30 rfl dX10_distances_120 ?_
  refine lv_iload hx hb dX10_distances_123 (lv_at hl 3 rfl) ?_
  obtain ⟨hi, h⟩ := gIn_h h
  refine r_iald C0 w 2 rfl rfl hi dX10_distances_125 ?_
  exact w_Mo_distances_J126 C0 hQ hK hrec h w (lv_sub hl [0, 1, 2] rfl)
set_option maxRecDepth 100000 in
theorem w_Mo_distances_L39 {p : Program} {l : Launch} {e : Env} {s : State} {m : MethodId} {args : Array Value} {below : List Frame} {meth : Method} {c : Code} {Q : State → Prop} {A : Nat → Prop} {D : va_G} {cI cJ cZ cO : ClassId} {q_this q_m q_saved q_w q_savedWords q_isSaved q_text q_far q_queue q_parent q_by q_seen q_path q_row q_more q_stateOf : Nat} {v_textLength : Int32} {v_steps : Int32} {v_missing : Int64} {v_mores : Int32} {v_hash : Int64} {v_m : (Nat → Int32)} {x1 : Int32} {x : (Nat → Int32)} (C0 : Cx p s m args c A D cI cJ cZ cO cX10_distances 5 RX10) (hQ : RtV p l e rm_Mo_distances s m args below meth c Q A D cX10_distances (ws_Mo_distances cI cJ cZ q_this q_m q_saved q_w q_savedWords q_isSaved q_text q_far q_queue q_parent q_by q_seen q_path q_row q_more q_stateOf v_textLength v_steps v_missing v_mores v_hash v_m x)) {K : Int32 → (Nat → Int32) → Option ((Nat → Int32))} (hK : ∀ (x2 : Int32) (v_far : (Nat → Int32)) (H : Heap) (locs : List Loc) (ls : Array Slot), K x2 v_far = some x → Wd s A D (ws_Mo_distances cI cJ cZ q_this q_m q_saved q_w q_savedWords q_isSaved q_text q_far q_queue q_parent q_by q_seen q_path q_row q_more q_stateOf v_textLength v_steps v_missing v_mores v_hash v_m v_far) H locs → lv_has ls 5 [(0, .ref q_this), (1, .int x1)] → W p l e rm_Mo_distances s m args below meth c H locs 0 0 Q (F0 m 133 ls [])) {rec : Int32 → (Nat → Int32) → Option ((Nat → Int32))} (hrec : ∀ (x2 : Int32) (v_far : (Nat → Int32)) (H : Heap) (locs : List Loc) (ls : Array Slot), rec x2 v_far = some x → Wd s A D (ws_Mo_distances cI cJ cZ q_this q_m q_saved q_w q_savedWords q_isSaved q_text q_far q_queue q_parent q_by q_seen q_path q_row q_more q_stateOf v_textLength v_steps v_missing v_mores v_hash v_m v_far) H locs → lv_has ls 5 [(0, .ref q_this), (1, .int x1), (2, .int x2)] → W p l e rm_Mo_distances s m args below meth c H locs 0 0 Q (F0 m 39 ls [])) (x2 : Int32) (v_far : (Nat → Int32)) {H : Heap} {locs : List Loc} {ls : Array Slot} (h : f_Mo_distances_L39 v_m x1 K rec x2 v_far = some x) (w : Wd s A D (ws_Mo_distances cI cJ cZ q_this q_m q_saved q_w q_savedWords q_isSaved q_text q_far q_queue q_parent q_by q_seen q_path q_row q_more q_stateOf v_textLength v_steps v_missing v_mores v_hash v_m v_far) H locs) (hl : lv_has ls 5 [(0, .ref q_this), (1, .int x1), (2, .int x2)]) : W p l e rm_Mo_distances s m args below meth c H locs 0 0 Q (F0 m 39 ls []) := by
  obtain ⟨hx, hb, hml, hown, hts, -, -⟩ := id C0
  unfold f_Mo_distances_L39 at h
  refine lv_iload_n hx hb dX10_distances_39 rfl (lv_at hl 2 rfl) ?_
  refine lv_aload_n hx hb dX10_distances_40 rfl (lv_at hl 0 rfl) ?_
  refine r_get C0 w 0 rfl kf_Mo 0 (by decide) lf_RX10_7 rfl dX10_distances_41 ?_
  refine lv_iconst (v := (0 : Int32)) hx hb dX10_distances_44 (by decide) ?_
  refine r_iald C0 w 1 rfl (k := 0) (by decide) (inl (by decide)) dX10_distances_45 ?_
  refine lv_aload_n hx hb dX10_distances_46 rfl (lv_at hl 0 rfl) ?_
  refine r_get C0 w 0 rfl kf_Mo 0 (by decide) lf_RX10_7 rfl dX10_distances_47 ?_
  refine lv_iconst (v := (1 : Int32)) hx hb dX10_distances_50 (by decide) ?_
  refine r_iald C0 w 1 rfl (k := 1) (by decide) (inl (by decide)) dX10_distances_51 ?_
  refine lv_imul hx hb dX10_distances_52 ?_
  refine lv_icmp_ge (tgt := 133) hx hb dX10_distances_53 (by decide) (fun hc => ?_) (fun hc => ?_)
  · have h := if_h hc h
    exact hK _ _ _ _ _ h w (lv_sub hl [0, 1] rfl)
  · have h := nf_h hc h
    refine lv_iload_n hx hb dX10_distances_56 rfl (lv_at hl 2 rfl) ?_
    refine lv_aload_n hx hb dX10_distances_57 rfl (lv_at hl 0 rfl) ?_
    refine r_get C0 w 0 rfl kf_Mo 0 (by decide) lf_RX10_7 rfl dX10_distances_58 ?_
    refine lv_iconst (v := (1 : Int32)) hx hb dX10_distances_61 (by decide) ?_
    refine r_iald C0 w 1 rfl (k := 1) (by decide) (inl (by decide)) dX10_distances_62 ?_
    obtain ⟨hz, h⟩ := gNz_h h
    refine lv_idiv hx hb dX10_distances_63 hz ?_
    refine lv_topi (fun x3 ex3 => ?_)
    have h := bnd_at ex3 h
    refine lv_istore_n (lv' := [(3, .int x3), (0, .ref q_this), (1, .int x1), (2, .int x2)]) hx hb dX10_distances_64 rfl hl (by decide) rfl (fun ls hl => ?_)
    refine lv_aload_n hx hb dX10_distances_65 rfl (lv_at hl 1 rfl) ?_
    refine r_get C0 w 0 rfl kf_Mo 0 (by decide) lf_RX10_7 rfl dX10_distances_66 ?_
    refine lv_iconst (v := (2 : Int32)) hx hb dX10_distances_69 (by decide) ?_
    refine lv_iconst (v := (3 : Int32)) hx hb dX10_distances_70 (by decide) ?_
    refine lv_iload_n hx hb dX10_distances_71 rfl (lv_at hl 0 rfl) ?_
    refine lv_imul hx hb dX10_distances_72 ?_
    refine lv_iadd hx hb dX10_distances_73 ?_
    refine lv_iload_n hx hb dX10_distances_74 rfl (lv_at hl 3 rfl) ?_
    refine lv_aload_n hx hb dX10_distances_75 rfl (lv_at hl 1 rfl) ?_
    refine r_get C0 w 0 rfl kf_Mo 0 (by decide) lf_RX10_7 rfl dX10_distances_76 ?_
    refine lv_iconst (v := (1 : Int32)) hx hb dX10_distances_79 (by decide) ?_
    refine r_iald C0 w 1 rfl (k := 1) (by decide) (inl (by decide)) dX10_distances_80 ?_
    obtain ⟨hz, h⟩ := gNz_h h
    refine lv_irem hx hb dX10_distances_81 hz ?_
    refine lv_iadd hx hb dX10_distances_82 ?_
    obtain ⟨hi, h⟩ := gIn_h h
    refine r_iald C0 w 1 rfl rfl hi dX10_distances_83 ?_
    refine lv_topi (fun x4 ex4 => ?_)
    have h := bnd_at ex4 h
    refine lv_istore (lv' := [(4, .int x4), (3, .int x3), (0, .ref q_this), (1, .int x1), (2, .int x2)]) hx hb dX10_distances_84 hl (by decide) rfl (fun ls hl => ?_)
    refine lv_aload_n hx hb dX10_distances_86 rfl (lv_at hl 2 rfl) ?_
    refine r_get C0 w 0 rfl kf_Mo 7 (by decide) lf_RX10_30 rfl dX10_distances_87 ?_
    refine lv_iload hx hb dX10_distances_90 (lv_at hl 0 rfl) ?_
    refine lv_aload_n hx hb dX10_distances_92 rfl (lv_at hl 2 rfl) ?_
    refine r_get C0 w 0 rfl kf_Mo 7 (by decide) lf_RX10_30 rfl dX10_distances_93 ?_
    refine lv_iload_n hx hb dX10_distances_96 rfl (lv_at hl 1 rfl) ?_
    obtain ⟨hi, h⟩ := gIn_h h
    refine r_iald C0 w 2 rfl rfl hi dX10_distances_97 ?_
    refine lv_iload_n hx hb dX10_distances_98 rfl (lv_at hl 3 rfl) ?_
    refine lv_icmp_ne (tgt := 119) hx hb dX10_distances_99 (by decide) (fun hc => ?_) (fun hc => ?_)
    · have h := nf_h hc h
      exact w_Mo_distances_J119 C0 hQ hK hrec h w (lv_sub hl [2, 3, 4, 0] rfl)
    · have h := if_h hc h
      refine lv_aload_n hx hb dX10_distances_102 rfl (lv_at hl 2 rfl) ?_
      refine r_get C0 w 0 rfl kf_Mo 7 (by decide) lf_RX10_30 rfl dX10_distances_103 ?_
      refine lv_iload hx hb dX10_distances_106 (lv_at hl 0 rfl) ?_
      obtain ⟨hi, h⟩ := gIn_h h
      refine r_iald C0 w 2 rfl rfl hi dX10_distances_108 ?_
      refine lv_iconst (v := (-1 : Int32)) hx hb dX10_distances_109 (by decide) ?_
      refine lv_icmp_ne (tgt := 119) hx hb dX10_distances_110 (by decide) (fun hc => ?_) (fun hc => ?_)
      · have h := nf_h hc h
        exact w_Mo_distances_J119 C0 hQ hK hrec h w (lv_sub hl [2, 3, 4, 0] rfl)
      · have h := if_h hc h
        refine lv_iload_n hx hb dX10_distances_113 rfl (lv_at hl 3 rfl) ?_
        refine lv_iconst (v := (1 : Int32)) hx hb dX10_distances_114 (by decide) ?_
        refine lv_iadd hx hb dX10_distances_115 ?_
        refine lv_goto (tgt := 126) hx hb dX10_distances_116 (by decide) ?_
        exact w_Mo_distances_J126 C0 hQ hK hrec h w (lv_sub hl [2, 3, 4] rfl)
set_option maxRecDepth 100000 in
theorem wl_Mo_distances_L39 {p : Program} {l : Launch} {e : Env} {s : State} {m : MethodId} {args : Array Value} {below : List Frame} {meth : Method} {c : Code} {Q : State → Prop} {A : Nat → Prop} {D : va_G} {cI cJ cZ cO : ClassId} {q_this q_m q_saved q_w q_savedWords q_isSaved q_text q_far q_queue q_parent q_by q_seen q_path q_row q_more q_stateOf : Nat} {v_textLength : Int32} {v_steps : Int32} {v_missing : Int64} {v_mores : Int32} {v_hash : Int64} {v_m : (Nat → Int32)} {x1 : Int32} {x : (Nat → Int32)} (C0 : Cx p s m args c A D cI cJ cZ cO cX10_distances 5 RX10) (hQ : RtV p l e rm_Mo_distances s m args below meth c Q A D cX10_distances (ws_Mo_distances cI cJ cZ q_this q_m q_saved q_w q_savedWords q_isSaved q_text q_far q_queue q_parent q_by q_seen q_path q_row q_more q_stateOf v_textLength v_steps v_missing v_mores v_hash v_m x)) {K : Int32 → (Nat → Int32) → Option ((Nat → Int32))} (hK : ∀ (x2 : Int32) (v_far : (Nat → Int32)) (H : Heap) (locs : List Loc) (ls : Array Slot), K x2 v_far = some x → Wd s A D (ws_Mo_distances cI cJ cZ q_this q_m q_saved q_w q_savedWords q_isSaved q_text q_far q_queue q_parent q_by q_seen q_path q_row q_more q_stateOf v_textLength v_steps v_missing v_mores v_hash v_m v_far) H locs → lv_has ls 5 [(0, .ref q_this), (1, .int x1)] → W p l e rm_Mo_distances s m args below meth c H locs 0 0 Q (F0 m 133 ls [])) : ∀ (n : Nat) (x2 : Int32) (v_far : (Nat → Int32)) (H : Heap) (locs : List Loc) (ls : Array Slot), itr (fun _ _ => none) (f_Mo_distances_L39 v_m x1 K) n x2 v_far = some x → Wd s A D (ws_Mo_distances cI cJ cZ q_this q_m q_saved q_w q_savedWords q_isSaved q_text q_far q_queue q_parent q_by q_seen q_path q_row q_more q_stateOf v_textLength v_steps v_missing v_mores v_hash v_m v_far) H locs → lv_has ls 5 [(0, .ref q_this), (1, .int x1), (2, .int x2)] → W p l e rm_Mo_distances s m args below meth c H locs 0 0 Q (F0 m 39 ls []) := by
  intro n
  induction n with
  | zero => intro _ _ _ _ _ h; cases (show none = some _ from h)
  | succ n ih => intro _ _ _ _ _ h w hl; exact w_Mo_distances_L39 C0 hQ hK ih _ _ h w hl
set_option maxRecDepth 100000 in
theorem w_Mo_distances_L31 {p : Program} {l : Launch} {e : Env} {s : State} {m : MethodId} {args : Array Value} {below : List Frame} {meth : Method} {c : Code} {Q : State → Prop} {A : Nat → Prop} {D : va_G} {cI cJ cZ cO : ClassId} {q_this q_m q_saved q_w q_savedWords q_isSaved q_text q_far q_queue q_parent q_by q_seen q_path q_row q_more q_stateOf : Nat} {v_textLength : Int32} {v_steps : Int32} {v_missing : Int64} {v_mores : Int32} {v_hash : Int64} {v_m : (Nat → Int32)} {x : (Nat → Int32)} (C0 : Cx p s m args c A D cI cJ cZ cO cX10_distances 5 RX10) (hQ : RtV p l e rm_Mo_distances s m args below meth c Q A D cX10_distances (ws_Mo_distances cI cJ cZ q_this q_m q_saved q_w q_savedWords q_isSaved q_text q_far q_queue q_parent q_by q_seen q_path q_row q_more q_stateOf v_textLength v_steps v_missing v_mores v_hash v_m x)) {K : Int32 → (Nat → Int32) → Option ((Nat → Int32))} (hK : ∀ (x1 : Int32) (v_far : (Nat → Int32)) (H : Heap) (locs : List Loc) (ls : Array Slot), K x1 v_far = some x → Wd s A D (ws_Mo_distances cI cJ cZ q_this q_m q_saved q_w q_savedWords q_isSaved q_text q_far q_queue q_parent q_by q_seen q_path q_row q_more q_stateOf v_textLength v_steps v_missing v_mores v_hash v_m v_far) H locs → lv_has ls 5 [] → W p l e rm_Mo_distances s m args below meth c H locs 0 0 Q (F0 m 139 ls [])) {rec : Int32 → (Nat → Int32) → Option ((Nat → Int32))} (hrec : ∀ (x1 : Int32) (v_far : (Nat → Int32)) (H : Heap) (locs : List Loc) (ls : Array Slot), rec x1 v_far = some x → Wd s A D (ws_Mo_distances cI cJ cZ q_this q_m q_saved q_w q_savedWords q_isSaved q_text q_far q_queue q_parent q_by q_seen q_path q_row q_more q_stateOf v_textLength v_steps v_missing v_mores v_hash v_m v_far) H locs → lv_has ls 5 [(0, .ref q_this), (1, .int x1)] → W p l e rm_Mo_distances s m args below meth c H locs 0 0 Q (F0 m 31 ls [])) (x1 : Int32) (v_far : (Nat → Int32)) {H : Heap} {locs : List Loc} {ls : Array Slot} (h : f_Mo_distances_L31 v_m K rec x1 v_far = some x) (w : Wd s A D (ws_Mo_distances cI cJ cZ q_this q_m q_saved q_w q_savedWords q_isSaved q_text q_far q_queue q_parent q_by q_seen q_path q_row q_more q_stateOf v_textLength v_steps v_missing v_mores v_hash v_m v_far) H locs) (hl : lv_has ls 5 [(0, .ref q_this), (1, .int x1)]) : W p l e rm_Mo_distances s m args below meth c H locs 0 0 Q (F0 m 31 ls []) := by
  obtain ⟨hx, hb, hml, hown, hts, -, -⟩ := id C0
  unfold f_Mo_distances_L31 at h
  refine lv_iload_n hx hb dX10_distances_31 rfl (lv_at hl 1 rfl) ?_
  refine lv_bipush (v := (8 : Int32)) hx hb dX10_distances_32 (by decide) ?_
  refine lv_icmp_ge (tgt := 139) hx hb dX10_distances_34 (by decide) (fun hc => ?_) (fun hc => ?_)
  · have h := if_h hc h
    exact hK _ _ _ _ _ h w (lv_sub hl [] rfl)
  · have h := nf_h hc h
    refine lv_iconst (v := (0 : Int32)) hx hb dX10_distances_37 (by decide) ?_
    refine lv_istore_n (lv' := [(2, .int (0 : Int32)), (0, .ref q_this), (1, .int x1)]) hx hb dX10_distances_38 rfl hl (by decide) rfl (fun ls hl => ?_)
    refine wl_Mo_distances_L39 C0 hQ (fun x2 v_far_1 H locs ls h w hl => ?_) _ _ _ _ _ _ h w (lv_sub hl [1, 2, 0] rfl)
    obtain ⟨x1_1, ex1_1⟩ : ∃ y : Int32, y = (x1 + 1) := ⟨_, rfl⟩
    have h := bnd_at ex1_1 h
    refine lv_iinc (v := x1_1) (lv' := [(1, .int x1_1), (0, .ref q_this)]) hx hb dX10_distances_133 hl (k := 1) rfl (by rw [ex1_1]; rfl) (by decide) rfl (fun ls hl => ?_)
    refine lv_goto (tgt := 31) hx hb dX10_distances_136 (by decide) ?_
    exact hrec _ _ _ _ _ h w (lv_sub hl [1, 0] rfl)
set_option maxRecDepth 100000 in
theorem wl_Mo_distances_L31 {p : Program} {l : Launch} {e : Env} {s : State} {m : MethodId} {args : Array Value} {below : List Frame} {meth : Method} {c : Code} {Q : State → Prop} {A : Nat → Prop} {D : va_G} {cI cJ cZ cO : ClassId} {q_this q_m q_saved q_w q_savedWords q_isSaved q_text q_far q_queue q_parent q_by q_seen q_path q_row q_more q_stateOf : Nat} {v_textLength : Int32} {v_steps : Int32} {v_missing : Int64} {v_mores : Int32} {v_hash : Int64} {v_m : (Nat → Int32)} {x : (Nat → Int32)} (C0 : Cx p s m args c A D cI cJ cZ cO cX10_distances 5 RX10) (hQ : RtV p l e rm_Mo_distances s m args below meth c Q A D cX10_distances (ws_Mo_distances cI cJ cZ q_this q_m q_saved q_w q_savedWords q_isSaved q_text q_far q_queue q_parent q_by q_seen q_path q_row q_more q_stateOf v_textLength v_steps v_missing v_mores v_hash v_m x)) {K : Int32 → (Nat → Int32) → Option ((Nat → Int32))} (hK : ∀ (x1 : Int32) (v_far : (Nat → Int32)) (H : Heap) (locs : List Loc) (ls : Array Slot), K x1 v_far = some x → Wd s A D (ws_Mo_distances cI cJ cZ q_this q_m q_saved q_w q_savedWords q_isSaved q_text q_far q_queue q_parent q_by q_seen q_path q_row q_more q_stateOf v_textLength v_steps v_missing v_mores v_hash v_m v_far) H locs → lv_has ls 5 [] → W p l e rm_Mo_distances s m args below meth c H locs 0 0 Q (F0 m 139 ls [])) : ∀ (n : Nat) (x1 : Int32) (v_far : (Nat → Int32)) (H : Heap) (locs : List Loc) (ls : Array Slot), itr (fun _ _ => none) (f_Mo_distances_L31 v_m K) n x1 v_far = some x → Wd s A D (ws_Mo_distances cI cJ cZ q_this q_m q_saved q_w q_savedWords q_isSaved q_text q_far q_queue q_parent q_by q_seen q_path q_row q_more q_stateOf v_textLength v_steps v_missing v_mores v_hash v_m v_far) H locs → lv_has ls 5 [(0, .ref q_this), (1, .int x1)] → W p l e rm_Mo_distances s m args below meth c H locs 0 0 Q (F0 m 31 ls []) := by
  intro n
  induction n with
  | zero => intro _ _ _ _ _ h; cases (show none = some _ from h)
  | succ n ih => intro _ _ _ _ _ h w hl; exact w_Mo_distances_L31 C0 hQ hK ih _ _ h w hl
set_option maxRecDepth 100000 in
theorem c_Mo_distances {l : Launch} {D : va_G} {cI cJ cZ cO : ClassId} {q_this q_m q_saved q_w q_savedWords q_isSaved q_text q_far q_queue q_parent q_by q_seen q_path q_row q_more q_stateOf : Nat} {v_textLength : Int32} {v_steps : Int32} {v_missing : Int64} {v_mores : Int32} {v_hash : Int64} {v_m : (Nat → Int32)} {v_far : (Nat → Int32)} {x : (Nat → Int32)} (h : f_Mo_distances v_m v_far = some x) : ctV l D cI cJ cZ cO yX10_distances cX10_distances 5 rm_Mo_distances [.ref q_this] (ws_Mo_distances cI cJ cZ q_this q_m q_saved q_w q_savedWords q_isSaved q_text q_far q_queue q_parent q_by q_seen q_path q_row q_more q_stateOf v_textLength v_steps v_missing v_mores v_hash v_m v_far) (ws_Mo_distances cI cJ cZ q_this q_m q_saved q_w q_savedWords q_isSaved q_text q_far q_queue q_parent q_by q_seen q_path q_row q_more q_stateOf v_textLength v_steps v_missing v_mores v_hash v_m x) := by
  refine ctV_of (by decide) (Nat.le_of_ble_eq_true rfl) ?_
  intro p e s m below meth c Q A ls C0 hQ w hl
  have hl : lv_has ls 5 [(0, .ref q_this)] := hl
  generalize List.toArray (α := Value) [.ref q_this] = args at C0 hQ ⊢
  obtain ⟨hx, hb, hml, hown, hts, -, -⟩ := id C0
  unfold f_Mo_distances at h
  refine lv_iconst (v := (0 : Int32)) hx hb dX10_distances_0 (by decide) ?_
  refine lv_istore_n (lv' := [(1, .int (0 : Int32)), (0, .ref q_this)]) hx hb dX10_distances_1 rfl hl (by decide) rfl (fun ls hl => ?_)
  refine wl_Mo_distances_L2 C0 hQ (fun x1 v_far_1 H locs ls h w hl => ?_) _ _ _ _ _ _ h w (lv_sub hl [1, 0] rfl)
  refine lv_iconst (v := (0 : Int32)) hx hb dX10_distances_29 (by decide) ?_
  refine lv_istore_n (lv' := [(1, .int (0 : Int32)), (0, .ref q_this)]) hx hb dX10_distances_30 rfl hl (by decide) rfl (fun ls hl => ?_)
  refine wl_Mo_distances_L31 C0 hQ (fun x1_1 v_far_2 H locs ls h w hl => ?_) _ _ _ _ _ _ h w (lv_sub hl [1, 0] rfl)
  cases h
  exact hQ _ _ _ _ dX10_distances_139 w
theorem dX10_state_0 : decode cX10_state 0 = .ok (.aload_n 0, 1) := by decide +kernel
theorem dX10_state_1 : decode cX10_state 1 = .ok (.iload_n 1, 1) := by decide +kernel
theorem dX10_state_2 : decode cX10_state 2 = .ok (.invokevirtual 86, 3) := by decide +kernel
theorem dX10_state_5 : decode cX10_state 5 = .ok (.ifCond .eq 25, 3) := by decide +kernel
theorem dX10_state_8 : decode cX10_state 8 = .ok (.iload_n 2, 1) := by decide +kernel
theorem dX10_state_9 : decode cX10_state 9 = .ok (.iconst 0, 1) := by decide +kernel
theorem dX10_state_10 : decode cX10_state 10 = .ok (.iconst 4, 1) := by decide +kernel
theorem dX10_state_11 : decode cX10_state 11 = .ok (.invokestatic 76, 3) := by decide +kernel
theorem dX10_state_14 : decode cX10_state 14 = .ok (.ifCond .eq 16, 3) := by decide +kernel
theorem dX10_state_17 : decode cX10_state 17 = .ok (.iload_n 2, 1) := by decide +kernel
theorem dX10_state_18 : decode cX10_state 18 = .ok (.iconst 3, 1) := by decide +kernel
theorem dX10_state_19 : decode cX10_state 19 = .ok (.if_icmp .ge 14, 3) := by decide +kernel
theorem dX10_state_22 : decode cX10_state 22 = .ok (.aload_n 0, 1) := by decide +kernel
theorem dX10_state_23 : decode cX10_state 23 = .ok (.iload_n 2, 1) := by decide +kernel
theorem dX10_state_24 : decode cX10_state 24 = .ok (.invokevirtual 90, 3) := by decide +kernel
theorem dX10_state_27 : decode cX10_state 27 = .ok (.ifCond .ne 6, 3) := by decide +kernel
theorem dX10_state_30 : decode cX10_state 30 = .ok (.bipush (-2), 2) := by decide +kernel
theorem dX10_state_32 : decode cX10_state 32 = .ok (.ireturn, 1) := by decide +kernel
theorem dX10_state_33 : decode cX10_state 33 = .ok (.aload_n 0, 1) := by decide +kernel
theorem dX10_state_34 : decode cX10_state 34 = .ok (.invokevirtual 104, 3) := by decide +kernel
theorem dX10_state_37 : decode cX10_state 37 = .ok (.iload_n 2, 1) := by decide +kernel
theorem dX10_state_38 : decode cX10_state 38 = .ok (.iconst 3, 1) := by decide +kernel
theorem dX10_state_39 : decode cX10_state 39 = .ok (.if_icmp .ge 18, 3) := by decide +kernel
theorem dX10_state_42 : decode cX10_state 42 = .ok (.aload_n 0, 1) := by decide +kernel
theorem dX10_state_43 : decode cX10_state 43 = .ok (.getfield 7, 3) := by decide +kernel
theorem dX10_state_46 : decode cX10_state 46 = .ok (.iconst 2, 1) := by decide +kernel
theorem dX10_state_47 : decode cX10_state 47 = .ok (.iconst 3, 1) := by decide +kernel
theorem dX10_state_48 : decode cX10_state 48 = .ok (.iload_n 1, 1) := by decide +kernel
theorem dX10_state_49 : decode cX10_state 49 = .ok (.imul, 1) := by decide +kernel
theorem dX10_state_50 : decode cX10_state 50 = .ok (.iadd, 1) := by decide +kernel
theorem dX10_state_51 : decode cX10_state 51 = .ok (.iload_n 2, 1) := by decide +kernel
theorem dX10_state_52 : decode cX10_state 52 = .ok (.iadd, 1) := by decide +kernel
theorem dX10_state_53 : decode cX10_state 53 = .ok (.iaload, 1) := by decide +kernel
theorem dX10_state_54 : decode cX10_state 54 = .ok (.goto 26, 3) := by decide +kernel
theorem dX10_state_57 : decode cX10_state 57 = .ok (.iload_n 2, 1) := by decide +kernel
theorem dX10_state_58 : decode cX10_state 58 = .ok (.iconst 3, 1) := by decide +kernel
theorem dX10_state_59 : decode cX10_state 59 = .ok (.if_icmp .ne 15, 3) := by decide +kernel
theorem dX10_state_62 : decode cX10_state 62 = .ok (.aload_n 0, 1) := by decide +kernel
theorem dX10_state_63 : decode cX10_state 63 = .ok (.getfield 7, 3) := by decide +kernel
theorem dX10_state_66 : decode cX10_state 66 = .ok (.bipush 26, 2) := by decide +kernel
theorem dX10_state_68 : decode cX10_state 68 = .ok (.iload_n 1, 1) := by decide +kernel
theorem dX10_state_69 : decode cX10_state 69 = .ok (.iadd, 1) := by decide +kernel
theorem dX10_state_70 : decode cX10_state 70 = .ok (.iaload, 1) := by decide +kernel
theorem dX10_state_71 : decode cX10_state 71 = .ok (.goto 9, 3) := by decide +kernel
theorem dX10_state_74 : decode cX10_state 74 = .ok (.aload_n 0, 1) := by decide +kernel
theorem dX10_state_75 : decode cX10_state 75 = .ok (.getfield 30, 3) := by decide +kernel
theorem dX10_state_78 : decode cX10_state 78 = .ok (.iload_n 1, 1) := by decide +kernel
theorem dX10_state_79 : decode cX10_state 79 = .ok (.iaload, 1) := by decide +kernel
theorem dX10_state_80 : decode cX10_state 80 = .ok (.ireturn, 1) := by decide +kernel
set_option maxRecDepth 100000 in
theorem w_Mo_state_J33 {p : Program} {l : Launch} {e : Env} {s : State} {m : MethodId} {args : Array Value} {below : List Frame} {meth : Method} {c : Code} {Q : State → Prop} {A : Nat → Prop} {D : va_G} {cI cJ cZ cO : ClassId} {q_this q_m q_saved q_w q_savedWords q_isSaved q_text q_far q_queue q_parent q_by q_seen q_path q_row q_more q_stateOf : Nat} {v_textLength : Int32} {v_steps : Int32} {v_missing : Int64} {v_mores : Int32} {v_hash : Int64} {v_m : (Nat → Int32)} {v_far : (Nat → Int32)} {x : Int32 × (Nat → Int32)} {x1 : Int32} {x2 : Int32} (C0 : Cx p s m args c A D cI cJ cZ cO cX10_state 3 RX10) (hQ : RtI p l e rm_Mo_state s m args below meth c Q A D cX10_state .int (ws_Mo_state cI cJ cZ q_this q_m q_saved q_w q_savedWords q_isSaved q_text q_far q_queue q_parent q_by q_seen q_path q_row q_more q_stateOf v_textLength v_steps v_missing v_mores v_hash v_m x.2) x.1) {H : Heap} {locs : List Loc} {ls : Array Slot} (h : f_Mo_state_J33 x1 x2 v_m v_far = some x) (w : Wd s A D (ws_Mo_state cI cJ cZ q_this q_m q_saved q_w q_savedWords q_isSaved q_text q_far q_queue q_parent q_by q_seen q_path q_row q_more q_stateOf v_textLength v_steps v_missing v_mores v_hash v_m v_far) H locs) (hl : lv_has ls 3 [(0, .ref q_this), (1, .int x1), (2, .int x2)]) : W p l e rm_Mo_state s m args below meth c H locs 0 0 Q (F0 m 33 ls []) := by
  obtain ⟨hx, hb, hml, hown, hts, -, -⟩ := id C0
  unfold f_Mo_state_J33 at h
  refine lv_aload_n hx hb dX10_state_33 rfl (lv_at hl 0 rfl) ?_
  obtain ⟨v_far_1, hcall, h⟩ := bd1_h h
  have hp := sp_of (ws := (ws_Mo_state cI cJ cZ q_this q_m q_saved q_w q_savedWords q_isSaved q_text q_far q_queue q_parent q_by q_seen q_path q_row q_more q_stateOf v_textLength v_steps v_missing v_mores v_hash v_m v_far)) (wc := (ws_Mo_distances cI cJ cZ q_this q_m q_saved q_w q_savedWords q_isSaved q_text q_far q_queue q_parent q_by q_seen q_path q_row q_more q_stateOf v_textLength v_steps v_missing v_mores v_hash v_m v_far)) [0, 1, 2] [] rfl rfl
  have hp' : Rp (pk (ws_Mo_state cI cJ cZ q_this q_m q_saved q_w q_savedWords q_isSaved q_text q_far q_queue q_parent q_by q_seen q_path q_row q_more q_stateOf v_textLength v_steps v_missing v_mores v_hash v_m v_far) [] ++ (ws_Mo_distances cI cJ cZ q_this q_m q_saved q_w q_savedWords q_isSaved q_text q_far q_queue q_parent q_by q_seen q_path q_row q_more q_stateOf v_textLength v_steps v_missing v_mores v_hash v_m v_far_1)) (ws_Mo_state cI cJ cZ q_this q_m q_saved q_w q_savedWords q_isSaved q_text q_far q_queue q_parent q_by q_seen q_path q_row q_more q_stateOf v_textLength v_steps v_missing v_mores v_hash v_m v_far_1) := ⟨[0, 1, 2], rfl, rfl⟩
  refine r_VV (As := []) (rest := []) (wc' := (ws_Mo_distances cI cJ cZ q_this q_m q_saved q_w q_savedWords q_isSaved q_text q_far q_queue q_parent q_by q_seen q_path q_row q_more q_stateOf v_textLength v_steps v_missing v_mores v_hash v_m v_far_1)) (ws' := (ws_Mo_state cI cJ cZ q_this q_m q_saved q_w q_savedWords q_isSaved q_text q_far q_queue q_parent q_by q_seen q_path q_row q_more q_stateOf v_textLength v_steps v_missing v_mores v_hash v_m v_far_1)) C0 w (c_Mo_distances hcall) hp hp' lm_RX10_104 mv_Mo_distances ⟨rfl, rfl⟩ ⟨by decide, by decide⟩ ⟨Nat.zero_le _, Nat.zero_le _⟩ (q0 := 0) rfl rfl rfl rfl hl rfl (Nat.le_of_ble_eq_true rfl) dX10_state_34 (fun H locs w => ?_)
  refine lv_iload_n hx hb dX10_state_37 rfl (lv_at hl 2 rfl) ?_
  refine lv_iconst (v := (3 : Int32)) hx hb dX10_state_38 (by decide) ?_
  refine lv_icmp_ge (tgt := 57) hx hb dX10_state_39 (by decide) (fun hc => ?_) (fun hc => ?_)
  · have h := if_h hc h
    refine lv_iload_n hx hb dX10_state_57 rfl (lv_at hl 2 rfl) ?_
    refine lv_iconst (v := (3 : Int32)) hx hb dX10_state_58 (by decide) ?_
    refine lv_icmp_ne (tgt := 74) hx hb dX10_state_59 (by decide) (fun hc => ?_) (fun hc => ?_)
    · have h := nf_h hc h
      refine lv_aload_n hx hb dX10_state_74 rfl (lv_at hl 0 rfl) ?_
      refine r_get C0 w 0 rfl kf_Mo 7 (by decide) lf_RX10_30 rfl dX10_state_75 ?_
      refine lv_iload_n hx hb dX10_state_78 rfl (lv_at hl 1 rfl) ?_
      obtain ⟨hi, h⟩ := gIn_h h
      refine r_iald C0 w 2 rfl rfl hi dX10_state_79 ?_
      cases h
      exact hQ _ _ _ _ dX10_state_80 rfl w
    · have h := if_h hc h
      refine lv_aload_n hx hb dX10_state_62 rfl (lv_at hl 0 rfl) ?_
      refine r_get C0 w 0 rfl kf_Mo 0 (by decide) lf_RX10_7 rfl dX10_state_63 ?_
      refine lv_bipush (v := (26 : Int32)) hx hb dX10_state_66 (by decide) ?_
      refine lv_iload_n hx hb dX10_state_68 rfl (lv_at hl 1 rfl) ?_
      refine lv_iadd hx hb dX10_state_69 ?_
      obtain ⟨hi, h⟩ := gIn_h h
      refine r_iald C0 w 1 rfl rfl hi dX10_state_70 ?_
      refine lv_goto (tgt := 80) hx hb dX10_state_71 (by decide) ?_
      cases h
      exact hQ _ _ _ _ dX10_state_80 rfl w
  · have h := nf_h hc h
    refine lv_aload_n hx hb dX10_state_42 rfl (lv_at hl 0 rfl) ?_
    refine r_get C0 w 0 rfl kf_Mo 0 (by decide) lf_RX10_7 rfl dX10_state_43 ?_
    refine lv_iconst (v := (2 : Int32)) hx hb dX10_state_46 (by decide) ?_
    refine lv_iconst (v := (3 : Int32)) hx hb dX10_state_47 (by decide) ?_
    refine lv_iload_n hx hb dX10_state_48 rfl (lv_at hl 1 rfl) ?_
    refine lv_imul hx hb dX10_state_49 ?_
    refine lv_iadd hx hb dX10_state_50 ?_
    refine lv_iload_n hx hb dX10_state_51 rfl (lv_at hl 2 rfl) ?_
    refine lv_iadd hx hb dX10_state_52 ?_
    obtain ⟨hi, h⟩ := gIn_h h
    refine r_iald C0 w 1 rfl rfl hi dX10_state_53 ?_
    refine lv_goto (tgt := 80) hx hb dX10_state_54 (by decide) ?_
    cases h
    exact hQ _ _ _ _ dX10_state_80 rfl w
set_option maxRecDepth 100000 in
theorem c_Mo_state {l : Launch} {D : va_G} {cI cJ cZ cO : ClassId} {q_this q_m q_saved q_w q_savedWords q_isSaved q_text q_far q_queue q_parent q_by q_seen q_path q_row q_more q_stateOf : Nat} {x1 : Int32} {x2 : Int32} {v_textLength : Int32} {v_steps : Int32} {v_missing : Int64} {v_mores : Int32} {v_hash : Int64} {v_m : (Nat → Int32)} {v_far : (Nat → Int32)} {x : Int32 × (Nat → Int32)} (h : f_Mo_state x1 x2 v_m v_far = some x) : ctI l D cI cJ cZ cO yX10_state cX10_state 3 .int rm_Mo_state [.ref q_this, .int x1, .int x2] (ws_Mo_state cI cJ cZ q_this q_m q_saved q_w q_savedWords q_isSaved q_text q_far q_queue q_parent q_by q_seen q_path q_row q_more q_stateOf v_textLength v_steps v_missing v_mores v_hash v_m v_far) (ws_Mo_state cI cJ cZ q_this q_m q_saved q_w q_savedWords q_isSaved q_text q_far q_queue q_parent q_by q_seen q_path q_row q_more q_stateOf v_textLength v_steps v_missing v_mores v_hash v_m x.2) x.1 := by
  refine ctI_of (by decide) (Nat.le_of_ble_eq_true rfl) ?_
  intro p e s m below meth c Q A ls C0 hQ w hl
  have hl : lv_has ls 3 [(0, .ref q_this), (1, .int x1), (2, .int x2)] := hl
  generalize List.toArray (α := Value) [.ref q_this, .int x1, .int x2] = args at C0 hQ ⊢
  obtain ⟨hx, hb, hml, hown, hts, -, -⟩ := id C0
  unfold f_Mo_state at h
  refine lv_aload_n hx hb dX10_state_0 rfl (lv_at hl 0 rfl) ?_
  refine lv_iload_n hx hb dX10_state_1 rfl (lv_at hl 1 rfl) ?_
  obtain ⟨r, hcall, h⟩ := bd1_h h
  obtain ⟨wr, hp, hp'⟩ := rd_of (ws := (ws_Mo_state cI cJ cZ q_this q_m q_saved q_w q_savedWords q_isSaved q_text q_far q_queue q_parent q_by q_seen q_path q_row q_more q_stateOf v_textLength v_steps v_missing v_mores v_hash v_m v_far)) (wc := (ws_Mo_isState cI cJ cZ q_this q_m q_saved q_w q_savedWords q_isSaved q_text q_far q_queue q_parent q_by q_seen q_path q_row q_more q_stateOf v_textLength v_steps v_missing v_mores v_hash v_m)) [0, 1] rfl rfl
  refine r_VI (r := r) (As := [.int x1]) (rest := []) (wc' := (ws_Mo_isState cI cJ cZ q_this q_m q_saved q_w q_savedWords q_isSaved q_text q_far q_queue q_parent q_by q_seen q_path q_row q_more q_stateOf v_textLength v_steps v_missing v_mores v_hash v_m)) (ws' := (ws_Mo_state cI cJ cZ q_this q_m q_saved q_w q_savedWords q_isSaved q_text q_far q_queue q_parent q_by q_seen q_path q_row q_more q_stateOf v_textLength v_steps v_missing v_mores v_hash v_m v_far)) C0 w (c_Mo_isState hcall) hp hp' lm_RX10_86 mv_Mo_isState ⟨rfl, rfl⟩ ⟨by decide, by decide⟩ ⟨Nat.zero_le _, Nat.zero_le _⟩ (q0 := 0) rfl rfl rfl rfl hl rfl (Nat.le_of_ble_eq_true rfl) dX10_state_2 (fun H locs w => ?_)
  refine lv_if_eq (tgt := 30) hx hb dX10_state_5 (by decide) (fun hc => ?_) (fun hc => ?_)
  · have h := if_h hc h
    refine lv_bipush (v := (-2 : Int32)) hx hb dX10_state_30 (by decide) ?_
    cases h
    exact hQ _ _ _ _ dX10_state_32 rfl w
  · have h := nf_h hc h
    refine lv_iload_n hx hb dX10_state_8 rfl (lv_at hl 2 rfl) ?_
    refine lv_iconst (v := (0 : Int32)) hx hb dX10_state_9 (by decide) ?_
    refine lv_iconst (v := (4 : Int32)) hx hb dX10_state_10 (by decide) ?_
    obtain ⟨r_1, hcall, h⟩ := bd1_h h
    obtain ⟨wr, hp, hp'⟩ := rd_of (ws := (ws_Mo_state cI cJ cZ q_this q_m q_saved q_w q_savedWords q_isSaved q_text q_far q_queue q_parent q_by q_seen q_path q_row q_more q_stateOf v_textLength v_steps v_missing v_mores v_hash v_m v_far)) (wc := (ws_Mo_in cI cJ cZ)) [] rfl rfl
    refine r_SI (r := r_1) (As := [.int x2, .int (0 : Int32), .int (4 : Int32)]) (rest := []) (wc' := (ws_Mo_in cI cJ cZ)) (ws' := (ws_Mo_state cI cJ cZ q_this q_m q_saved q_w q_savedWords q_isSaved q_text q_far q_queue q_parent q_by q_seen q_path q_row q_more q_stateOf v_textLength v_steps v_missing v_mores v_hash v_m v_far)) C0 w (c_Mo_in hcall) hp hp' lm_RX10_76 ms_Mo_in ⟨rfl, rfl⟩ ⟨by decide, by decide⟩ ⟨Nat.zero_le _, Nat.zero_le _⟩ rfl hl rfl (Nat.le_of_ble_eq_true rfl) dX10_state_11 (fun H locs w => ?_)
    refine lv_if_eq (tgt := 30) hx hb dX10_state_14 (by decide) (fun hc => ?_) (fun hc => ?_)
    · have h := if_h hc h
      refine lv_bipush (v := (-2 : Int32)) hx hb dX10_state_30 (by decide) ?_
      cases h
      exact hQ _ _ _ _ dX10_state_32 rfl w
    · have h := nf_h hc h
      refine lv_iload_n hx hb dX10_state_17 rfl (lv_at hl 2 rfl) ?_
      refine lv_iconst (v := (3 : Int32)) hx hb dX10_state_18 (by decide) ?_
      refine lv_icmp_ge (tgt := 33) hx hb dX10_state_19 (by decide) (fun hc => ?_) (fun hc => ?_)
      · have h := if_h hc h
        exact w_Mo_state_J33 C0 hQ h w (lv_sub hl [0, 1, 2] rfl)
      · have h := nf_h hc h
        refine lv_aload_n hx hb dX10_state_22 rfl (lv_at hl 0 rfl) ?_
        refine lv_iload_n hx hb dX10_state_23 rfl (lv_at hl 2 rfl) ?_
        obtain ⟨r_2, hcall, h⟩ := bd1_h h
        obtain ⟨wr, hp, hp'⟩ := rd_of (ws := (ws_Mo_state cI cJ cZ q_this q_m q_saved q_w q_savedWords q_isSaved q_text q_far q_queue q_parent q_by q_seen q_path q_row q_more q_stateOf v_textLength v_steps v_missing v_mores v_hash v_m v_far)) (wc := (ws_Mo_isLetter cI cJ cZ q_this q_m q_saved q_w q_savedWords q_isSaved q_text q_far q_queue q_parent q_by q_seen q_path q_row q_more q_stateOf v_textLength v_steps v_missing v_mores v_hash v_m)) [0, 1] rfl rfl
        refine r_VI (r := r_2) (As := [.int x2]) (rest := []) (wc' := (ws_Mo_isLetter cI cJ cZ q_this q_m q_saved q_w q_savedWords q_isSaved q_text q_far q_queue q_parent q_by q_seen q_path q_row q_more q_stateOf v_textLength v_steps v_missing v_mores v_hash v_m)) (ws' := (ws_Mo_state cI cJ cZ q_this q_m q_saved q_w q_savedWords q_isSaved q_text q_far q_queue q_parent q_by q_seen q_path q_row q_more q_stateOf v_textLength v_steps v_missing v_mores v_hash v_m v_far)) C0 w (c_Mo_isLetter hcall) hp hp' lm_RX10_90 mv_Mo_isLetter ⟨rfl, rfl⟩ ⟨by decide, by decide⟩ ⟨Nat.zero_le _, Nat.zero_le _⟩ (q0 := 0) rfl rfl rfl rfl hl rfl (Nat.le_of_ble_eq_true rfl) dX10_state_24 (fun H locs w => ?_)
        refine lv_if_ne (tgt := 33) hx hb dX10_state_27 (by decide) (fun hc => ?_) (fun hc => ?_)
        · have h := nf_h hc h
          exact w_Mo_state_J33 C0 hQ h w (lv_sub hl [0, 1, 2] rfl)
        · have h := if_h hc h
          refine lv_bipush (v := (-2 : Int32)) hx hb dX10_state_30 (by decide) ?_
          cases h
          exact hQ _ _ _ _ dX10_state_32 rfl w
theorem dX10_goesBack_0 : decode cX10_goesBack 0 = .ok (.aload_n 0, 1) := by decide +kernel
theorem dX10_goesBack_1 : decode cX10_goesBack 1 = .ok (.iconst 0, 1) := by decide +kernel
theorem dX10_goesBack_2 : decode cX10_goesBack 2 = .ok (.putfield 110, 3) := by decide +kernel
theorem dX10_goesBack_5 : decode cX10_goesBack 5 = .ok (.iload_n 1, 1) := by decide +kernel
theorem dX10_goesBack_6 : decode cX10_goesBack 6 = .ok (.istore_n 2, 1) := by decide +kernel
theorem dX10_goesBack_7 : decode cX10_goesBack 7 = .ok (.aload_n 0, 1) := by decide +kernel
theorem dX10_goesBack_8 : decode cX10_goesBack 8 = .ok (.getfield 36, 3) := by decide +kernel
theorem dX10_goesBack_11 : decode cX10_goesBack 11 = .ok (.iload_n 2, 1) := by decide +kernel
theorem dX10_goesBack_12 : decode cX10_goesBack 12 = .ok (.iaload, 1) := by decide +kernel
theorem dX10_goesBack_13 : decode cX10_goesBack 13 = .ok (.iconst (-1), 1) := by decide +kernel
theorem dX10_goesBack_14 : decode cX10_goesBack 14 = .ok (.if_icmp .eq 23, 3) := by decide +kernel
theorem dX10_goesBack_17 : decode cX10_goesBack 17 = .ok (.aload_n 0, 1) := by decide +kernel
theorem dX10_goesBack_18 : decode cX10_goesBack 18 = .ok (.dup, 1) := by decide +kernel
theorem dX10_goesBack_19 : decode cX10_goesBack 19 = .ok (.getfield 110, 3) := by decide +kernel
theorem dX10_goesBack_22 : decode cX10_goesBack 22 = .ok (.iconst 1, 1) := by decide +kernel
theorem dX10_goesBack_23 : decode cX10_goesBack 23 = .ok (.iadd, 1) := by decide +kernel
theorem dX10_goesBack_24 : decode cX10_goesBack 24 = .ok (.putfield 110, 3) := by decide +kernel
theorem dX10_goesBack_27 : decode cX10_goesBack 27 = .ok (.aload_n 0, 1) := by decide +kernel
theorem dX10_goesBack_28 : decode cX10_goesBack 28 = .ok (.getfield 36, 3) := by decide +kernel
theorem dX10_goesBack_31 : decode cX10_goesBack 31 = .ok (.iload_n 2, 1) := by decide +kernel
theorem dX10_goesBack_32 : decode cX10_goesBack 32 = .ok (.iaload, 1) := by decide +kernel
theorem dX10_goesBack_33 : decode cX10_goesBack 33 = .ok (.istore_n 2, 1) := by decide +kernel
theorem dX10_goesBack_34 : decode cX10_goesBack 34 = .ok (.goto (-27), 3) := by decide +kernel
theorem dX10_goesBack_37 : decode cX10_goesBack 37 = .ok (.aload_n 0, 1) := by decide +kernel
theorem dX10_goesBack_38 : decode cX10_goesBack 38 = .ok (.getfield 110, 3) := by decide +kernel
theorem dX10_goesBack_41 : decode cX10_goesBack 41 = .ok (.istore_n 2, 1) := by decide +kernel
theorem dX10_goesBack_42 : decode cX10_goesBack 42 = .ok (.iload_n 1, 1) := by decide +kernel
theorem dX10_goesBack_43 : decode cX10_goesBack 43 = .ok (.istore_n 3, 1) := by decide +kernel
theorem dX10_goesBack_44 : decode cX10_goesBack 44 = .ok (.aload_n 0, 1) := by decide +kernel
theorem dX10_goesBack_45 : decode cX10_goesBack 45 = .ok (.getfield 36, 3) := by decide +kernel
theorem dX10_goesBack_48 : decode cX10_goesBack 48 = .ok (.iload_n 3, 1) := by decide +kernel
theorem dX10_goesBack_49 : decode cX10_goesBack 49 = .ok (.iaload, 1) := by decide +kernel
theorem dX10_goesBack_50 : decode cX10_goesBack 50 = .ok (.iconst (-1), 1) := by decide +kernel
theorem dX10_goesBack_51 : decode cX10_goesBack 51 = .ok (.if_icmp .eq 28, 3) := by decide +kernel
theorem dX10_goesBack_54 : decode cX10_goesBack 54 = .ok (.iinc 2 (-1), 3) := by decide +kernel
theorem dX10_goesBack_57 : decode cX10_goesBack 57 = .ok (.aload_n 0, 1) := by decide +kernel
theorem dX10_goesBack_58 : decode cX10_goesBack 58 = .ok (.getfield 45, 3) := by decide +kernel
theorem dX10_goesBack_61 : decode cX10_goesBack 61 = .ok (.iload_n 2, 1) := by decide +kernel
theorem dX10_goesBack_62 : decode cX10_goesBack 62 = .ok (.aload_n 0, 1) := by decide +kernel
theorem dX10_goesBack_63 : decode cX10_goesBack 63 = .ok (.getfield 39, 3) := by decide +kernel
theorem dX10_goesBack_66 : decode cX10_goesBack 66 = .ok (.iload_n 3, 1) := by decide +kernel
theorem dX10_goesBack_67 : decode cX10_goesBack 67 = .ok (.iaload, 1) := by decide +kernel
theorem dX10_goesBack_68 : decode cX10_goesBack 68 = .ok (.iastore, 1) := by decide +kernel
theorem dX10_goesBack_69 : decode cX10_goesBack 69 = .ok (.aload_n 0, 1) := by decide +kernel
theorem dX10_goesBack_70 : decode cX10_goesBack 70 = .ok (.getfield 36, 3) := by decide +kernel
theorem dX10_goesBack_73 : decode cX10_goesBack 73 = .ok (.iload_n 3, 1) := by decide +kernel
theorem dX10_goesBack_74 : decode cX10_goesBack 74 = .ok (.iaload, 1) := by decide +kernel
theorem dX10_goesBack_75 : decode cX10_goesBack 75 = .ok (.istore_n 3, 1) := by decide +kernel
theorem dX10_goesBack_76 : decode cX10_goesBack 76 = .ok (.goto (-32), 3) := by decide +kernel
theorem dX10_goesBack_79 : decode cX10_goesBack 79 = .ok (.iconst 1, 1) := by decide +kernel
theorem dX10_goesBack_80 : decode cX10_goesBack 80 = .ok (.ireturn, 1) := by decide +kernel
set_option maxRecDepth 100000 in
theorem w_Mo_goesBack_L7 {p : Program} {l : Launch} {e : Env} {s : State} {m : MethodId} {args : Array Value} {below : List Frame} {meth : Method} {c : Code} {Q : State → Prop} {A : Nat → Prop} {D : va_G} {cI cJ cZ cO : ClassId} {q_this q_m q_saved q_w q_savedWords q_isSaved q_text q_far q_queue q_parent q_by q_seen q_path q_row q_more q_stateOf : Nat} {v_textLength : Int32} {v_missing : Int64} {v_mores : Int32} {v_hash : Int64} {v_parent : (Nat → Int32)} {v_by : (Nat → Int32)} {v_path : (Nat → Int32)} {x1 : Int32} {x : Int32 × (Nat → Int32) × Int32} (C0 : Cx p s m args c A D cI cJ cZ cO cX10_goesBack 4 RX10) (hQ : RtI p l e rm_Mo_goesBack s m args below meth c Q A D cX10_goesBack .boolean (ws_Mo_goesBack cI cJ cZ q_this q_m q_saved q_w q_savedWords q_isSaved q_text q_far q_queue q_parent q_by q_seen q_path q_row q_more q_stateOf v_textLength x.2.2 v_missing v_mores v_hash v_parent v_by x.2.1) x.1) {K : Int32 → Int32 → Option (Int32 × (Nat → Int32) × Int32)} (hK : ∀ (x2 : Int32) (v_steps : Int32) (H : Heap) (locs : List Loc) (ls : Array Slot), K x2 v_steps = some x → Wd s A D (ws_Mo_goesBack cI cJ cZ q_this q_m q_saved q_w q_savedWords q_isSaved q_text q_far q_queue q_parent q_by q_seen q_path q_row q_more q_stateOf v_textLength v_steps v_missing v_mores v_hash v_parent v_by v_path) H locs → lv_has ls 4 [(0, .ref q_this), (1, .int x1)] → W p l e rm_Mo_goesBack s m args below meth c H locs 0 0 Q (F0 m 37 ls [])) {rec : Int32 → Int32 → Option (Int32 × (Nat → Int32) × Int32)} (hrec : ∀ (x2 : Int32) (v_steps : Int32) (H : Heap) (locs : List Loc) (ls : Array Slot), rec x2 v_steps = some x → Wd s A D (ws_Mo_goesBack cI cJ cZ q_this q_m q_saved q_w q_savedWords q_isSaved q_text q_far q_queue q_parent q_by q_seen q_path q_row q_more q_stateOf v_textLength v_steps v_missing v_mores v_hash v_parent v_by v_path) H locs → lv_has ls 4 [(0, .ref q_this), (1, .int x1), (2, .int x2)] → W p l e rm_Mo_goesBack s m args below meth c H locs 0 0 Q (F0 m 7 ls [])) (x2 : Int32) (v_steps : Int32) {H : Heap} {locs : List Loc} {ls : Array Slot} (h : f_Mo_goesBack_L7 v_parent K rec x2 v_steps = some x) (w : Wd s A D (ws_Mo_goesBack cI cJ cZ q_this q_m q_saved q_w q_savedWords q_isSaved q_text q_far q_queue q_parent q_by q_seen q_path q_row q_more q_stateOf v_textLength v_steps v_missing v_mores v_hash v_parent v_by v_path) H locs) (hl : lv_has ls 4 [(0, .ref q_this), (1, .int x1), (2, .int x2)]) : W p l e rm_Mo_goesBack s m args below meth c H locs 0 0 Q (F0 m 7 ls []) := by
  obtain ⟨hx, hb, hml, hown, hts, -, -⟩ := id C0
  unfold f_Mo_goesBack_L7 at h
  refine lv_aload_n hx hb dX10_goesBack_7 rfl (lv_at hl 0 rfl) ?_
  refine r_get C0 w 0 rfl kf_Mo 9 (by decide) lf_RX10_36 rfl dX10_goesBack_8 ?_
  refine lv_iload_n hx hb dX10_goesBack_11 rfl (lv_at hl 2 rfl) ?_
  obtain ⟨hi, h⟩ := gIn_h h
  refine r_iald C0 w 1 rfl rfl hi dX10_goesBack_12 ?_
  refine lv_iconst (v := (-1 : Int32)) hx hb dX10_goesBack_13 (by decide) ?_
  refine lv_icmp_eq (tgt := 37) hx hb dX10_goesBack_14 (by decide) (fun hc => ?_) (fun hc => ?_)
  · have h := if_h hc h
    exact hK _ _ _ _ _ h w (lv_sub hl [0, 1] rfl)
  · have h := nf_h hc h
    refine lv_aload_n hx hb dX10_goesBack_17 rfl (lv_at hl 0 rfl) ?_
    refine lv_dup hx hb dX10_goesBack_18 rfl ?_
    refine r_get C0 w 0 rfl kf_Mo 13 (by decide) lf_RX10_110 rfl dX10_goesBack_19 ?_
    refine lv_iconst (v := (1 : Int32)) hx hb dX10_goesBack_22 (by decide) ?_
    refine lv_iadd hx hb dX10_goesBack_23 ?_
    refine lv_topi (fun v_steps_1 ev_steps_1 => ?_)
    have h := bnd_at ev_steps_1 h
    refine r_put C0 w 0 rfl kf_Mo 13 (by decide) lf_RX10_110 rfl rfl rfl (Nat.le_of_ble_eq_true rfl) dX10_goesBack_24 (ws' := (ws_Mo_goesBack cI cJ cZ q_this q_m q_saved q_w q_savedWords q_isSaved q_text q_far q_queue q_parent q_by q_seen q_path q_row q_more q_stateOf v_textLength v_steps_1 v_missing v_mores v_hash v_parent v_by v_path)) rfl (fun H locs w => ?_)
    refine lv_aload_n hx hb dX10_goesBack_27 rfl (lv_at hl 0 rfl) ?_
    refine r_get C0 w 0 rfl kf_Mo 9 (by decide) lf_RX10_36 rfl dX10_goesBack_28 ?_
    refine lv_iload_n hx hb dX10_goesBack_31 rfl (lv_at hl 2 rfl) ?_
    obtain ⟨hi, h⟩ := gIn_h h
    refine r_iald C0 w 1 rfl rfl hi dX10_goesBack_32 ?_
    refine lv_topi (fun x2_1 ex2_1 => ?_)
    have h := bnd_at ex2_1 h
    refine lv_istore_n (lv' := [(2, .int x2_1), (0, .ref q_this), (1, .int x1)]) hx hb dX10_goesBack_33 rfl hl (by decide) rfl (fun ls hl => ?_)
    refine lv_goto (tgt := 7) hx hb dX10_goesBack_34 (by decide) ?_
    exact hrec _ _ _ _ _ h w (lv_sub hl [1, 2, 0] rfl)
set_option maxRecDepth 100000 in
theorem wl_Mo_goesBack_L7 {p : Program} {l : Launch} {e : Env} {s : State} {m : MethodId} {args : Array Value} {below : List Frame} {meth : Method} {c : Code} {Q : State → Prop} {A : Nat → Prop} {D : va_G} {cI cJ cZ cO : ClassId} {q_this q_m q_saved q_w q_savedWords q_isSaved q_text q_far q_queue q_parent q_by q_seen q_path q_row q_more q_stateOf : Nat} {v_textLength : Int32} {v_missing : Int64} {v_mores : Int32} {v_hash : Int64} {v_parent : (Nat → Int32)} {v_by : (Nat → Int32)} {v_path : (Nat → Int32)} {x1 : Int32} {x : Int32 × (Nat → Int32) × Int32} (C0 : Cx p s m args c A D cI cJ cZ cO cX10_goesBack 4 RX10) (hQ : RtI p l e rm_Mo_goesBack s m args below meth c Q A D cX10_goesBack .boolean (ws_Mo_goesBack cI cJ cZ q_this q_m q_saved q_w q_savedWords q_isSaved q_text q_far q_queue q_parent q_by q_seen q_path q_row q_more q_stateOf v_textLength x.2.2 v_missing v_mores v_hash v_parent v_by x.2.1) x.1) {K : Int32 → Int32 → Option (Int32 × (Nat → Int32) × Int32)} (hK : ∀ (x2 : Int32) (v_steps : Int32) (H : Heap) (locs : List Loc) (ls : Array Slot), K x2 v_steps = some x → Wd s A D (ws_Mo_goesBack cI cJ cZ q_this q_m q_saved q_w q_savedWords q_isSaved q_text q_far q_queue q_parent q_by q_seen q_path q_row q_more q_stateOf v_textLength v_steps v_missing v_mores v_hash v_parent v_by v_path) H locs → lv_has ls 4 [(0, .ref q_this), (1, .int x1)] → W p l e rm_Mo_goesBack s m args below meth c H locs 0 0 Q (F0 m 37 ls [])) : ∀ (n : Nat) (x2 : Int32) (v_steps : Int32) (H : Heap) (locs : List Loc) (ls : Array Slot), itr (fun _ _ => none) (f_Mo_goesBack_L7 v_parent K) n x2 v_steps = some x → Wd s A D (ws_Mo_goesBack cI cJ cZ q_this q_m q_saved q_w q_savedWords q_isSaved q_text q_far q_queue q_parent q_by q_seen q_path q_row q_more q_stateOf v_textLength v_steps v_missing v_mores v_hash v_parent v_by v_path) H locs → lv_has ls 4 [(0, .ref q_this), (1, .int x1), (2, .int x2)] → W p l e rm_Mo_goesBack s m args below meth c H locs 0 0 Q (F0 m 7 ls []) := by
  intro n
  induction n with
  | zero => intro _ _ _ _ _ h; cases (show none = some _ from h)
  | succ n ih => intro _ _ _ _ _ h w hl; exact w_Mo_goesBack_L7 C0 hQ hK ih _ _ h w hl
set_option maxRecDepth 100000 in
theorem w_Mo_goesBack_L44 {p : Program} {l : Launch} {e : Env} {s : State} {m : MethodId} {args : Array Value} {below : List Frame} {meth : Method} {c : Code} {Q : State → Prop} {A : Nat → Prop} {D : va_G} {cI cJ cZ cO : ClassId} {q_this q_m q_saved q_w q_savedWords q_isSaved q_text q_far q_queue q_parent q_by q_seen q_path q_row q_more q_stateOf : Nat} {v_textLength : Int32} {v_steps : Int32} {v_missing : Int64} {v_mores : Int32} {v_hash : Int64} {v_parent : (Nat → Int32)} {v_by : (Nat → Int32)} {x : Int32 × (Nat → Int32) × Int32} (C0 : Cx p s m args c A D cI cJ cZ cO cX10_goesBack 4 RX10) (hQ : RtI p l e rm_Mo_goesBack s m args below meth c Q A D cX10_goesBack .boolean (ws_Mo_goesBack cI cJ cZ q_this q_m q_saved q_w q_savedWords q_isSaved q_text q_far q_queue q_parent q_by q_seen q_path q_row q_more q_stateOf v_textLength x.2.2 v_missing v_mores v_hash v_parent v_by x.2.1) x.1) {K : Int32 → Int32 → (Nat → Int32) → Option (Int32 × (Nat → Int32) × Int32)} (hK : ∀ (x2 : Int32) (x3 : Int32) (v_path : (Nat → Int32)) (H : Heap) (locs : List Loc) (ls : Array Slot), K x2 x3 v_path = some x → Wd s A D (ws_Mo_goesBack cI cJ cZ q_this q_m q_saved q_w q_savedWords q_isSaved q_text q_far q_queue q_parent q_by q_seen q_path q_row q_more q_stateOf v_textLength v_steps v_missing v_mores v_hash v_parent v_by v_path) H locs → lv_has ls 4 [] → W p l e rm_Mo_goesBack s m args below meth c H locs 0 0 Q (F0 m 79 ls [])) {rec : Int32 → Int32 → (Nat → Int32) → Option (Int32 × (Nat → Int32) × Int32)} (hrec : ∀ (x2 : Int32) (x3 : Int32) (v_path : (Nat → Int32)) (H : Heap) (locs : List Loc) (ls : Array Slot), rec x2 x3 v_path = some x → Wd s A D (ws_Mo_goesBack cI cJ cZ q_this q_m q_saved q_w q_savedWords q_isSaved q_text q_far q_queue q_parent q_by q_seen q_path q_row q_more q_stateOf v_textLength v_steps v_missing v_mores v_hash v_parent v_by v_path) H locs → lv_has ls 4 [(0, .ref q_this), (2, .int x2), (3, .int x3)] → W p l e rm_Mo_goesBack s m args below meth c H locs 0 0 Q (F0 m 44 ls [])) (x2 : Int32) (x3 : Int32) (v_path : (Nat → Int32)) {H : Heap} {locs : List Loc} {ls : Array Slot} (h : f_Mo_goesBack_L44 v_parent v_by K rec x2 x3 v_path = some x) (w : Wd s A D (ws_Mo_goesBack cI cJ cZ q_this q_m q_saved q_w q_savedWords q_isSaved q_text q_far q_queue q_parent q_by q_seen q_path q_row q_more q_stateOf v_textLength v_steps v_missing v_mores v_hash v_parent v_by v_path) H locs) (hl : lv_has ls 4 [(0, .ref q_this), (2, .int x2), (3, .int x3)]) : W p l e rm_Mo_goesBack s m args below meth c H locs 0 0 Q (F0 m 44 ls []) := by
  obtain ⟨hx, hb, hml, hown, hts, -, -⟩ := id C0
  unfold f_Mo_goesBack_L44 at h
  refine lv_aload_n hx hb dX10_goesBack_44 rfl (lv_at hl 0 rfl) ?_
  refine r_get C0 w 0 rfl kf_Mo 9 (by decide) lf_RX10_36 rfl dX10_goesBack_45 ?_
  refine lv_iload_n hx hb dX10_goesBack_48 rfl (lv_at hl 2 rfl) ?_
  obtain ⟨hi, h⟩ := gIn_h h
  refine r_iald C0 w 1 rfl rfl hi dX10_goesBack_49 ?_
  refine lv_iconst (v := (-1 : Int32)) hx hb dX10_goesBack_50 (by decide) ?_
  refine lv_icmp_eq (tgt := 79) hx hb dX10_goesBack_51 (by decide) (fun hc => ?_) (fun hc => ?_)
  · have h := if_h hc h
    exact hK _ _ _ _ _ _ h w (lv_sub hl [] rfl)
  · have h := nf_h hc h
    obtain ⟨x2_1, ex2_1⟩ : ∃ y : Int32, y = (x2 + (-1)) := ⟨_, rfl⟩
    have h := bnd_at ex2_1 h
    refine lv_iinc (v := x2_1) (lv' := [(2, .int x2_1), (0, .ref q_this), (3, .int x3)]) hx hb dX10_goesBack_54 hl (k := 1) rfl (by rw [ex2_1]; rfl) (by decide) rfl (fun ls hl => ?_)
    refine lv_aload_n hx hb dX10_goesBack_57 rfl (lv_at hl 1 rfl) ?_
    refine r_get C0 w 0 rfl kf_Mo 12 (by decide) lf_RX10_45 rfl dX10_goesBack_58 ?_
    refine lv_iload_n hx hb dX10_goesBack_61 rfl (lv_at hl 0 rfl) ?_
    refine lv_aload_n hx hb dX10_goesBack_62 rfl (lv_at hl 1 rfl) ?_
    refine r_get C0 w 0 rfl kf_Mo 10 (by decide) lf_RX10_39 rfl dX10_goesBack_63 ?_
    refine lv_iload_n hx hb dX10_goesBack_66 rfl (lv_at hl 2 rfl) ?_
    obtain ⟨hi, h⟩ := gIn_h h
    refine r_iald C0 w 2 rfl rfl hi dX10_goesBack_67 ?_
    obtain ⟨hi, h⟩ := gIn_h h
    obtain ⟨v_path_1, ev_path_1⟩ : ∃ y, y = (upd v_path x2_1.toNatClampNeg (v_by x3.toNatClampNeg)) := ⟨_, rfl⟩
    have h := bnd_at ev_path_1 h
    refine r_iast C0 w 3 rfl (f' := v_path_1) rfl hi ev_path_1 dX10_goesBack_68 (ws' := (ws_Mo_goesBack cI cJ cZ q_this q_m q_saved q_w q_savedWords q_isSaved q_text q_far q_queue q_parent q_by q_seen q_path q_row q_more q_stateOf v_textLength v_steps v_missing v_mores v_hash v_parent v_by v_path_1)) rfl (fun H locs w => ?_)
    refine lv_aload_n hx hb dX10_goesBack_69 rfl (lv_at hl 1 rfl) ?_
    refine r_get C0 w 0 rfl kf_Mo 9 (by decide) lf_RX10_36 rfl dX10_goesBack_70 ?_
    refine lv_iload_n hx hb dX10_goesBack_73 rfl (lv_at hl 2 rfl) ?_
    obtain ⟨hi, h⟩ := gIn_h h
    refine r_iald C0 w 1 rfl rfl hi dX10_goesBack_74 ?_
    refine lv_topi (fun x3_1 ex3_1 => ?_)
    have h := bnd_at ex3_1 h
    refine lv_istore_n (lv' := [(3, .int x3_1), (2, .int x2_1), (0, .ref q_this)]) hx hb dX10_goesBack_75 rfl hl (by decide) rfl (fun ls hl => ?_)
    refine lv_goto (tgt := 44) hx hb dX10_goesBack_76 (by decide) ?_
    exact hrec _ _ _ _ _ _ h w (lv_sub hl [2, 1, 0] rfl)
set_option maxRecDepth 100000 in
theorem wl_Mo_goesBack_L44 {p : Program} {l : Launch} {e : Env} {s : State} {m : MethodId} {args : Array Value} {below : List Frame} {meth : Method} {c : Code} {Q : State → Prop} {A : Nat → Prop} {D : va_G} {cI cJ cZ cO : ClassId} {q_this q_m q_saved q_w q_savedWords q_isSaved q_text q_far q_queue q_parent q_by q_seen q_path q_row q_more q_stateOf : Nat} {v_textLength : Int32} {v_steps : Int32} {v_missing : Int64} {v_mores : Int32} {v_hash : Int64} {v_parent : (Nat → Int32)} {v_by : (Nat → Int32)} {x : Int32 × (Nat → Int32) × Int32} (C0 : Cx p s m args c A D cI cJ cZ cO cX10_goesBack 4 RX10) (hQ : RtI p l e rm_Mo_goesBack s m args below meth c Q A D cX10_goesBack .boolean (ws_Mo_goesBack cI cJ cZ q_this q_m q_saved q_w q_savedWords q_isSaved q_text q_far q_queue q_parent q_by q_seen q_path q_row q_more q_stateOf v_textLength x.2.2 v_missing v_mores v_hash v_parent v_by x.2.1) x.1) {K : Int32 → Int32 → (Nat → Int32) → Option (Int32 × (Nat → Int32) × Int32)} (hK : ∀ (x2 : Int32) (x3 : Int32) (v_path : (Nat → Int32)) (H : Heap) (locs : List Loc) (ls : Array Slot), K x2 x3 v_path = some x → Wd s A D (ws_Mo_goesBack cI cJ cZ q_this q_m q_saved q_w q_savedWords q_isSaved q_text q_far q_queue q_parent q_by q_seen q_path q_row q_more q_stateOf v_textLength v_steps v_missing v_mores v_hash v_parent v_by v_path) H locs → lv_has ls 4 [] → W p l e rm_Mo_goesBack s m args below meth c H locs 0 0 Q (F0 m 79 ls [])) : ∀ (n : Nat) (x2 : Int32) (x3 : Int32) (v_path : (Nat → Int32)) (H : Heap) (locs : List Loc) (ls : Array Slot), itr (fun _ _ _ => none) (f_Mo_goesBack_L44 v_parent v_by K) n x2 x3 v_path = some x → Wd s A D (ws_Mo_goesBack cI cJ cZ q_this q_m q_saved q_w q_savedWords q_isSaved q_text q_far q_queue q_parent q_by q_seen q_path q_row q_more q_stateOf v_textLength v_steps v_missing v_mores v_hash v_parent v_by v_path) H locs → lv_has ls 4 [(0, .ref q_this), (2, .int x2), (3, .int x3)] → W p l e rm_Mo_goesBack s m args below meth c H locs 0 0 Q (F0 m 44 ls []) := by
  intro n
  induction n with
  | zero => intro _ _ _ _ _ _ h; cases (show none = some _ from h)
  | succ n ih => intro _ _ _ _ _ _ h w hl; exact w_Mo_goesBack_L44 C0 hQ hK ih _ _ _ h w hl
set_option maxRecDepth 100000 in
theorem c_Mo_goesBack {l : Launch} {D : va_G} {cI cJ cZ cO : ClassId} {q_this q_m q_saved q_w q_savedWords q_isSaved q_text q_far q_queue q_parent q_by q_seen q_path q_row q_more q_stateOf : Nat} {x1 : Int32} {v_textLength : Int32} {v_steps : Int32} {v_missing : Int64} {v_mores : Int32} {v_hash : Int64} {v_parent : (Nat → Int32)} {v_by : (Nat → Int32)} {v_path : (Nat → Int32)} {x : Int32 × (Nat → Int32) × Int32} (h : f_Mo_goesBack x1 v_parent v_by v_path = some x) : ctI l D cI cJ cZ cO yX10_goesBack cX10_goesBack 4 .boolean rm_Mo_goesBack [.ref q_this, .int x1] (ws_Mo_goesBack cI cJ cZ q_this q_m q_saved q_w q_savedWords q_isSaved q_text q_far q_queue q_parent q_by q_seen q_path q_row q_more q_stateOf v_textLength v_steps v_missing v_mores v_hash v_parent v_by v_path) (ws_Mo_goesBack cI cJ cZ q_this q_m q_saved q_w q_savedWords q_isSaved q_text q_far q_queue q_parent q_by q_seen q_path q_row q_more q_stateOf v_textLength x.2.2 v_missing v_mores v_hash v_parent v_by x.2.1) x.1 := by
  refine ctI_of (by decide) (Nat.le_of_ble_eq_true rfl) ?_
  intro p e s m below meth c Q A ls C0 hQ w hl
  have hl : lv_has ls 4 [(0, .ref q_this), (1, .int x1)] := hl
  generalize List.toArray (α := Value) [.ref q_this, .int x1] = args at C0 hQ ⊢
  obtain ⟨hx, hb, hml, hown, hts, -, -⟩ := id C0
  unfold f_Mo_goesBack at h
  refine lv_aload_n hx hb dX10_goesBack_0 rfl (lv_at hl 0 rfl) ?_
  refine lv_iconst (v := (0 : Int32)) hx hb dX10_goesBack_1 (by decide) ?_
  refine r_put C0 w 0 rfl kf_Mo 13 (by decide) lf_RX10_110 rfl rfl rfl (Nat.le_of_ble_eq_true rfl) dX10_goesBack_2 (ws' := (ws_Mo_goesBack cI cJ cZ q_this q_m q_saved q_w q_savedWords q_isSaved q_text q_far q_queue q_parent q_by q_seen q_path q_row q_more q_stateOf v_textLength (0 : Int32) v_missing v_mores v_hash v_parent v_by v_path)) rfl (fun H locs w => ?_)
  refine lv_iload_n hx hb dX10_goesBack_5 rfl (lv_at hl 1 rfl) ?_
  refine lv_istore_n (lv' := [(2, .int x1), (0, .ref q_this), (1, .int x1)]) hx hb dX10_goesBack_6 rfl hl (by decide) rfl (fun ls hl => ?_)
  refine wl_Mo_goesBack_L7 C0 hQ (fun x2 v_steps_1 H locs ls h w hl => ?_) _ _ _ _ _ _ h w (lv_sub hl [1, 2, 0] rfl)
  refine lv_aload_n hx hb dX10_goesBack_37 rfl (lv_at hl 0 rfl) ?_
  refine r_get C0 w 0 rfl kf_Mo 13 (by decide) lf_RX10_110 rfl dX10_goesBack_38 ?_
  refine lv_istore_n (lv' := [(2, .int v_steps_1), (0, .ref q_this), (1, .int x1)]) hx hb dX10_goesBack_41 rfl hl (by decide) rfl (fun ls hl => ?_)
  refine lv_iload_n hx hb dX10_goesBack_42 rfl (lv_at hl 2 rfl) ?_
  refine lv_istore_n (lv' := [(3, .int x1), (2, .int v_steps_1), (0, .ref q_this), (1, .int x1)]) hx hb dX10_goesBack_43 rfl hl (by decide) rfl (fun ls hl => ?_)
  refine wl_Mo_goesBack_L44 C0 hQ (fun x2_1 x3 v_path_1 H locs ls h w hl => ?_) _ _ _ _ _ _ _ h w (lv_sub hl [2, 1, 0] rfl)
  refine lv_iconst (v := (1 : Int32)) hx hb dX10_goesBack_79 (by decide) ?_
  cases h
  exact hQ _ _ _ _ dX10_goesBack_80 (gB_n (v := (1 : Int32)) (Or.inr rfl)) w

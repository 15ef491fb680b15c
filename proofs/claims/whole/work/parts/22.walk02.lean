theorem dX1_addWord_0 : decode cX1_addWord 0 = .ok (.iload_n 1, 1) := by decide +kernel
theorem dX1_addWord_1 : decode cX1_addWord 1 = .ok (.ifCond .eq 13, 3) := by decide +kernel
theorem dX1_addWord_4 : decode cX1_addWord 4 = .ok (.aload_n 0, 1) := by decide +kernel
theorem dX1_addWord_5 : decode cX1_addWord 5 = .ok (.getfield 21, 3) := by decide +kernel
theorem dX1_addWord_8 : decode cX1_addWord 8 = .ok (.getfield 166, 3) := by decide +kernel
theorem dX1_addWord_11 : decode cX1_addWord 11 = .ok (.goto 10, 3) := by decide +kernel
theorem dX1_addWord_14 : decode cX1_addWord 14 = .ok (.aload_n 0, 1) := by decide +kernel
theorem dX1_addWord_15 : decode cX1_addWord 15 = .ok (.getfield 21, 3) := by decide +kernel
theorem dX1_addWord_18 : decode cX1_addWord 18 = .ok (.getfield 133, 3) := by decide +kernel
theorem dX1_addWord_21 : decode cX1_addWord 21 = .ok (.astore 4, 2) := by decide +kernel
theorem dX1_addWord_23 : decode cX1_addWord 23 = .ok (.aload 4, 2) := by decide +kernel
theorem dX1_addWord_25 : decode cX1_addWord 25 = .ok (.lload_n 2, 1) := by decide +kernel
theorem dX1_addWord_26 : decode cX1_addWord 26 = .ok (.invokevirtual 178, 3) := by decide +kernel
theorem dX1_addWord_29 : decode cX1_addWord 29 = .ok (.ifCond .eq 5, 3) := by decide +kernel
theorem dX1_addWord_32 : decode cX1_addWord 32 = .ok (.iconst 0, 1) := by decide +kernel
theorem dX1_addWord_33 : decode cX1_addWord 33 = .ok (.ireturn, 1) := by decide +kernel
theorem dX1_addWord_34 : decode cX1_addWord 34 = .ok (.aload_n 0, 1) := by decide +kernel
theorem dX1_addWord_35 : decode cX1_addWord 35 = .ok (.getfield 21, 3) := by decide +kernel
theorem dX1_addWord_38 : decode cX1_addWord 38 = .ok (.iload_n 1, 1) := by decide +kernel
theorem dX1_addWord_39 : decode cX1_addWord 39 = .ok (.iconst 1, 1) := by decide +kernel
theorem dX1_addWord_40 : decode cX1_addWord 40 = .ok (.lload_n 2, 1) := by decide +kernel
theorem dX1_addWord_41 : decode cX1_addWord 41 = .ok (.invokestatic 169, 3) := by decide +kernel
theorem dX1_addWord_44 : decode cX1_addWord 44 = .ok (.invokevirtual 182, 3) := by decide +kernel
theorem dX1_addWord_47 : decode cX1_addWord 47 = .ok (.ifCond .ne 6, 3) := by decide +kernel
theorem dX1_addWord_50 : decode cX1_addWord 50 = .ok (.bipush (-5), 2) := by decide +kernel
theorem dX1_addWord_52 : decode cX1_addWord 52 = .ok (.ireturn, 1) := by decide +kernel
theorem dX1_addWord_53 : decode cX1_addWord 53 = .ok (.aload 4, 2) := by decide +kernel
theorem dX1_addWord_55 : decode cX1_addWord 55 = .ok (.lload_n 2, 1) := by decide +kernel
theorem dX1_addWord_56 : decode cX1_addWord 56 = .ok (.invokevirtual 207, 3) := by decide +kernel
theorem dX1_addWord_59 : decode cX1_addWord 59 = .ok (.aload_n 0, 1) := by decide +kernel
theorem dX1_addWord_60 : decode cX1_addWord 60 = .ok (.iconst 0, 1) := by decide +kernel
theorem dX1_addWord_61 : decode cX1_addWord 61 = .ok (.putfield 45, 3) := by decide +kernel
theorem dX1_addWord_64 : decode cX1_addWord 64 = .ok (.iconst 1, 1) := by decide +kernel
theorem dX1_addWord_65 : decode cX1_addWord 65 = .ok (.ireturn, 1) := by decide +kernel
set_option maxRecDepth 100000 in
theorem w_Le_addWord_J21 {p : Program} {l : Launch} {e : Env} {s : State} {m : MethodId} {args : Array Value} {below : List Frame} {meth : Method} {c : Code} {Q : State → Prop} {A : Nat → Prop} {D : va_G} {cI cJ cZ cO : ClassId} {q_this q_asked q_table q_hypothesis q_representatives q_table_prefixes q_table_suffixes q_table_known q_table_bits q_table_prefixes_words q_table_suffixes_words : Nat} {v_mode : Int32} {v_budget : Int32} {v_formed : Int32} {v_counterexample : Int64} {v_corrections : Int32} {v_deceived : Int32} {v_table_letters : Int32} {v_table_prefixes_size : Int32} {v_table_prefixes_longest : Int32} {v_table_prefixes_words : (Nat → Int64)} {v_table_suffixes_size : Int32} {v_table_suffixes_longest : Int32} {v_table_suffixes_words : (Nat → Int64)} {x : Int32 × (Nat → Int64) × Int32 × Int32 × (Nat → Int64) × Int32 × Int32 × Int32} {x1 : Int32} {x2 : Int64} (C0 : Cx p s m args c A D cI cJ cZ cO cX1_addWord 5 RX1) (hQ : RtI p l e rm_Le_addWord s m args below meth c Q A D cX1_addWord .int (ws_Le_addWord cI cJ cZ q_this q_asked q_table q_hypothesis q_representatives q_table_prefixes q_table_suffixes q_table_known q_table_bits q_table_prefixes_words q_table_suffixes_words v_mode v_budget x.2.2.2.2.2.2.2 v_counterexample v_corrections v_deceived v_table_letters x.2.2.1 x.2.2.2.1 x.2.1 x.2.2.2.2.2.1 x.2.2.2.2.2.2.1 x.2.2.2.2.1) x.1) {H : Heap} {locs : List Loc} {ls : Array Slot} (h : f_Le_addWord_J21 x1 x2 v_formed v_table_prefixes_size v_table_prefixes_longest v_table_prefixes_words v_table_suffixes_size v_table_suffixes_longest v_table_suffixes_words = some x) (w : Wd s A D (ws_Le_addWord cI cJ cZ q_this q_asked q_table q_hypothesis q_representatives q_table_prefixes q_table_suffixes q_table_known q_table_bits q_table_prefixes_words q_table_suffixes_words v_mode v_budget v_formed v_counterexample v_corrections v_deceived v_table_letters v_table_prefixes_size v_table_prefixes_longest v_table_prefixes_words v_table_suffixes_size v_table_suffixes_longest v_table_suffixes_words) H locs) (hl : lv_has ls 5 [(0, .ref q_this), (1, .int x1), (2, .long x2)]) : W p l e rm_Le_addWord s m args below meth c H locs 0 0 Q (F0 m 21 ls [.ref q_table_prefixes]) := by
  obtain ⟨hx, hb, hml, hown, hts, -, -⟩ := id C0
  unfold f_Le_addWord_J21 at h
  refine lv_astore (lv' := [(4, .ref q_table_prefixes), (0, .ref q_this), (1, .int x1), (2, .long x2)]) hx hb dX1_addWord_21 hl (by decide) rfl (fun ls hl => ?_)
  refine lv_aload hx hb dX1_addWord_23 (lv_at hl 0 rfl) ?_
  refine lv_lload_n hx hb dX1_addWord_25 rfl (lv_at hl 3 rfl) ?_
  obtain ⟨r, hcall, h⟩ := bd1_h h
  obtain ⟨wr, hp, hp'⟩ := rd_of (ws := (ws_Le_addWord cI cJ cZ q_this q_asked q_table q_hypothesis q_representatives q_table_prefixes q_table_suffixes q_table_known q_table_bits q_table_prefixes_words q_table_suffixes_words v_mode v_budget v_formed v_counterexample v_corrections v_deceived v_table_letters v_table_prefixes_size v_table_prefixes_longest v_table_prefixes_words v_table_suffixes_size v_table_suffixes_longest v_table_suffixes_words)) (wc := (ws_WL_contains cI cJ cZ q_table_prefixes q_table_prefixes_words 40 v_table_prefixes_size v_table_prefixes_longest v_table_prefixes_words)) [2, 3] rfl rfl
  refine r_VI (r := r) (As := [.long x2]) (rest := []) (wc' := (ws_WL_contains cI cJ cZ q_table_prefixes q_table_prefixes_words 40 v_table_prefixes_size v_table_prefixes_longest v_table_prefixes_words)) (ws' := (ws_Le_addWord cI cJ cZ q_this q_asked q_table q_hypothesis q_representatives q_table_prefixes q_table_suffixes q_table_known q_table_bits q_table_prefixes_words q_table_suffixes_words v_mode v_budget v_formed v_counterexample v_corrections v_deceived v_table_letters v_table_prefixes_size v_table_prefixes_longest v_table_prefixes_words v_table_suffixes_size v_table_suffixes_longest v_table_suffixes_words)) C0 w (c_WL_contains hcall) hp hp' lm_RX1_178 mv_WL_contains ⟨rfl, rfl⟩ ⟨by decide, by decide⟩ ⟨Nat.zero_le _, Nat.zero_le _⟩ (q0 := 2) rfl rfl rfl rfl hl rfl (Nat.le_of_ble_eq_true rfl) dX1_addWord_26 (fun H locs w => ?_)
  refine lv_if_eq (tgt := 34) hx hb dX1_addWord_29 (by decide) (fun hc => ?_) (fun hc => ?_)
  · have h := if_h hc h
    refine lv_aload_n hx hb dX1_addWord_34 rfl (lv_at hl 1 rfl) ?_
    refine r_get C0 w 0 rfl kf_Le 1 (by decide) lf_RX1_21 rfl dX1_addWord_35 ?_
    refine lv_iload_n hx hb dX1_addWord_38 rfl (lv_at hl 2 rfl) ?_
    refine lv_iconst (v := (1 : Int32)) hx hb dX1_addWord_39 (by decide) ?_
    refine lv_lload_n hx hb dX1_addWord_40 rfl (lv_at hl 3 rfl) ?_
    obtain ⟨r_1, hcall, h⟩ := bd1_h h
    obtain ⟨wr, hp, hp'⟩ := rd_of (ws := (ws_Le_addWord cI cJ cZ q_this q_asked q_table q_hypothesis q_representatives q_table_prefixes q_table_suffixes q_table_known q_table_bits q_table_prefixes_words q_table_suffixes_words v_mode v_budget v_formed v_counterexample v_corrections v_deceived v_table_letters v_table_prefixes_size v_table_prefixes_longest v_table_prefixes_words v_table_suffixes_size v_table_suffixes_longest v_table_suffixes_words)) (wc := (ws_Ws_lengthOf cI cJ cZ)) [] rfl rfl
    refine r_SI (r := r_1) (As := [.long x2]) (rest := [.int (1 : Int32), .int x1, .ref q_table]) (wc' := (ws_Ws_lengthOf cI cJ cZ)) (ws' := (ws_Le_addWord cI cJ cZ q_this q_asked q_table q_hypothesis q_representatives q_table_prefixes q_table_suffixes q_table_known q_table_bits q_table_prefixes_words q_table_suffixes_words v_mode v_budget v_formed v_counterexample v_corrections v_deceived v_table_letters v_table_prefixes_size v_table_prefixes_longest v_table_prefixes_words v_table_suffixes_size v_table_suffixes_longest v_table_suffixes_words)) C0 w (c_Ws_lengthOf hcall) hp hp' lm_RX1_169 ms_Ws_lengthOf ⟨rfl, rfl⟩ ⟨by decide, by decide⟩ ⟨Nat.zero_le _, Nat.zero_le _⟩ rfl hl rfl (Nat.le_of_ble_eq_true rfl) dX1_addWord_41 (fun H locs w => ?_)
    obtain ⟨r_2, hcall, h⟩ := bd1_h h
    obtain ⟨wr, hp, hp'⟩ := rd_of (ws := (ws_Le_addWord cI cJ cZ q_this q_asked q_table q_hypothesis q_representatives q_table_prefixes q_table_suffixes q_table_known q_table_bits q_table_prefixes_words q_table_suffixes_words v_mode v_budget v_formed v_counterexample v_corrections v_deceived v_table_letters v_table_prefixes_size v_table_prefixes_longest v_table_prefixes_words v_table_suffixes_size v_table_suffixes_longest v_table_suffixes_words)) (wc := (ws_Ta_hasRoom cI cJ cZ q_table q_table_prefixes q_table_suffixes q_table_known q_table_bits q_table_prefixes_words q_table_suffixes_words v_table_letters v_table_prefixes_size v_table_prefixes_longest v_table_prefixes_words v_table_suffixes_size v_table_suffixes_longest v_table_suffixes_words)) [1, 2, 3, 4, 5] rfl rfl
    refine r_VI (r := r_2) (As := [.int x1, .int (1 : Int32), .int r_1]) (rest := []) (wc' := (ws_Ta_hasRoom cI cJ cZ q_table q_table_prefixes q_table_suffixes q_table_known q_table_bits q_table_prefixes_words q_table_suffixes_words v_table_letters v_table_prefixes_size v_table_prefixes_longest v_table_prefixes_words v_table_suffixes_size v_table_suffixes_longest v_table_suffixes_words)) (ws' := (ws_Le_addWord cI cJ cZ q_this q_asked q_table q_hypothesis q_representatives q_table_prefixes q_table_suffixes q_table_known q_table_bits q_table_prefixes_words q_table_suffixes_words v_mode v_budget v_formed v_counterexample v_corrections v_deceived v_table_letters v_table_prefixes_size v_table_prefixes_longest v_table_prefixes_words v_table_suffixes_size v_table_suffixes_longest v_table_suffixes_words)) C0 w (c_Ta_hasRoom hcall) hp hp' lm_RX1_182 mv_Ta_hasRoom ⟨rfl, rfl⟩ ⟨by decide, by decide⟩ ⟨Nat.zero_le _, Nat.zero_le _⟩ (q0 := 1) rfl rfl rfl rfl hl rfl (Nat.le_of_ble_eq_true rfl) dX1_addWord_44 (fun H locs w => ?_)
    refine lv_if_ne (tgt := 53) hx hb dX1_addWord_47 (by decide) (fun hc => ?_) (fun hc => ?_)
    · have h := nf_h hc h
      refine lv_aload hx hb dX1_addWord_53 (lv_at hl 0 rfl) ?_
      refine lv_lload_n hx hb dX1_addWord_55 rfl (lv_at hl 3 rfl) ?_
      obtain ⟨v_table_prefixes_words_1, v_table_prefixes_size_1, v_table_prefixes_longest_1, hcall, h⟩ := bd3_h h
      have hp := sp_of (ws := (ws_Le_addWord cI cJ cZ q_this q_asked q_table q_hypothesis q_representatives q_table_prefixes q_table_suffixes q_table_known q_table_bits q_table_prefixes_words q_table_suffixes_words v_mode v_budget v_formed v_counterexample v_corrections v_deceived v_table_letters v_table_prefixes_size v_table_prefixes_longest v_table_prefixes_words v_table_suffixes_size v_table_suffixes_longest v_table_suffixes_words)) (wc := (ws_WL_add cI cJ cZ q_table_prefixes q_table_prefixes_words 40 v_table_prefixes_size v_table_prefixes_longest v_table_prefixes_words)) [2, 3] [0, 1, 4, 5] rfl rfl
      have hp' : Rp (pk (ws_Le_addWord cI cJ cZ q_this q_asked q_table q_hypothesis q_representatives q_table_prefixes q_table_suffixes q_table_known q_table_bits q_table_prefixes_words q_table_suffixes_words v_mode v_budget v_formed v_counterexample v_corrections v_deceived v_table_letters v_table_prefixes_size v_table_prefixes_longest v_table_prefixes_words v_table_suffixes_size v_table_suffixes_longest v_table_suffixes_words) [0, 1, 4, 5] ++ (ws_WL_add cI cJ cZ q_table_prefixes q_table_prefixes_words 40 v_table_prefixes_size_1 v_table_prefixes_longest_1 v_table_prefixes_words_1)) (ws_Le_addWord cI cJ cZ q_this q_asked q_table q_hypothesis q_representatives q_table_prefixes q_table_suffixes q_table_known q_table_bits q_table_prefixes_words q_table_suffixes_words v_mode v_budget v_formed v_counterexample v_corrections v_deceived v_table_letters v_table_prefixes_size_1 v_table_prefixes_longest_1 v_table_prefixes_words_1 v_table_suffixes_size v_table_suffixes_longest v_table_suffixes_words) := ⟨[0, 1, 4, 5, 2, 3], rfl, rfl⟩
      refine r_VV (As := [.long x2]) (rest := []) (wc' := (ws_WL_add cI cJ cZ q_table_prefixes q_table_prefixes_words 40 v_table_prefixes_size_1 v_table_prefixes_longest_1 v_table_prefixes_words_1)) (ws' := (ws_Le_addWord cI cJ cZ q_this q_asked q_table q_hypothesis q_representatives q_table_prefixes q_table_suffixes q_table_known q_table_bits q_table_prefixes_words q_table_suffixes_words v_mode v_budget v_formed v_counterexample v_corrections v_deceived v_table_letters v_table_prefixes_size_1 v_table_prefixes_longest_1 v_table_prefixes_words_1 v_table_suffixes_size v_table_suffixes_longest v_table_suffixes_words)) C0 w (c_WL_add hcall) hp hp' lm_RX1_207 mv_WL_add ⟨rfl, rfl⟩ ⟨by decide, by decide⟩ ⟨Nat.zero_le _, Nat.zero_le _⟩ (q0 := 2) rfl rfl rfl rfl hl rfl (Nat.le_of_ble_eq_true rfl) dX1_addWord_56 (fun H locs w => ?_)
      refine lv_aload_n hx hb dX1_addWord_59 rfl (lv_at hl 1 rfl) ?_
      refine lv_iconst (v := (0 : Int32)) hx hb dX1_addWord_60 (by decide) ?_
      refine r_put C0 w 0 rfl kf_Le 6 (by decide) lf_RX1_45 rfl rfl rfl (Nat.le_of_ble_eq_true rfl) dX1_addWord_61 (ws' := (ws_Le_addWord cI cJ cZ q_this q_asked q_table q_hypothesis q_representatives q_table_prefixes q_table_suffixes q_table_known q_table_bits q_table_prefixes_words q_table_suffixes_words v_mode v_budget (0 : Int32) v_counterexample v_corrections v_deceived v_table_letters v_table_prefixes_size_1 v_table_prefixes_longest_1 v_table_prefixes_words_1 v_table_suffixes_size v_table_suffixes_longest v_table_suffixes_words)) rfl (fun H locs w => ?_)
      refine lv_iconst (v := (1 : Int32)) hx hb dX1_addWord_64 (by decide) ?_
      cases h
      exact hQ _ _ _ _ dX1_addWord_65 rfl w
    · have h := if_h hc h
      refine lv_bipush (v := (-5 : Int32)) hx hb dX1_addWord_50 (by decide) ?_
      cases h
      exact hQ _ _ _ _ dX1_addWord_52 rfl w
  · have h := nf_h hc h
    refine lv_iconst (v := (0 : Int32)) hx hb dX1_addWord_32 (by decide) ?_
    cases h
    exact hQ _ _ _ _ dX1_addWord_33 rfl w
set_option maxRecDepth 100000 in
theorem w_Le_addWord_J21v1 {p : Program} {l : Launch} {e : Env} {s : State} {m : MethodId} {args : Array Value} {below : List Frame} {meth : Method} {c : Code} {Q : State → Prop} {A : Nat → Prop} {D : va_G} {cI cJ cZ cO : ClassId} {q_this q_asked q_table q_hypothesis q_representatives q_table_prefixes q_table_suffixes q_table_known q_table_bits q_table_prefixes_words q_table_suffixes_words : Nat} {v_mode : Int32} {v_budget : Int32} {v_formed : Int32} {v_counterexample : Int64} {v_corrections : Int32} {v_deceived : Int32} {v_table_letters : Int32} {v_table_prefixes_size : Int32} {v_table_prefixes_longest : Int32} {v_table_prefixes_words : (Nat → Int64)} {v_table_suffixes_size : Int32} {v_table_suffixes_longest : Int32} {v_table_suffixes_words : (Nat → Int64)} {x : Int32 × (Nat → Int64) × Int32 × Int32 × (Nat → Int64) × Int32 × Int32 × Int32} {x1 : Int32} {x2 : Int64} (C0 : Cx p s m args c A D cI cJ cZ cO cX1_addWord 5 RX1) (hQ : RtI p l e rm_Le_addWord s m args below meth c Q A D cX1_addWord .int (ws_Le_addWord cI cJ cZ q_this q_asked q_table q_hypothesis q_representatives q_table_prefixes q_table_suffixes q_table_known q_table_bits q_table_prefixes_words q_table_suffixes_words v_mode v_budget x.2.2.2.2.2.2.2 v_counterexample v_corrections v_deceived v_table_letters x.2.2.1 x.2.2.2.1 x.2.1 x.2.2.2.2.2.1 x.2.2.2.2.2.2.1 x.2.2.2.2.1) x.1) {H : Heap} {locs : List Loc} {ls : Array Slot} (h : f_Le_addWord_J21v1 x1 x2 v_formed v_table_prefixes_size v_table_prefixes_longest v_table_prefixes_words v_table_suffixes_size v_table_suffixes_longest v_table_suffixes_words = some x) (w : Wd s A D (ws_Le_addWord cI cJ cZ q_this q_asked q_table q_hypothesis q_representatives q_table_prefixes q_table_suffixes q_table_known q_table_bits q_table_prefixes_words q_table_suffixes_words v_mode v_budget v_formed v_counterexample v_corrections v_deceived v_table_letters v_table_prefixes_size v_table_prefixes_longest v_table_prefixes_words v_table_suffixes_size v_table_suffixes_longest v_table_suffixes_words) H locs) (hl : lv_has ls 5 [(0, .ref q_this), (1, .int x1), (2, .long x2)]) : W p l e rm_Le_addWord s m args below meth c H locs 0 0 Q (F0 m 21 ls [.ref q_table_suffixes]) := by
  obtain ⟨hx, hb, hml, hown, hts, -, -⟩ := id C0
  unfold f_Le_addWord_J21v1 at h
  refine lv_astore (lv' := [(4, .ref q_table_suffixes), (0, .ref q_this), (1, .int x1), (2, .long x2)]) hx hb dX1_addWord_21 hl (by decide) rfl (fun ls hl => ?_)
  refine lv_aload hx hb dX1_addWord_23 (lv_at hl 0 rfl) ?_
  refine lv_lload_n hx hb dX1_addWord_25 rfl (lv_at hl 3 rfl) ?_
  obtain ⟨r, hcall, h⟩ := bd1_h h
  obtain ⟨wr, hp, hp'⟩ := rd_of (ws := (ws_Le_addWord cI cJ cZ q_this q_asked q_table q_hypothesis q_representatives q_table_prefixes q_table_suffixes q_table_known q_table_bits q_table_prefixes_words q_table_suffixes_words v_mode v_budget v_formed v_counterexample v_corrections v_deceived v_table_letters v_table_prefixes_size v_table_prefixes_longest v_table_prefixes_words v_table_suffixes_size v_table_suffixes_longest v_table_suffixes_words)) (wc := (ws_WL_contains cI cJ cZ q_table_suffixes q_table_suffixes_words 16 v_table_suffixes_size v_table_suffixes_longest v_table_suffixes_words)) [4, 5] rfl rfl
  refine r_VI (r := r) (As := [.long x2]) (rest := []) (wc' := (ws_WL_contains cI cJ cZ q_table_suffixes q_table_suffixes_words 16 v_table_suffixes_size v_table_suffixes_longest v_table_suffixes_words)) (ws' := (ws_Le_addWord cI cJ cZ q_this q_asked q_table q_hypothesis q_representatives q_table_prefixes q_table_suffixes q_table_known q_table_bits q_table_prefixes_words q_table_suffixes_words v_mode v_budget v_formed v_counterexample v_corrections v_deceived v_table_letters v_table_prefixes_size v_table_prefixes_longest v_table_prefixes_words v_table_suffixes_size v_table_suffixes_longest v_table_suffixes_words)) C0 w (c_WL_contains hcall) hp hp' lm_RX1_178 mv_WL_contains ⟨rfl, rfl⟩ ⟨by decide, by decide⟩ ⟨Nat.zero_le _, Nat.zero_le _⟩ (q0 := 4) rfl rfl rfl rfl hl rfl (Nat.le_of_ble_eq_true rfl) dX1_addWord_26 (fun H locs w => ?_)
  refine lv_if_eq (tgt := 34) hx hb dX1_addWord_29 (by decide) (fun hc => ?_) (fun hc => ?_)
  · have h := if_h hc h
    refine lv_aload_n hx hb dX1_addWord_34 rfl (lv_at hl 1 rfl) ?_
    refine r_get C0 w 0 rfl kf_Le 1 (by decide) lf_RX1_21 rfl dX1_addWord_35 ?_
    refine lv_iload_n hx hb dX1_addWord_38 rfl (lv_at hl 2 rfl) ?_
    refine lv_iconst (v := (1 : Int32)) hx hb dX1_addWord_39 (by decide) ?_
    refine lv_lload_n hx hb dX1_addWord_40 rfl (lv_at hl 3 rfl) ?_
    obtain ⟨r_1, hcall, h⟩ := bd1_h h
    obtain ⟨wr, hp, hp'⟩ := rd_of (ws := (ws_Le_addWord cI cJ cZ q_this q_asked q_table q_hypothesis q_representatives q_table_prefixes q_table_suffixes q_table_known q_table_bits q_table_prefixes_words q_table_suffixes_words v_mode v_budget v_formed v_counterexample v_corrections v_deceived v_table_letters v_table_prefixes_size v_table_prefixes_longest v_table_prefixes_words v_table_suffixes_size v_table_suffixes_longest v_table_suffixes_words)) (wc := (ws_Ws_lengthOf cI cJ cZ)) [] rfl rfl
    refine r_SI (r := r_1) (As := [.long x2]) (rest := [.int (1 : Int32), .int x1, .ref q_table]) (wc' := (ws_Ws_lengthOf cI cJ cZ)) (ws' := (ws_Le_addWord cI cJ cZ q_this q_asked q_table q_hypothesis q_representatives q_table_prefixes q_table_suffixes q_table_known q_table_bits q_table_prefixes_words q_table_suffixes_words v_mode v_budget v_formed v_counterexample v_corrections v_deceived v_table_letters v_table_prefixes_size v_table_prefixes_longest v_table_prefixes_words v_table_suffixes_size v_table_suffixes_longest v_table_suffixes_words)) C0 w (c_Ws_lengthOf hcall) hp hp' lm_RX1_169 ms_Ws_lengthOf ⟨rfl, rfl⟩ ⟨by decide, by decide⟩ ⟨Nat.zero_le _, Nat.zero_le _⟩ rfl hl rfl (Nat.le_of_ble_eq_true rfl) dX1_addWord_41 (fun H locs w => ?_)
    obtain ⟨r_2, hcall, h⟩ := bd1_h h
    obtain ⟨wr, hp, hp'⟩ := rd_of (ws := (ws_Le_addWord cI cJ cZ q_this q_asked q_table q_hypothesis q_representatives q_table_prefixes q_table_suffixes q_table_known q_table_bits q_table_prefixes_words q_table_suffixes_words v_mode v_budget v_formed v_counterexample v_corrections v_deceived v_table_letters v_table_prefixes_size v_table_prefixes_longest v_table_prefixes_words v_table_suffixes_size v_table_suffixes_longest v_table_suffixes_words)) (wc := (ws_Ta_hasRoom cI cJ cZ q_table q_table_prefixes q_table_suffixes q_table_known q_table_bits q_table_prefixes_words q_table_suffixes_words v_table_letters v_table_prefixes_size v_table_prefixes_longest v_table_prefixes_words v_table_suffixes_size v_table_suffixes_longest v_table_suffixes_words)) [1, 2, 3, 4, 5] rfl rfl
    refine r_VI (r := r_2) (As := [.int x1, .int (1 : Int32), .int r_1]) (rest := []) (wc' := (ws_Ta_hasRoom cI cJ cZ q_table q_table_prefixes q_table_suffixes q_table_known q_table_bits q_table_prefixes_words q_table_suffixes_words v_table_letters v_table_prefixes_size v_table_prefixes_longest v_table_prefixes_words v_table_suffixes_size v_table_suffixes_longest v_table_suffixes_words)) (ws' := (ws_Le_addWord cI cJ cZ q_this q_asked q_table q_hypothesis q_representatives q_table_prefixes q_table_suffixes q_table_known q_table_bits q_table_prefixes_words q_table_suffixes_words v_mode v_budget v_formed v_counterexample v_corrections v_deceived v_table_letters v_table_prefixes_size v_table_prefixes_longest v_table_prefixes_words v_table_suffixes_size v_table_suffixes_longest v_table_suffixes_words)) C0 w (c_Ta_hasRoom hcall) hp hp' lm_RX1_182 mv_Ta_hasRoom ⟨rfl, rfl⟩ ⟨by decide, by decide⟩ ⟨Nat.zero_le _, Nat.zero_le _⟩ (q0 := 1) rfl rfl rfl rfl hl rfl (Nat.le_of_ble_eq_true rfl) dX1_addWord_44 (fun H locs w => ?_)
    refine lv_if_ne (tgt := 53) hx hb dX1_addWord_47 (by decide) (fun hc => ?_) (fun hc => ?_)
    · have h := nf_h hc h
      refine lv_aload hx hb dX1_addWord_53 (lv_at hl 0 rfl) ?_
      refine lv_lload_n hx hb dX1_addWord_55 rfl (lv_at hl 3 rfl) ?_
      obtain ⟨v_table_suffixes_words_1, v_table_suffixes_size_1, v_table_suffixes_longest_1, hcall, h⟩ := bd3_h h
      have hp := sp_of (ws := (ws_Le_addWord cI cJ cZ q_this q_asked q_table q_hypothesis q_representatives q_table_prefixes q_table_suffixes q_table_known q_table_bits q_table_prefixes_words q_table_suffixes_words v_mode v_budget v_formed v_counterexample v_corrections v_deceived v_table_letters v_table_prefixes_size v_table_prefixes_longest v_table_prefixes_words v_table_suffixes_size v_table_suffixes_longest v_table_suffixes_words)) (wc := (ws_WL_add cI cJ cZ q_table_suffixes q_table_suffixes_words 16 v_table_suffixes_size v_table_suffixes_longest v_table_suffixes_words)) [4, 5] [0, 1, 2, 3] rfl rfl
      have hp' : Rp (pk (ws_Le_addWord cI cJ cZ q_this q_asked q_table q_hypothesis q_representatives q_table_prefixes q_table_suffixes q_table_known q_table_bits q_table_prefixes_words q_table_suffixes_words v_mode v_budget v_formed v_counterexample v_corrections v_deceived v_table_letters v_table_prefixes_size v_table_prefixes_longest v_table_prefixes_words v_table_suffixes_size v_table_suffixes_longest v_table_suffixes_words) [0, 1, 2, 3] ++ (ws_WL_add cI cJ cZ q_table_suffixes q_table_suffixes_words 16 v_table_suffixes_size_1 v_table_suffixes_longest_1 v_table_suffixes_words_1)) (ws_Le_addWord cI cJ cZ q_this q_asked q_table q_hypothesis q_representatives q_table_prefixes q_table_suffixes q_table_known q_table_bits q_table_prefixes_words q_table_suffixes_words v_mode v_budget v_formed v_counterexample v_corrections v_deceived v_table_letters v_table_prefixes_size v_table_prefixes_longest v_table_prefixes_words v_table_suffixes_size_1 v_table_suffixes_longest_1 v_table_suffixes_words_1) := ⟨[0, 1, 2, 3, 4, 5], rfl, rfl⟩
      refine r_VV (As := [.long x2]) (rest := []) (wc' := (ws_WL_add cI cJ cZ q_table_suffixes q_table_suffixes_words 16 v_table_suffixes_size_1 v_table_suffixes_longest_1 v_table_suffixes_words_1)) (ws' := (ws_Le_addWord cI cJ cZ q_this q_asked q_table q_hypothesis q_representatives q_table_prefixes q_table_suffixes q_table_known q_table_bits q_table_prefixes_words q_table_suffixes_words v_mode v_budget v_formed v_counterexample v_corrections v_deceived v_table_letters v_table_prefixes_size v_table_prefixes_longest v_table_prefixes_words v_table_suffixes_size_1 v_table_suffixes_longest_1 v_table_suffixes_words_1)) C0 w (c_WL_add hcall) hp hp' lm_RX1_207 mv_WL_add ⟨rfl, rfl⟩ ⟨by decide, by decide⟩ ⟨Nat.zero_le _, Nat.zero_le _⟩ (q0 := 4) rfl rfl rfl rfl hl rfl (Nat.le_of_ble_eq_true rfl) dX1_addWord_56 (fun H locs w => ?_)
      refine lv_aload_n hx hb dX1_addWord_59 rfl (lv_at hl 1 rfl) ?_
      refine lv_iconst (v := (0 : Int32)) hx hb dX1_addWord_60 (by decide) ?_
      refine r_put C0 w 0 rfl kf_Le 6 (by decide) lf_RX1_45 rfl rfl rfl (Nat.le_of_ble_eq_true rfl) dX1_addWord_61 (ws' := (ws_Le_addWord cI cJ cZ q_this q_asked q_table q_hypothesis q_representatives q_table_prefixes q_table_suffixes q_table_known q_table_bits q_table_prefixes_words q_table_suffixes_words v_mode v_budget (0 : Int32) v_counterexample v_corrections v_deceived v_table_letters v_table_prefixes_size v_table_prefixes_longest v_table_prefixes_words v_table_suffixes_size_1 v_table_suffixes_longest_1 v_table_suffixes_words_1)) rfl (fun H locs w => ?_)
      refine lv_iconst (v := (1 : Int32)) hx hb dX1_addWord_64 (by decide) ?_
      cases h
      exact hQ _ _ _ _ dX1_addWord_65 rfl w
    · have h := if_h hc h
      refine lv_bipush (v := (-5 : Int32)) hx hb dX1_addWord_50 (by decide) ?_
      cases h
      exact hQ _ _ _ _ dX1_addWord_52 rfl w
  · have h := nf_h hc h
    refine lv_iconst (v := (0 : Int32)) hx hb dX1_addWord_32 (by decide) ?_
    cases h
    exact hQ _ _ _ _ dX1_addWord_33 rfl w
set_option maxRecDepth 100000 in
theorem c_Le_addWord {l : Launch} {D : va_G} {cI cJ cZ cO : ClassId} {q_this q_asked q_table q_hypothesis q_representatives q_table_prefixes q_table_suffixes q_table_known q_table_bits q_table_prefixes_words q_table_suffixes_words : Nat} {x1 : Int32} {x2 : Int64} {v_mode : Int32} {v_budget : Int32} {v_formed : Int32} {v_counterexample : Int64} {v_corrections : Int32} {v_deceived : Int32} {v_table_letters : Int32} {v_table_prefixes_size : Int32} {v_table_prefixes_longest : Int32} {v_table_prefixes_words : (Nat → Int64)} {v_table_suffixes_size : Int32} {v_table_suffixes_longest : Int32} {v_table_suffixes_words : (Nat → Int64)} {x : Int32 × (Nat → Int64) × Int32 × Int32 × (Nat → Int64) × Int32 × Int32 × Int32} (h : f_Le_addWord x1 x2 v_formed v_table_prefixes_size v_table_prefixes_longest v_table_prefixes_words v_table_suffixes_size v_table_suffixes_longest v_table_suffixes_words = some x) : ctI l D cI cJ cZ cO yX1_addWord cX1_addWord 5 .int rm_Le_addWord [.ref q_this, .int x1, .long x2] (ws_Le_addWord cI cJ cZ q_this q_asked q_table q_hypothesis q_representatives q_table_prefixes q_table_suffixes q_table_known q_table_bits q_table_prefixes_words q_table_suffixes_words v_mode v_budget v_formed v_counterexample v_corrections v_deceived v_table_letters v_table_prefixes_size v_table_prefixes_longest v_table_prefixes_words v_table_suffixes_size v_table_suffixes_longest v_table_suffixes_words) (ws_Le_addWord cI cJ cZ q_this q_asked q_table q_hypothesis q_representatives q_table_prefixes q_table_suffixes q_table_known q_table_bits q_table_prefixes_words q_table_suffixes_words v_mode v_budget x.2.2.2.2.2.2.2 v_counterexample v_corrections v_deceived v_table_letters x.2.2.1 x.2.2.2.1 x.2.1 x.2.2.2.2.2.1 x.2.2.2.2.2.2.1 x.2.2.2.2.1) x.1 := by
  refine ctI_of (by decide) (Nat.le_of_ble_eq_true rfl) ?_
  intro p e s m below meth c Q A ls C0 hQ w hl
  have hl : lv_has ls 5 [(0, .ref q_this), (1, .int x1), (2, .long x2)] := hl
  generalize List.toArray (α := Value) [.ref q_this, .int x1, .long x2] = args at C0 hQ ⊢
  obtain ⟨hx, hb, hml, hown, hts, -, -⟩ := id C0
  unfold f_Le_addWord at h
  refine lv_iload_n hx hb dX1_addWord_0 rfl (lv_at hl 1 rfl) ?_
  refine lv_if_eq (tgt := 14) hx hb dX1_addWord_1 (by decide) (fun hc => ?_) (fun hc => ?_)
  · have h := if_h hc h
    refine lv_aload_n hx hb dX1_addWord_14 rfl (lv_at hl 0 rfl) ?_
    refine r_get C0 w 0 rfl kf_Le 1 (by decide) lf_RX1_21 rfl dX1_addWord_15 ?_
    refine r_get C0 w 1 rfl kf_Ta 0 (by decide) lf_RX1_133 rfl dX1_addWord_18 ?_
    exact w_Le_addWord_J21 C0 hQ h w (lv_sub hl [0, 1, 2] rfl)
  · have h := nf_h hc h
    refine lv_aload_n hx hb dX1_addWord_4 rfl (lv_at hl 0 rfl) ?_
    refine r_get C0 w 0 rfl kf_Le 1 (by decide) lf_RX1_21 rfl dX1_addWord_5 ?_
    refine r_get C0 w 1 rfl kf_Ta 1 (by decide) lf_RX1_166 rfl dX1_addWord_8 ?_
    refine lv_goto (tgt := 21) hx hb dX1_addWord_11 (by decide) ?_
    exact w_Le_addWord_J21v1 C0 hQ h w (lv_sub hl [0, 1, 2] rfl)
theorem dX7_head_0 : decode cX7_head 0 = .ok (.lconst 1, 1) := by decide +kernel
theorem dX7_head_1 : decode cX7_head 1 = .ok (.iconst 2, 1) := by decide +kernel
theorem dX7_head_2 : decode cX7_head 2 = .ok (.iload_n 2, 1) := by decide +kernel
theorem dX7_head_3 : decode cX7_head 3 = .ok (.imul, 1) := by decide +kernel
theorem dX7_head_4 : decode cX7_head 4 = .ok (.lshl, 1) := by decide +kernel
theorem dX7_head_5 : decode cX7_head 5 = .ok (.lstore_n 3, 1) := by decide +kernel
theorem dX7_head_6 : decode cX7_head 6 = .ok (.lload_n 0, 1) := by decide +kernel
theorem dX7_head_7 : decode cX7_head 7 = .ok (.lload_n 3, 1) := by decide +kernel
theorem dX7_head_8 : decode cX7_head 8 = .ok (.lconst 1, 1) := by decide +kernel
theorem dX7_head_9 : decode cX7_head 9 = .ok (.lsub, 1) := by decide +kernel
theorem dX7_head_10 : decode cX7_head 10 = .ok (.land, 1) := by decide +kernel
theorem dX7_head_11 : decode cX7_head 11 = .ok (.lload_n 3, 1) := by decide +kernel
theorem dX7_head_12 : decode cX7_head 12 = .ok (.lor, 1) := by decide +kernel
theorem dX7_head_13 : decode cX7_head 13 = .ok (.lreturn, 1) := by decide +kernel
set_option maxRecDepth 100000 in
theorem c_Ws_head {l : Launch} {D : va_G} {cI cJ cZ cO : ClassId} {x0 : Int64} {x2 : Int32} {x : Int64} (h : f_Ws_head x0 x2 = some x) : ctJ l D cI cJ cZ cO yX7_head cX7_head 5 rm_Ws_head [.long x0, .int x2] (ws_Ws_head cI cJ cZ) (ws_Ws_head cI cJ cZ) x := by
  refine ctJ_of (by decide) (Nat.le_of_ble_eq_true rfl) ?_
  intro p e s m below meth c Q A ls C0 hQ w hl
  have hl : lv_has ls 5 [(0, .long x0), (2, .int x2)] := hl
  generalize List.toArray (α := Value) [.long x0, .int x2] = args at C0 hQ ⊢
  obtain ⟨hx, hb, hml, hown, hts, -, -⟩ := id C0
  unfold f_Ws_head at h
  refine lv_lconst (v := (1 : Int64)) hx hb dX7_head_0 (by decide) ?_
  refine lv_iconst (v := (2 : Int32)) hx hb dX7_head_1 (by decide) ?_
  refine lv_iload_n hx hb dX7_head_2 rfl (lv_at hl 1 rfl) ?_
  refine lv_imul hx hb dX7_head_3 ?_
  refine lv_lshl (v := ((1 : Int64) <<< (((2 : Int32) * x2).toInt64 &&& 63))) hx hb dX7_head_4 rfl ?_
  refine lv_topl (fun x3 ex3 => ?_)
  have h := bnd_at ex3 h
  refine lv_lstore_n (lv' := [(3, .long x3), (0, .long x0), (2, .int x2)]) hx hb dX7_head_5 rfl hl (by decide) rfl (fun ls hl => ?_)
  refine lv_lload_n hx hb dX7_head_6 rfl (lv_at hl 1 rfl) ?_
  refine lv_lload_n hx hb dX7_head_7 rfl (lv_at hl 0 rfl) ?_
  refine lv_lconst (v := (1 : Int64)) hx hb dX7_head_8 (by decide) ?_
  refine lv_lsub hx hb dX7_head_9 ?_
  refine lv_land hx hb dX7_head_10 ?_
  refine lv_lload_n hx hb dX7_head_11 rfl (lv_at hl 0 rfl) ?_
  refine lv_lor hx hb dX7_head_12 ?_
  cases h
  exact hQ _ _ _ _ dX7_head_13 w
theorem dX7_tailFrom_0 : decode cX7_tailFrom 0 = .ok (.lload_n 0, 1) := by decide +kernel
theorem dX7_tailFrom_1 : decode cX7_tailFrom 1 = .ok (.iconst 2, 1) := by decide +kernel
theorem dX7_tailFrom_2 : decode cX7_tailFrom 2 = .ok (.iload_n 2, 1) := by decide +kernel
theorem dX7_tailFrom_3 : decode cX7_tailFrom 3 = .ok (.imul, 1) := by decide +kernel
theorem dX7_tailFrom_4 : decode cX7_tailFrom 4 = .ok (.lshr, 1) := by decide +kernel
theorem dX7_tailFrom_5 : decode cX7_tailFrom 5 = .ok (.lreturn, 1) := by decide +kernel
set_option maxRecDepth 100000 in
theorem c_Ws_tailFrom {l : Launch} {D : va_G} {cI cJ cZ cO : ClassId} {x0 : Int64} {x2 : Int32} {x : Int64} (h : f_Ws_tailFrom x0 x2 = some x) : ctJ l D cI cJ cZ cO yX7_tailFrom cX7_tailFrom 3 rm_Ws_tailFrom [.long x0, .int x2] (ws_Ws_tailFrom cI cJ cZ) (ws_Ws_tailFrom cI cJ cZ) x := by
  refine ctJ_of (by decide) (Nat.le_of_ble_eq_true rfl) ?_
  intro p e s m below meth c Q A ls C0 hQ w hl
  have hl : lv_has ls 3 [(0, .long x0), (2, .int x2)] := hl
  generalize List.toArray (α := Value) [.long x0, .int x2] = args at C0 hQ ⊢
  obtain ⟨hx, hb, hml, hown, hts, -, -⟩ := id C0
  unfold f_Ws_tailFrom at h
  refine lv_lload_n hx hb dX7_tailFrom_0 rfl (lv_at hl 0 rfl) ?_
  refine lv_iconst (v := (2 : Int32)) hx hb dX7_tailFrom_1 (by decide) ?_
  refine lv_iload_n hx hb dX7_tailFrom_2 rfl (lv_at hl 1 rfl) ?_
  refine lv_imul hx hb dX7_tailFrom_3 ?_
  refine lv_lshr (v := (x0 >>> (((2 : Int32) * x2).toInt64 &&& 63))) hx hb dX7_tailFrom_4 rfl ?_
  cases h
  exact hQ _ _ _ _ dX7_tailFrom_5 w
theorem dX1_part_0 : decode cX1_part 0 = .ok (.iload_n 0, 1) := by decide +kernel
theorem dX1_part_1 : decode cX1_part 1 = .ok (.ifCond .eq 16, 3) := by decide +kernel
theorem dX1_part_4 : decode cX1_part 4 = .ok (.lload_n 1, 1) := by decide +kernel
theorem dX1_part_5 : decode cX1_part 5 = .ok (.lload_n 1, 1) := by decide +kernel
theorem dX1_part_6 : decode cX1_part 6 = .ok (.invokestatic 169, 3) := by decide +kernel
theorem dX1_part_9 : decode cX1_part 9 = .ok (.iload_n 3, 1) := by decide +kernel
theorem dX1_part_10 : decode cX1_part 10 = .ok (.isub, 1) := by decide +kernel
theorem dX1_part_11 : decode cX1_part 11 = .ok (.invokestatic 186, 3) := by decide +kernel
theorem dX1_part_14 : decode cX1_part 14 = .ok (.goto 8, 3) := by decide +kernel
theorem dX1_part_17 : decode cX1_part 17 = .ok (.lload_n 1, 1) := by decide +kernel
theorem dX1_part_18 : decode cX1_part 18 = .ok (.iload_n 3, 1) := by decide +kernel
theorem dX1_part_19 : decode cX1_part 19 = .ok (.invokestatic 190, 3) := by decide +kernel
theorem dX1_part_22 : decode cX1_part 22 = .ok (.lreturn, 1) := by decide +kernel
set_option maxRecDepth 100000 in
theorem c_Le_part {l : Launch} {D : va_G} {cI cJ cZ cO : ClassId} {x0 : Int32} {x1 : Int64} {x3 : Int32} {x : Int64} (h : f_Le_part x0 x1 x3 = some x) : ctJ l D cI cJ cZ cO yX1_part cX1_part 4 rm_Le_part [.int x0, .long x1, .int x3] (ws_Le_part cI cJ cZ) (ws_Le_part cI cJ cZ) x := by
  refine ctJ_of (by decide) (Nat.le_of_ble_eq_true rfl) ?_
  intro p e s m below meth c Q A ls C0 hQ w hl
  have hl : lv_has ls 4 [(0, .int x0), (1, .long x1), (3, .int x3)] := hl
  generalize List.toArray (α := Value) [.int x0, .long x1, .int x3] = args at C0 hQ ⊢
  obtain ⟨hx, hb, hml, hown, hts, -, -⟩ := id C0
  unfold f_Le_part at h
  refine lv_iload_n hx hb dX1_part_0 rfl (lv_at hl 0 rfl) ?_
  refine lv_if_eq (tgt := 17) hx hb dX1_part_1 (by decide) (fun hc => ?_) (fun hc => ?_)
  · have h := if_h hc h
    refine lv_lload_n hx hb dX1_part_17 rfl (lv_at hl 1 rfl) ?_
    refine lv_iload_n hx hb dX1_part_18 rfl (lv_at hl 2 rfl) ?_
    obtain ⟨r, hcall, h⟩ := bd1_h h
    obtain ⟨wr, hp, hp'⟩ := rd_of (ws := (ws_Le_part cI cJ cZ)) (wc := (ws_Ws_head cI cJ cZ)) [] rfl rfl
    refine r_SJ (r := r) (As := [.long x1, .int x3]) (rest := []) (wc' := (ws_Ws_head cI cJ cZ)) (ws' := (ws_Le_part cI cJ cZ)) C0 w (c_Ws_head hcall) hp hp' lm_RX1_190 ms_Ws_head ⟨rfl, rfl⟩ ⟨by decide, by decide⟩ ⟨Nat.zero_le _, Nat.zero_le _⟩ rfl hl rfl (Nat.le_of_ble_eq_true rfl) dX1_part_19 (fun H locs w => ?_)
    cases h
    exact hQ _ _ _ _ dX1_part_22 w
  · have h := nf_h hc h
    refine lv_lload_n hx hb dX1_part_4 rfl (lv_at hl 1 rfl) ?_
    refine lv_lload_n hx hb dX1_part_5 rfl (lv_at hl 1 rfl) ?_
    obtain ⟨r_1, hcall, h⟩ := bd1_h h
    obtain ⟨wr, hp, hp'⟩ := rd_of (ws := (ws_Le_part cI cJ cZ)) (wc := (ws_Ws_lengthOf cI cJ cZ)) [] rfl rfl
    refine r_SI (r := r_1) (As := [.long x1]) (rest := [.long x1]) (wc' := (ws_Ws_lengthOf cI cJ cZ)) (ws' := (ws_Le_part cI cJ cZ)) C0 w (c_Ws_lengthOf hcall) hp hp' lm_RX1_169 ms_Ws_lengthOf ⟨rfl, rfl⟩ ⟨by decide, by decide⟩ ⟨Nat.zero_le _, Nat.zero_le _⟩ rfl hl rfl (Nat.le_of_ble_eq_true rfl) dX1_part_6 (fun H locs w => ?_)
    refine lv_iload_n hx hb dX1_part_9 rfl (lv_at hl 2 rfl) ?_
    refine lv_isub hx hb dX1_part_10 ?_
    obtain ⟨r_2, hcall, h⟩ := bd1_h h
    obtain ⟨wr, hp, hp'⟩ := rd_of (ws := (ws_Le_part cI cJ cZ)) (wc := (ws_Ws_tailFrom cI cJ cZ)) [] rfl rfl
    refine r_SJ (r := r_2) (As := [.long x1, .int (r_1 - x3)]) (rest := []) (wc' := (ws_Ws_tailFrom cI cJ cZ)) (ws' := (ws_Le_part cI cJ cZ)) C0 w (c_Ws_tailFrom hcall) hp hp' lm_RX1_186 ms_Ws_tailFrom ⟨rfl, rfl⟩ ⟨by decide, by decide⟩ ⟨Nat.zero_le _, Nat.zero_le _⟩ rfl hl rfl (Nat.le_of_ble_eq_true rfl) dX1_part_11 (fun H locs w => ?_)
    refine lv_goto (tgt := 22) hx hb dX1_part_14 (by decide) ?_
    cases h
    exact hQ _ _ _ _ dX1_part_22 w
theorem dX1_addParts_0 : decode cX1_addParts 0 = .ok (.iload_n 1, 1) := by decide +kernel
theorem dX1_addParts_1 : decode cX1_addParts 1 = .ok (.ifCond .eq 13, 3) := by decide +kernel
theorem dX1_addParts_4 : decode cX1_addParts 4 = .ok (.aload_n 0, 1) := by decide +kernel
theorem dX1_addParts_5 : decode cX1_addParts 5 = .ok (.getfield 21, 3) := by decide +kernel
theorem dX1_addParts_8 : decode cX1_addParts 8 = .ok (.getfield 166, 3) := by decide +kernel
theorem dX1_addParts_11 : decode cX1_addParts 11 = .ok (.goto 10, 3) := by decide +kernel
theorem dX1_addParts_14 : decode cX1_addParts 14 = .ok (.aload_n 0, 1) := by decide +kernel
theorem dX1_addParts_15 : decode cX1_addParts 15 = .ok (.getfield 21, 3) := by decide +kernel
theorem dX1_addParts_18 : decode cX1_addParts 18 = .ok (.getfield 133, 3) := by decide +kernel
theorem dX1_addParts_21 : decode cX1_addParts 21 = .ok (.astore 4, 2) := by decide +kernel
theorem dX1_addParts_23 : decode cX1_addParts 23 = .ok (.lload_n 2, 1) := by decide +kernel
theorem dX1_addParts_24 : decode cX1_addParts 24 = .ok (.invokestatic 169, 3) := by decide +kernel
theorem dX1_addParts_27 : decode cX1_addParts 27 = .ok (.istore 5, 2) := by decide +kernel
theorem dX1_addParts_29 : decode cX1_addParts 29 = .ok (.iconst 0, 1) := by decide +kernel
theorem dX1_addParts_30 : decode cX1_addParts 30 = .ok (.istore 6, 2) := by decide +kernel
theorem dX1_addParts_32 : decode cX1_addParts 32 = .ok (.iconst 0, 1) := by decide +kernel
theorem dX1_addParts_33 : decode cX1_addParts 33 = .ok (.istore 7, 2) := by decide +kernel
theorem dX1_addParts_35 : decode cX1_addParts 35 = .ok (.iconst 0, 1) := by decide +kernel
theorem dX1_addParts_36 : decode cX1_addParts 36 = .ok (.istore 8, 2) := by decide +kernel
theorem dX1_addParts_38 : decode cX1_addParts 38 = .ok (.iload 8, 2) := by decide +kernel
theorem dX1_addParts_40 : decode cX1_addParts 40 = .ok (.iload 5, 2) := by decide +kernel
theorem dX1_addParts_42 : decode cX1_addParts 42 = .ok (.if_icmp .gt 31, 3) := by decide +kernel
theorem dX1_addParts_45 : decode cX1_addParts 45 = .ok (.aload 4, 2) := by decide +kernel
theorem dX1_addParts_47 : decode cX1_addParts 47 = .ok (.iload_n 1, 1) := by decide +kernel
theorem dX1_addParts_48 : decode cX1_addParts 48 = .ok (.lload_n 2, 1) := by decide +kernel
theorem dX1_addParts_49 : decode cX1_addParts 49 = .ok (.iload 8, 2) := by decide +kernel
theorem dX1_addParts_51 : decode cX1_addParts 51 = .ok (.invokestatic 174, 3) := by decide +kernel
theorem dX1_addParts_54 : decode cX1_addParts 54 = .ok (.invokevirtual 178, 3) := by decide +kernel
theorem dX1_addParts_57 : decode cX1_addParts 57 = .ok (.ifCond .ne 10, 3) := by decide +kernel
theorem dX1_addParts_60 : decode cX1_addParts 60 = .ok (.iinc 6 1, 3) := by decide +kernel
theorem dX1_addParts_63 : decode cX1_addParts 63 = .ok (.iload 8, 2) := by decide +kernel
theorem dX1_addParts_65 : decode cX1_addParts 65 = .ok (.istore 7, 2) := by decide +kernel
theorem dX1_addParts_67 : decode cX1_addParts 67 = .ok (.iinc 8 1, 3) := by decide +kernel
theorem dX1_addParts_70 : decode cX1_addParts 70 = .ok (.goto (-32), 3) := by decide +kernel
theorem dX1_addParts_73 : decode cX1_addParts 73 = .ok (.iload 6, 2) := by decide +kernel
theorem dX1_addParts_75 : decode cX1_addParts 75 = .ok (.ifCond .ne 5, 3) := by decide +kernel
theorem dX1_addParts_78 : decode cX1_addParts 78 = .ok (.iconst 0, 1) := by decide +kernel
theorem dX1_addParts_79 : decode cX1_addParts 79 = .ok (.ireturn, 1) := by decide +kernel
theorem dX1_addParts_80 : decode cX1_addParts 80 = .ok (.aload_n 0, 1) := by decide +kernel
theorem dX1_addParts_81 : decode cX1_addParts 81 = .ok (.getfield 21, 3) := by decide +kernel
theorem dX1_addParts_84 : decode cX1_addParts 84 = .ok (.iload_n 1, 1) := by decide +kernel
theorem dX1_addParts_85 : decode cX1_addParts 85 = .ok (.iload 6, 2) := by decide +kernel
theorem dX1_addParts_87 : decode cX1_addParts 87 = .ok (.iload 7, 2) := by decide +kernel
theorem dX1_addParts_89 : decode cX1_addParts 89 = .ok (.invokevirtual 182, 3) := by decide +kernel
theorem dX1_addParts_92 : decode cX1_addParts 92 = .ok (.ifCond .ne 6, 3) := by decide +kernel
theorem dX1_addParts_95 : decode cX1_addParts 95 = .ok (.bipush (-5), 2) := by decide +kernel
theorem dX1_addParts_97 : decode cX1_addParts 97 = .ok (.ireturn, 1) := by decide +kernel
theorem dX1_addParts_98 : decode cX1_addParts 98 = .ok (.iconst 0, 1) := by decide +kernel
theorem dX1_addParts_99 : decode cX1_addParts 99 = .ok (.istore 8, 2) := by decide +kernel
theorem dX1_addParts_101 : decode cX1_addParts 101 = .ok (.iload 8, 2) := by decide +kernel
theorem dX1_addParts_103 : decode cX1_addParts 103 = .ok (.iload 5, 2) := by decide +kernel
theorem dX1_addParts_105 : decode cX1_addParts 105 = .ok (.if_icmp .gt 22, 3) := by decide +kernel
theorem dX1_addParts_108 : decode cX1_addParts 108 = .ok (.aload_n 0, 1) := by decide +kernel
theorem dX1_addParts_109 : decode cX1_addParts 109 = .ok (.iload_n 1, 1) := by decide +kernel
theorem dX1_addParts_110 : decode cX1_addParts 110 = .ok (.iload_n 1, 1) := by decide +kernel
theorem dX1_addParts_111 : decode cX1_addParts 111 = .ok (.lload_n 2, 1) := by decide +kernel
theorem dX1_addParts_112 : decode cX1_addParts 112 = .ok (.iload 8, 2) := by decide +kernel
theorem dX1_addParts_114 : decode cX1_addParts 114 = .ok (.invokestatic 174, 3) := by decide +kernel
theorem dX1_addParts_117 : decode cX1_addParts 117 = .ok (.invokevirtual 95, 3) := by decide +kernel
theorem dX1_addParts_120 : decode cX1_addParts 120 = .ok (.pop, 1) := by decide +kernel
theorem dX1_addParts_121 : decode cX1_addParts 121 = .ok (.iinc 8 1, 3) := by decide +kernel
theorem dX1_addParts_124 : decode cX1_addParts 124 = .ok (.goto (-23), 3) := by decide +kernel
theorem dX1_addParts_127 : decode cX1_addParts 127 = .ok (.iload 6, 2) := by decide +kernel
theorem dX1_addParts_129 : decode cX1_addParts 129 = .ok (.ireturn, 1) := by decide +kernel
set_option maxRecDepth 100000 in
theorem w_Le_addParts_J67 {p : Program} {l : Launch} {e : Env} {s : State} {m : MethodId} {args : Array Value} {below : List Frame} {meth : Method} {c : Code} {Q : State → Prop} {A : Nat → Prop} {D : va_G} {cI cJ cZ cO : ClassId} {q_this q_asked q_table q_hypothesis q_representatives q_table_prefixes q_table_suffixes q_table_known q_table_bits q_table_prefixes_words q_table_suffixes_words : Nat} {v_mode : Int32} {v_budget : Int32} {v_formed : Int32} {v_counterexample : Int64} {v_corrections : Int32} {v_deceived : Int32} {v_table_letters : Int32} {v_table_prefixes_size : Int32} {v_table_prefixes_longest : Int32} {v_table_prefixes_words : (Nat → Int64)} {v_table_suffixes_size : Int32} {v_table_suffixes_longest : Int32} {v_table_suffixes_words : (Nat → Int64)} {x : Int32 × (Nat → Int64) × Int32 × Int32 × (Nat → Int64) × Int32 × Int32 × Int32} {x1 : Int32} {x2 : Int64} {x5 : Int32} {x6 : Int32} {x7 : Int32} {x8 : Int32} (C0 : Cx p s m args c A D cI cJ cZ cO cX1_addParts 9 RX1) (hQ : RtI p l e rm_Le_addParts s m args below meth c Q A D cX1_addParts .int (ws_Le_addParts cI cJ cZ q_this q_asked q_table q_hypothesis q_representatives q_table_prefixes q_table_suffixes q_table_known q_table_bits q_table_prefixes_words q_table_suffixes_words v_mode v_budget x.2.2.2.2.2.2.2 v_counterexample v_corrections v_deceived v_table_letters x.2.2.1 x.2.2.2.1 x.2.1 x.2.2.2.2.2.1 x.2.2.2.2.2.2.1 x.2.2.2.2.1) x.1) {K : Int32 → Int32 → Int32 → Option (Int32 × (Nat → Int64) × Int32 × Int32 × (Nat → Int64) × Int32 × Int32 × Int32)} (hK : ∀ (y6 : Int32) (y7 : Int32) (y8 : Int32) (H : Heap) (locs : List Loc) (ls : Array Slot), K y6 y7 y8 = some x → Wd s A D (ws_Le_addParts cI cJ cZ q_this q_asked q_table q_hypothesis q_representatives q_table_prefixes q_table_suffixes q_table_known q_table_bits q_table_prefixes_words q_table_suffixes_words v_mode v_budget v_formed v_counterexample v_corrections v_deceived v_table_letters v_table_prefixes_size v_table_prefixes_longest v_table_prefixes_words v_table_suffixes_size v_table_suffixes_longest v_table_suffixes_words) H locs → lv_has ls 9 [(0, .ref q_this), (1, .int x1), (2, .long x2), (5, .int x5), (6, .int y6), (7, .int y7)] → W p l e rm_Le_addParts s m args below meth c H locs 0 0 Q (F0 m 73 ls [])) {rec : Int32 → Int32 → Int32 → Option (Int32 × (Nat → Int64) × Int32 × Int32 × (Nat → Int64) × Int32 × Int32 × Int32)} (hrec : ∀ (y6 : Int32) (y7 : Int32) (y8 : Int32) (H : Heap) (locs : List Loc) (ls : Array Slot), rec y6 y7 y8 = some x → Wd s A D (ws_Le_addParts cI cJ cZ q_this q_asked q_table q_hypothesis q_representatives q_table_prefixes q_table_suffixes q_table_known q_table_bits q_table_prefixes_words q_table_suffixes_words v_mode v_budget v_formed v_counterexample v_corrections v_deceived v_table_letters v_table_prefixes_size v_table_prefixes_longest v_table_prefixes_words v_table_suffixes_size v_table_suffixes_longest v_table_suffixes_words) H locs → lv_has ls 9 [(0, .ref q_this), (1, .int x1), (2, .long x2), (4, .ref q_table_prefixes), (5, .int x5), (6, .int y6), (7, .int y7), (8, .int y8)] → W p l e rm_Le_addParts s m args below meth c H locs 0 0 Q (F0 m 38 ls [])) {H : Heap} {locs : List Loc} {ls : Array Slot} (h : f_Le_addParts_J67 rec x6 x7 x8 = some x) (w : Wd s A D (ws_Le_addParts cI cJ cZ q_this q_asked q_table q_hypothesis q_representatives q_table_prefixes q_table_suffixes q_table_known q_table_bits q_table_prefixes_words q_table_suffixes_words v_mode v_budget v_formed v_counterexample v_corrections v_deceived v_table_letters v_table_prefixes_size v_table_prefixes_longest v_table_prefixes_words v_table_suffixes_size v_table_suffixes_longest v_table_suffixes_words) H locs) (hl : lv_has ls 9 [(0, .ref q_this), (1, .int x1), (2, .long x2), (4, .ref q_table_prefixes), (5, .int x5), (6, .int x6), (7, .int x7), (8, .int x8)]) : W p l e rm_Le_addParts s m args below meth c H locs 0 0 Q (F0 m 67 ls []) := by
  obtain ⟨hx, hb, hml, hown, hts, -, -⟩ := id C0
  unfold f_Le_addParts_J67 at h
  obtain ⟨x8_1, ex8_1⟩ : ∃ y : Int32, y = (x8 + 1) := ⟨_, rfl⟩
  have h := bnd_at ex8_1 h
  refine lv_iinc (v := x8_1) (lv' := [(8, .int x8_1), (0, .ref q_this), (1, .int x1), (2, .long x2), (4, .ref q_table_prefixes), (5, .int x5), (6, .int x6), (7, .int x7)]) hx hb dX1_addParts_67 hl (k := 7) rfl (by rw [ex8_1]; rfl) (by decide) rfl (fun ls hl => ?_)
  refine lv_goto (tgt := 38) hx hb dX1_addParts_70 (by decide) ?_
  exact hrec _ _ _ _ _ _ h w (lv_sub hl [1, 2, 3, 4, 5, 6, 7, 0] rfl)
set_option maxRecDepth 100000 in
theorem w_Le_addParts_L38 {p : Program} {l : Launch} {e : Env} {s : State} {m : MethodId} {args : Array Value} {below : List Frame} {meth : Method} {c : Code} {Q : State → Prop} {A : Nat → Prop} {D : va_G} {cI cJ cZ cO : ClassId} {q_this q_asked q_table q_hypothesis q_representatives q_table_prefixes q_table_suffixes q_table_known q_table_bits q_table_prefixes_words q_table_suffixes_words : Nat} {v_mode : Int32} {v_budget : Int32} {v_formed : Int32} {v_counterexample : Int64} {v_corrections : Int32} {v_deceived : Int32} {v_table_letters : Int32} {v_table_prefixes_size : Int32} {v_table_prefixes_longest : Int32} {v_table_prefixes_words : (Nat → Int64)} {v_table_suffixes_size : Int32} {v_table_suffixes_longest : Int32} {v_table_suffixes_words : (Nat → Int64)} {x1 : Int32} {x2 : Int64} {x5 : Int32} {x : Int32 × (Nat → Int64) × Int32 × Int32 × (Nat → Int64) × Int32 × Int32 × Int32} (C0 : Cx p s m args c A D cI cJ cZ cO cX1_addParts 9 RX1) (hQ : RtI p l e rm_Le_addParts s m args below meth c Q A D cX1_addParts .int (ws_Le_addParts cI cJ cZ q_this q_asked q_table q_hypothesis q_representatives q_table_prefixes q_table_suffixes q_table_known q_table_bits q_table_prefixes_words q_table_suffixes_words v_mode v_budget x.2.2.2.2.2.2.2 v_counterexample v_corrections v_deceived v_table_letters x.2.2.1 x.2.2.2.1 x.2.1 x.2.2.2.2.2.1 x.2.2.2.2.2.2.1 x.2.2.2.2.1) x.1) {K : Int32 → Int32 → Int32 → Option (Int32 × (Nat → Int64) × Int32 × Int32 × (Nat → Int64) × Int32 × Int32 × Int32)} (hK : ∀ (x6 : Int32) (x7 : Int32) (x8 : Int32) (H : Heap) (locs : List Loc) (ls : Array Slot), K x6 x7 x8 = some x → Wd s A D (ws_Le_addParts cI cJ cZ q_this q_asked q_table q_hypothesis q_representatives q_table_prefixes q_table_suffixes q_table_known q_table_bits q_table_prefixes_words q_table_suffixes_words v_mode v_budget v_formed v_counterexample v_corrections v_deceived v_table_letters v_table_prefixes_size v_table_prefixes_longest v_table_prefixes_words v_table_suffixes_size v_table_suffixes_longest v_table_suffixes_words) H locs → lv_has ls 9 [(0, .ref q_this), (1, .int x1), (2, .long x2), (5, .int x5), (6, .int x6), (7, .int x7)] → W p l e rm_Le_addParts s m args below meth c H locs 0 0 Q (F0 m 73 ls [])) {rec : Int32 → Int32 → Int32 → Option (Int32 × (Nat → Int64) × Int32 × Int32 × (Nat → Int64) × Int32 × Int32 × Int32)} (hrec : ∀ (x6 : Int32) (x7 : Int32) (x8 : Int32) (H : Heap) (locs : List Loc) (ls : Array Slot), rec x6 x7 x8 = some x → Wd s A D (ws_Le_addParts cI cJ cZ q_this q_asked q_table q_hypothesis q_representatives q_table_prefixes q_table_suffixes q_table_known q_table_bits q_table_prefixes_words q_table_suffixes_words v_mode v_budget v_formed v_counterexample v_corrections v_deceived v_table_letters v_table_prefixes_size v_table_prefixes_longest v_table_prefixes_words v_table_suffixes_size v_table_suffixes_longest v_table_suffixes_words) H locs → lv_has ls 9 [(0, .ref q_this), (1, .int x1), (2, .long x2), (4, .ref q_table_prefixes), (5, .int x5), (6, .int x6), (7, .int x7), (8, .int x8)] → W p l e rm_Le_addParts s m args below meth c H locs 0 0 Q (F0 m 38 ls [])) (x6 : Int32) (x7 : Int32) (x8 : Int32) {H : Heap} {locs : List Loc} {ls : Array Slot} (h : f_Le_addParts_L38 v_table_prefixes_size v_table_prefixes_words x1 x2 x5 K rec x6 x7 x8 = some x) (w : Wd s A D (ws_Le_addParts cI cJ cZ q_this q_asked q_table q_hypothesis q_representatives q_table_prefixes q_table_suffixes q_table_known q_table_bits q_table_prefixes_words q_table_suffixes_words v_mode v_budget v_formed v_counterexample v_corrections v_deceived v_table_letters v_table_prefixes_size v_table_prefixes_longest v_table_prefixes_words v_table_suffixes_size v_table_suffixes_longest v_table_suffixes_words) H locs) (hl : lv_has ls 9 [(0, .ref q_this), (1, .int x1), (2, .long x2), (4, .ref q_table_prefixes), (5, .int x5), (6, .int x6), (7, .int x7), (8, .int x8)]) : W p l e rm_Le_addParts s m args below meth c H locs 0 0 Q (F0 m 38 ls []) := by
  obtain ⟨hx, hb, hml, hown, hts, -, -⟩ := id C0
  unfold f_Le_addParts_L38 at h
  refine lv_iload hx hb dX1_addParts_38 (lv_at hl 7 rfl) ?_
  refine lv_iload hx hb dX1_addParts_40 (lv_at hl 4 rfl) ?_
  refine lv_icmp_gt (tgt := 73) hx hb dX1_addParts_42 (by decide) (fun hc => ?_) (fun hc => ?_)
  · have h := if_h hc h
    exact hK _ _ _ _ _ _ h w (lv_sub hl [0, 1, 2, 4, 5, 6] rfl)
  · have h := nf_h hc h
    refine lv_aload hx hb dX1_addParts_45 (lv_at hl 3 rfl) ?_
    refine lv_iload_n hx hb dX1_addParts_47 rfl (lv_at hl 1 rfl) ?_
    refine lv_lload_n hx hb dX1_addParts_48 rfl (lv_at hl 2 rfl) ?_
    refine lv_iload hx hb dX1_addParts_49 (lv_at hl 7 rfl) ?_
    obtain ⟨r, hcall, h⟩ := bd1_h h
    obtain ⟨wr, hp, hp'⟩ := rd_of (ws := (ws_Le_addParts cI cJ cZ q_this q_asked q_table q_hypothesis q_representatives q_table_prefixes q_table_suffixes q_table_known q_table_bits q_table_prefixes_words q_table_suffixes_words v_mode v_budget v_formed v_counterexample v_corrections v_deceived v_table_letters v_table_prefixes_size v_table_prefixes_longest v_table_prefixes_words v_table_suffixes_size v_table_suffixes_longest v_table_suffixes_words)) (wc := (ws_Le_part cI cJ cZ)) [] rfl rfl
    refine r_SJ (r := r) (As := [.int x1, .long x2, .int x8]) (rest := [.ref q_table_prefixes]) (wc' := (ws_Le_part cI cJ cZ)) (ws' := (ws_Le_addParts cI cJ cZ q_this q_asked q_table q_hypothesis q_representatives q_table_prefixes q_table_suffixes q_table_known q_table_bits q_table_prefixes_words q_table_suffixes_words v_mode v_budget v_formed v_counterexample v_corrections v_deceived v_table_letters v_table_prefixes_size v_table_prefixes_longest v_table_prefixes_words v_table_suffixes_size v_table_suffixes_longest v_table_suffixes_words)) C0 w (c_Le_part hcall) hp hp' lm_RX1_174 ms_Le_part ⟨rfl, rfl⟩ ⟨by decide, by decide⟩ ⟨Nat.zero_le _, Nat.zero_le _⟩ rfl hl rfl (Nat.le_of_ble_eq_true rfl) dX1_addParts_51 (fun H locs w => ?_)
    obtain ⟨r_1, hcall, h⟩ := bd1_h h
    obtain ⟨wr, hp, hp'⟩ := rd_of (ws := (ws_Le_addParts cI cJ cZ q_this q_asked q_table q_hypothesis q_representatives q_table_prefixes q_table_suffixes q_table_known q_table_bits q_table_prefixes_words q_table_suffixes_words v_mode v_budget v_formed v_counterexample v_corrections v_deceived v_table_letters v_table_prefixes_size v_table_prefixes_longest v_table_prefixes_words v_table_suffixes_size v_table_suffixes_longest v_table_suffixes_words)) (wc := (ws_WL_contains cI cJ cZ q_table_prefixes q_table_prefixes_words 40 v_table_prefixes_size v_table_prefixes_longest v_table_prefixes_words)) [2, 3] rfl rfl
    refine r_VI (r := r_1) (As := [.long r]) (rest := []) (wc' := (ws_WL_contains cI cJ cZ q_table_prefixes q_table_prefixes_words 40 v_table_prefixes_size v_table_prefixes_longest v_table_prefixes_words)) (ws' := (ws_Le_addParts cI cJ cZ q_this q_asked q_table q_hypothesis q_representatives q_table_prefixes q_table_suffixes q_table_known q_table_bits q_table_prefixes_words q_table_suffixes_words v_mode v_budget v_formed v_counterexample v_corrections v_deceived v_table_letters v_table_prefixes_size v_table_prefixes_longest v_table_prefixes_words v_table_suffixes_size v_table_suffixes_longest v_table_suffixes_words)) C0 w (c_WL_contains hcall) hp hp' lm_RX1_178 mv_WL_contains ⟨rfl, rfl⟩ ⟨by decide, by decide⟩ ⟨Nat.zero_le _, Nat.zero_le _⟩ (q0 := 2) rfl rfl rfl rfl hl rfl (Nat.le_of_ble_eq_true rfl) dX1_addParts_54 (fun H locs w => ?_)
    refine lv_if_ne (tgt := 67) hx hb dX1_addParts_57 (by decide) (fun hc => ?_) (fun hc => ?_)
    · have h := nf_h hc h
      exact w_Le_addParts_J67 C0 hQ hK hrec h w (lv_sub hl [0, 1, 2, 3, 4, 5, 6, 7] rfl)
    · have h := if_h hc h
      obtain ⟨x6_1, ex6_1⟩ : ∃ y : Int32, y = (x6 + 1) := ⟨_, rfl⟩
      have h := bnd_at ex6_1 h
      refine lv_iinc (v := x6_1) (lv' := [(6, .int x6_1), (0, .ref q_this), (1, .int x1), (2, .long x2), (4, .ref q_table_prefixes), (5, .int x5), (7, .int x7), (8, .int x8)]) hx hb dX1_addParts_60 hl (k := 5) rfl (by rw [ex6_1]; rfl) (by decide) rfl (fun ls hl => ?_)
      refine lv_iload hx hb dX1_addParts_63 (lv_at hl 7 rfl) ?_
      refine lv_istore (lv' := [(7, .int x8), (6, .int x6_1), (0, .ref q_this), (1, .int x1), (2, .long x2), (4, .ref q_table_prefixes), (5, .int x5), (8, .int x8)]) hx hb dX1_addParts_65 hl (by decide) rfl (fun ls hl => ?_)
      exact w_Le_addParts_J67 C0 hQ hK hrec h w (lv_sub hl [2, 3, 4, 5, 6, 1, 0, 7] rfl)
set_option maxRecDepth 100000 in
theorem wl_Le_addParts_L38 {p : Program} {l : Launch} {e : Env} {s : State} {m : MethodId} {args : Array Value} {below : List Frame} {meth : Method} {c : Code} {Q : State → Prop} {A : Nat → Prop} {D : va_G} {cI cJ cZ cO : ClassId} {q_this q_asked q_table q_hypothesis q_representatives q_table_prefixes q_table_suffixes q_table_known q_table_bits q_table_prefixes_words q_table_suffixes_words : Nat} {v_mode : Int32} {v_budget : Int32} {v_formed : Int32} {v_counterexample : Int64} {v_corrections : Int32} {v_deceived : Int32} {v_table_letters : Int32} {v_table_prefixes_size : Int32} {v_table_prefixes_longest : Int32} {v_table_prefixes_words : (Nat → Int64)} {v_table_suffixes_size : Int32} {v_table_suffixes_longest : Int32} {v_table_suffixes_words : (Nat → Int64)} {x1 : Int32} {x2 : Int64} {x5 : Int32} {x : Int32 × (Nat → Int64) × Int32 × Int32 × (Nat → Int64) × Int32 × Int32 × Int32} (C0 : Cx p s m args c A D cI cJ cZ cO cX1_addParts 9 RX1) (hQ : RtI p l e rm_Le_addParts s m args below meth c Q A D cX1_addParts .int (ws_Le_addParts cI cJ cZ q_this q_asked q_table q_hypothesis q_representatives q_table_prefixes q_table_suffixes q_table_known q_table_bits q_table_prefixes_words q_table_suffixes_words v_mode v_budget x.2.2.2.2.2.2.2 v_counterexample v_corrections v_deceived v_table_letters x.2.2.1 x.2.2.2.1 x.2.1 x.2.2.2.2.2.1 x.2.2.2.2.2.2.1 x.2.2.2.2.1) x.1) {K : Int32 → Int32 → Int32 → Option (Int32 × (Nat → Int64) × Int32 × Int32 × (Nat → Int64) × Int32 × Int32 × Int32)} (hK : ∀ (x6 : Int32) (x7 : Int32) (x8 : Int32) (H : Heap) (locs : List Loc) (ls : Array Slot), K x6 x7 x8 = some x → Wd s A D (ws_Le_addParts cI cJ cZ q_this q_asked q_table q_hypothesis q_representatives q_table_prefixes q_table_suffixes q_table_known q_table_bits q_table_prefixes_words q_table_suffixes_words v_mode v_budget v_formed v_counterexample v_corrections v_deceived v_table_letters v_table_prefixes_size v_table_prefixes_longest v_table_prefixes_words v_table_suffixes_size v_table_suffixes_longest v_table_suffixes_words) H locs → lv_has ls 9 [(0, .ref q_this), (1, .int x1), (2, .long x2), (5, .int x5), (6, .int x6), (7, .int x7)] → W p l e rm_Le_addParts s m args below meth c H locs 0 0 Q (F0 m 73 ls [])) : ∀ (n : Nat) (x6 : Int32) (x7 : Int32) (x8 : Int32) (H : Heap) (locs : List Loc) (ls : Array Slot), itr (fun _ _ _ => none) (f_Le_addParts_L38 v_table_prefixes_size v_table_prefixes_words x1 x2 x5 K) n x6 x7 x8 = some x → Wd s A D (ws_Le_addParts cI cJ cZ q_this q_asked q_table q_hypothesis q_representatives q_table_prefixes q_table_suffixes q_table_known q_table_bits q_table_prefixes_words q_table_suffixes_words v_mode v_budget v_formed v_counterexample v_corrections v_deceived v_table_letters v_table_prefixes_size v_table_prefixes_longest v_table_prefixes_words v_table_suffixes_size v_table_suffixes_longest v_table_suffixes_words) H locs → lv_has ls 9 [(0, .ref q_this), (1, .int x1), (2, .long x2), (4, .ref q_table_prefixes), (5, .int x5), (6, .int x6), (7, .int x7), (8, .int x8)] → W p l e rm_Le_addParts s m args below meth c H locs 0 0 Q (F0 m 38 ls []) := by
  intro n
  induction n with
  | zero => intro _ _ _ _ _ _ h; cases (show none = some _ from h)
  | succ n ih => intro _ _ _ _ _ _ h w hl; exact w_Le_addParts_L38 C0 hQ hK ih _ _ _ h w hl
set_option maxRecDepth 100000 in
theorem w_Le_addParts_L101 {p : Program} {l : Launch} {e : Env} {s : State} {m : MethodId} {args : Array Value} {below : List Frame} {meth : Method} {c : Code} {Q : State → Prop} {A : Nat → Prop} {D : va_G} {cI cJ cZ cO : ClassId} {q_this q_asked q_table q_hypothesis q_representatives q_table_prefixes q_table_suffixes q_table_known q_table_bits q_table_prefixes_words q_table_suffixes_words : Nat} {v_mode : Int32} {v_budget : Int32} {v_counterexample : Int64} {v_corrections : Int32} {v_deceived : Int32} {v_table_letters : Int32} {x1 : Int32} {x2 : Int64} {x5 : Int32} {x6 : Int32} {x : Int32 × (Nat → Int64) × Int32 × Int32 × (Nat → Int64) × Int32 × Int32 × Int32} (C0 : Cx p s m args c A D cI cJ cZ cO cX1_addParts 9 RX1) (hQ : RtI p l e rm_Le_addParts s m args below meth c Q A D cX1_addParts .int (ws_Le_addParts cI cJ cZ q_this q_asked q_table q_hypothesis q_representatives q_table_prefixes q_table_suffixes q_table_known q_table_bits q_table_prefixes_words q_table_suffixes_words v_mode v_budget x.2.2.2.2.2.2.2 v_counterexample v_corrections v_deceived v_table_letters x.2.2.1 x.2.2.2.1 x.2.1 x.2.2.2.2.2.1 x.2.2.2.2.2.2.1 x.2.2.2.2.1) x.1) {K : Int32 → (Nat → Int64) → Int32 → Int32 → (Nat → Int64) → Int32 → Int32 → Int32 → Option (Int32 × (Nat → Int64) × Int32 × Int32 × (Nat → Int64) × Int32 × Int32 × Int32)} (hK : ∀ (x8 : Int32) (v_table_prefixes_words : (Nat → Int64)) (v_table_prefixes_size : Int32) (v_table_prefixes_longest : Int32) (v_table_suffixes_words : (Nat → Int64)) (v_table_suffixes_size : Int32) (v_table_suffixes_longest : Int32) (v_formed : Int32) (H : Heap) (locs : List Loc) (ls : Array Slot), K x8 v_table_prefixes_words v_table_prefixes_size v_table_prefixes_longest v_table_suffixes_words v_table_suffixes_size v_table_suffixes_longest v_formed = some x → Wd s A D (ws_Le_addParts cI cJ cZ q_this q_asked q_table q_hypothesis q_representatives q_table_prefixes q_table_suffixes q_table_known q_table_bits q_table_prefixes_words q_table_suffixes_words v_mode v_budget v_formed v_counterexample v_corrections v_deceived v_table_letters v_table_prefixes_size v_table_prefixes_longest v_table_prefixes_words v_table_suffixes_size v_table_suffixes_longest v_table_suffixes_words) H locs → lv_has ls 9 [(6, .int x6)] → W p l e rm_Le_addParts s m args below meth c H locs 0 0 Q (F0 m 127 ls [])) {rec : Int32 → (Nat → Int64) → Int32 → Int32 → (Nat → Int64) → Int32 → Int32 → Int32 → Option (Int32 × (Nat → Int64) × Int32 × Int32 × (Nat → Int64) × Int32 × Int32 × Int32)} (hrec : ∀ (x8 : Int32) (v_table_prefixes_words : (Nat → Int64)) (v_table_prefixes_size : Int32) (v_table_prefixes_longest : Int32) (v_table_suffixes_words : (Nat → Int64)) (v_table_suffixes_size : Int32) (v_table_suffixes_longest : Int32) (v_formed : Int32) (H : Heap) (locs : List Loc) (ls : Array Slot), rec x8 v_table_prefixes_words v_table_prefixes_size v_table_prefixes_longest v_table_suffixes_words v_table_suffixes_size v_table_suffixes_longest v_formed = some x → Wd s A D (ws_Le_addParts cI cJ cZ q_this q_asked q_table q_hypothesis q_representatives q_table_prefixes q_table_suffixes q_table_known q_table_bits q_table_prefixes_words q_table_suffixes_words v_mode v_budget v_formed v_counterexample v_corrections v_deceived v_table_letters v_table_prefixes_size v_table_prefixes_longest v_table_prefixes_words v_table_suffixes_size v_table_suffixes_longest v_table_suffixes_words) H locs → lv_has ls 9 [(0, .ref q_this), (1, .int x1), (2, .long x2), (5, .int x5), (6, .int x6), (8, .int x8)] → W p l e rm_Le_addParts s m args below meth c H locs 0 0 Q (F0 m 101 ls [])) (x8 : Int32) (v_table_prefixes_words : (Nat → Int64)) (v_table_prefixes_size : Int32) (v_table_prefixes_longest : Int32) (v_table_suffixes_words : (Nat → Int64)) (v_table_suffixes_size : Int32) (v_table_suffixes_longest : Int32) (v_formed : Int32) {H : Heap} {locs : List Loc} {ls : Array Slot} (h : f_Le_addParts_L101 x1 x2 x5 K rec x8 v_table_prefixes_words v_table_prefixes_size v_table_prefixes_longest v_table_suffixes_words v_table_suffixes_size v_table_suffixes_longest v_formed = some x) (w : Wd s A D (ws_Le_addParts cI cJ cZ q_this q_asked q_table q_hypothesis q_representatives q_table_prefixes q_table_suffixes q_table_known q_table_bits q_table_prefixes_words q_table_suffixes_words v_mode v_budget v_formed v_counterexample v_corrections v_deceived v_table_letters v_table_prefixes_size v_table_prefixes_longest v_table_prefixes_words v_table_suffixes_size v_table_suffixes_longest v_table_suffixes_words) H locs) (hl : lv_has ls 9 [(0, .ref q_this), (1, .int x1), (2, .long x2), (5, .int x5), (6, .int x6), (8, .int x8)]) : W p l e rm_Le_addParts s m args below meth c H locs 0 0 Q (F0 m 101 ls []) := by
  obtain ⟨hx, hb, hml, hown, hts, -, -⟩ := id C0
  unfold f_Le_addParts_L101 at h
  refine lv_iload hx hb dX1_addParts_101 (lv_at hl 5 rfl) ?_
  refine lv_iload hx hb dX1_addParts_103 (lv_at hl 3 rfl) ?_
  refine lv_icmp_gt (tgt := 127) hx hb dX1_addParts_105 (by decide) (fun hc => ?_) (fun hc => ?_)
  · have h := if_h hc h
    exact hK _ _ _ _ _ _ _ _ _ _ _ h w (lv_sub hl [4] rfl)
  · have h := nf_h hc h
    refine lv_aload_n hx hb dX1_addParts_108 rfl (lv_at hl 0 rfl) ?_
    refine lv_iload_n hx hb dX1_addParts_109 rfl (lv_at hl 1 rfl) ?_
    refine lv_iload_n hx hb dX1_addParts_110 rfl (lv_at hl 1 rfl) ?_
    refine lv_lload_n hx hb dX1_addParts_111 rfl (lv_at hl 2 rfl) ?_
    refine lv_iload hx hb dX1_addParts_112 (lv_at hl 5 rfl) ?_
    obtain ⟨r, hcall, h⟩ := bd1_h h
    obtain ⟨wr, hp, hp'⟩ := rd_of (ws := (ws_Le_addParts cI cJ cZ q_this q_asked q_table q_hypothesis q_representatives q_table_prefixes q_table_suffixes q_table_known q_table_bits q_table_prefixes_words q_table_suffixes_words v_mode v_budget v_formed v_counterexample v_corrections v_deceived v_table_letters v_table_prefixes_size v_table_prefixes_longest v_table_prefixes_words v_table_suffixes_size v_table_suffixes_longest v_table_suffixes_words)) (wc := (ws_Le_part cI cJ cZ)) [] rfl rfl
    refine r_SJ (r := r) (As := [.int x1, .long x2, .int x8]) (rest := [.int x1, .ref q_this]) (wc' := (ws_Le_part cI cJ cZ)) (ws' := (ws_Le_addParts cI cJ cZ q_this q_asked q_table q_hypothesis q_representatives q_table_prefixes q_table_suffixes q_table_known q_table_bits q_table_prefixes_words q_table_suffixes_words v_mode v_budget v_formed v_counterexample v_corrections v_deceived v_table_letters v_table_prefixes_size v_table_prefixes_longest v_table_prefixes_words v_table_suffixes_size v_table_suffixes_longest v_table_suffixes_words)) C0 w (c_Le_part hcall) hp hp' lm_RX1_174 ms_Le_part ⟨rfl, rfl⟩ ⟨by decide, by decide⟩ ⟨Nat.zero_le _, Nat.zero_le _⟩ rfl hl rfl (Nat.le_of_ble_eq_true rfl) dX1_addParts_114 (fun H locs w => ?_)
    obtain ⟨r_1, v_table_prefixes_words_1, v_table_prefixes_size_1, v_table_prefixes_longest_1, v_table_suffixes_words_1, v_table_suffixes_size_1, v_table_suffixes_longest_1, v_formed_1, hcall, h⟩ := bd8_h h
    have hp := sp_of (ws := (ws_Le_addParts cI cJ cZ q_this q_asked q_table q_hypothesis q_representatives q_table_prefixes q_table_suffixes q_table_known q_table_bits q_table_prefixes_words q_table_suffixes_words v_mode v_budget v_formed v_counterexample v_corrections v_deceived v_table_letters v_table_prefixes_size v_table_prefixes_longest v_table_prefixes_words v_table_suffixes_size v_table_suffixes_longest v_table_suffixes_words)) (wc := (ws_Le_addWord cI cJ cZ q_this q_asked q_table q_hypothesis q_representatives q_table_prefixes q_table_suffixes q_table_known q_table_bits q_table_prefixes_words q_table_suffixes_words v_mode v_budget v_formed v_counterexample v_corrections v_deceived v_table_letters v_table_prefixes_size v_table_prefixes_longest v_table_prefixes_words v_table_suffixes_size v_table_suffixes_longest v_table_suffixes_words)) [0, 1, 2, 3, 4, 5] [] rfl rfl
    have hp' : Rp (pk (ws_Le_addParts cI cJ cZ q_this q_asked q_table q_hypothesis q_representatives q_table_prefixes q_table_suffixes q_table_known q_table_bits q_table_prefixes_words q_table_suffixes_words v_mode v_budget v_formed v_counterexample v_corrections v_deceived v_table_letters v_table_prefixes_size v_table_prefixes_longest v_table_prefixes_words v_table_suffixes_size v_table_suffixes_longest v_table_suffixes_words) [] ++ (ws_Le_addWord cI cJ cZ q_this q_asked q_table q_hypothesis q_representatives q_table_prefixes q_table_suffixes q_table_known q_table_bits q_table_prefixes_words q_table_suffixes_words v_mode v_budget v_formed_1 v_counterexample v_corrections v_deceived v_table_letters v_table_prefixes_size_1 v_table_prefixes_longest_1 v_table_prefixes_words_1 v_table_suffixes_size_1 v_table_suffixes_longest_1 v_table_suffixes_words_1)) (ws_Le_addParts cI cJ cZ q_this q_asked q_table q_hypothesis q_representatives q_table_prefixes q_table_suffixes q_table_known q_table_bits q_table_prefixes_words q_table_suffixes_words v_mode v_budget v_formed_1 v_counterexample v_corrections v_deceived v_table_letters v_table_prefixes_size_1 v_table_prefixes_longest_1 v_table_prefixes_words_1 v_table_suffixes_size_1 v_table_suffixes_longest_1 v_table_suffixes_words_1) := ⟨[0, 1, 2, 3, 4, 5], rfl, rfl⟩
    refine r_VI (r := r_1) (As := [.int x1, .long r]) (rest := []) (wc' := (ws_Le_addWord cI cJ cZ q_this q_asked q_table q_hypothesis q_representatives q_table_prefixes q_table_suffixes q_table_known q_table_bits q_table_prefixes_words q_table_suffixes_words v_mode v_budget v_formed_1 v_counterexample v_corrections v_deceived v_table_letters v_table_prefixes_size_1 v_table_prefixes_longest_1 v_table_prefixes_words_1 v_table_suffixes_size_1 v_table_suffixes_longest_1 v_table_suffixes_words_1)) (ws' := (ws_Le_addParts cI cJ cZ q_this q_asked q_table q_hypothesis q_representatives q_table_prefixes q_table_suffixes q_table_known q_table_bits q_table_prefixes_words q_table_suffixes_words v_mode v_budget v_formed_1 v_counterexample v_corrections v_deceived v_table_letters v_table_prefixes_size_1 v_table_prefixes_longest_1 v_table_prefixes_words_1 v_table_suffixes_size_1 v_table_suffixes_longest_1 v_table_suffixes_words_1)) C0 w (c_Le_addWord hcall) hp hp' lm_RX1_95 mv_Le_addWord ⟨rfl, rfl⟩ ⟨by decide, by decide⟩ ⟨Nat.zero_le _, Nat.zero_le _⟩ (q0 := 0) rfl rfl rfl rfl hl rfl (Nat.le_of_ble_eq_true rfl) dX1_addParts_117 (fun H locs w => ?_)
    refine lv_pop hx hb dX1_addParts_120 rfl ?_
    obtain ⟨x8_1, ex8_1⟩ : ∃ y : Int32, y = (x8 + 1) := ⟨_, rfl⟩
    have h := bnd_at ex8_1 h
    refine lv_iinc (v := x8_1) (lv' := [(8, .int x8_1), (0, .ref q_this), (1, .int x1), (2, .long x2), (5, .int x5), (6, .int x6)]) hx hb dX1_addParts_121 hl (k := 5) rfl (by rw [ex8_1]; rfl) (by decide) rfl (fun ls hl => ?_)
    refine lv_goto (tgt := 101) hx hb dX1_addParts_124 (by decide) ?_
    exact hrec _ _ _ _ _ _ _ _ _ _ _ h w (lv_sub hl [1, 2, 3, 4, 5, 0] rfl)
set_option maxRecDepth 100000 in
theorem wl_Le_addParts_L101 {p : Program} {l : Launch} {e : Env} {s : State} {m : MethodId} {args : Array Value} {below : List Frame} {meth : Method} {c : Code} {Q : State → Prop} {A : Nat → Prop} {D : va_G} {cI cJ cZ cO : ClassId} {q_this q_asked q_table q_hypothesis q_representatives q_table_prefixes q_table_suffixes q_table_known q_table_bits q_table_prefixes_words q_table_suffixes_words : Nat} {v_mode : Int32} {v_budget : Int32} {v_counterexample : Int64} {v_corrections : Int32} {v_deceived : Int32} {v_table_letters : Int32} {x1 : Int32} {x2 : Int64} {x5 : Int32} {x6 : Int32} {x : Int32 × (Nat → Int64) × Int32 × Int32 × (Nat → Int64) × Int32 × Int32 × Int32} (C0 : Cx p s m args c A D cI cJ cZ cO cX1_addParts 9 RX1) (hQ : RtI p l e rm_Le_addParts s m args below meth c Q A D cX1_addParts .int (ws_Le_addParts cI cJ cZ q_this q_asked q_table q_hypothesis q_representatives q_table_prefixes q_table_suffixes q_table_known q_table_bits q_table_prefixes_words q_table_suffixes_words v_mode v_budget x.2.2.2.2.2.2.2 v_counterexample v_corrections v_deceived v_table_letters x.2.2.1 x.2.2.2.1 x.2.1 x.2.2.2.2.2.1 x.2.2.2.2.2.2.1 x.2.2.2.2.1) x.1) {K : Int32 → (Nat → Int64) → Int32 → Int32 → (Nat → Int64) → Int32 → Int32 → Int32 → Option (Int32 × (Nat → Int64) × Int32 × Int32 × (Nat → Int64) × Int32 × Int32 × Int32)} (hK : ∀ (x8 : Int32) (v_table_prefixes_words : (Nat → Int64)) (v_table_prefixes_size : Int32) (v_table_prefixes_longest : Int32) (v_table_suffixes_words : (Nat → Int64)) (v_table_suffixes_size : Int32) (v_table_suffixes_longest : Int32) (v_formed : Int32) (H : Heap) (locs : List Loc) (ls : Array Slot), K x8 v_table_prefixes_words v_table_prefixes_size v_table_prefixes_longest v_table_suffixes_words v_table_suffixes_size v_table_suffixes_longest v_formed = some x → Wd s A D (ws_Le_addParts cI cJ cZ q_this q_asked q_table q_hypothesis q_representatives q_table_prefixes q_table_suffixes q_table_known q_table_bits q_table_prefixes_words q_table_suffixes_words v_mode v_budget v_formed v_counterexample v_corrections v_deceived v_table_letters v_table_prefixes_size v_table_prefixes_longest v_table_prefixes_words v_table_suffixes_size v_table_suffixes_longest v_table_suffixes_words) H locs → lv_has ls 9 [(6, .int x6)] → W p l e rm_Le_addParts s m args below meth c H locs 0 0 Q (F0 m 127 ls [])) : ∀ (n : Nat) (x8 : Int32) (v_table_prefixes_words : (Nat → Int64)) (v_table_prefixes_size : Int32) (v_table_prefixes_longest : Int32) (v_table_suffixes_words : (Nat → Int64)) (v_table_suffixes_size : Int32) (v_table_suffixes_longest : Int32) (v_formed : Int32) (H : Heap) (locs : List Loc) (ls : Array Slot), itr (fun _ _ _ _ _ _ _ _ => none) (f_Le_addParts_L101 x1 x2 x5 K) n x8 v_table_prefixes_words v_table_prefixes_size v_table_prefixes_longest v_table_suffixes_words v_table_suffixes_size v_table_suffixes_longest v_formed = some x → Wd s A D (ws_Le_addParts cI cJ cZ q_this q_asked q_table q_hypothesis q_representatives q_table_prefixes q_table_suffixes q_table_known q_table_bits q_table_prefixes_words q_table_suffixes_words v_mode v_budget v_formed v_counterexample v_corrections v_deceived v_table_letters v_table_prefixes_size v_table_prefixes_longest v_table_prefixes_words v_table_suffixes_size v_table_suffixes_longest v_table_suffixes_words) H locs → lv_has ls 9 [(0, .ref q_this), (1, .int x1), (2, .long x2), (5, .int x5), (6, .int x6), (8, .int x8)] → W p l e rm_Le_addParts s m args below meth c H locs 0 0 Q (F0 m 101 ls []) := by
  intro n
  induction n with
  | zero => intro _ _ _ _ _ _ _ _ _ _ _ h; cases (show none = some _ from h)
  | succ n ih => intro _ _ _ _ _ _ _ _ _ _ _ h w hl; exact w_Le_addParts_L101 C0 hQ hK ih _ _ _ _ _ _ _ _ h w hl
set_option maxRecDepth 100000 in
theorem w_Le_addParts_J21 {p : Program} {l : Launch} {e : Env} {s : State} {m : MethodId} {args : Array Value} {below : List Frame} {meth : Method} {c : Code} {Q : State → Prop} {A : Nat → Prop} {D : va_G} {cI cJ cZ cO : ClassId} {q_this q_asked q_table q_hypothesis q_representatives q_table_prefixes q_table_suffixes q_table_known q_table_bits q_table_prefixes_words q_table_suffixes_words : Nat} {v_mode : Int32} {v_budget : Int32} {v_formed : Int32} {v_counterexample : Int64} {v_corrections : Int32} {v_deceived : Int32} {v_table_letters : Int32} {v_table_prefixes_size : Int32} {v_table_prefixes_longest : Int32} {v_table_prefixes_words : (Nat → Int64)} {v_table_suffixes_size : Int32} {v_table_suffixes_longest : Int32} {v_table_suffixes_words : (Nat → Int64)} {x : Int32 × (Nat → Int64) × Int32 × Int32 × (Nat → Int64) × Int32 × Int32 × Int32} {x1 : Int32} {x2 : Int64} (C0 : Cx p s m args c A D cI cJ cZ cO cX1_addParts 9 RX1) (hQ : RtI p l e rm_Le_addParts s m args below meth c Q A D cX1_addParts .int (ws_Le_addParts cI cJ cZ q_this q_asked q_table q_hypothesis q_representatives q_table_prefixes q_table_suffixes q_table_known q_table_bits q_table_prefixes_words q_table_suffixes_words v_mode v_budget x.2.2.2.2.2.2.2 v_counterexample v_corrections v_deceived v_table_letters x.2.2.1 x.2.2.2.1 x.2.1 x.2.2.2.2.2.1 x.2.2.2.2.2.2.1 x.2.2.2.2.1) x.1) {H : Heap} {locs : List Loc} {ls : Array Slot} (h : f_Le_addParts_J21 x1 x2 v_formed v_table_prefixes_size v_table_prefixes_longest v_table_prefixes_words v_table_suffixes_size v_table_suffixes_longest v_table_suffixes_words = some x) (w : Wd s A D (ws_Le_addParts cI cJ cZ q_this q_asked q_table q_hypothesis q_representatives q_table_prefixes q_table_suffixes q_table_known q_table_bits q_table_prefixes_words q_table_suffixes_words v_mode v_budget v_formed v_counterexample v_corrections v_deceived v_table_letters v_table_prefixes_size v_table_prefixes_longest v_table_prefixes_words v_table_suffixes_size v_table_suffixes_longest v_table_suffixes_words) H locs) (hl : lv_has ls 9 [(0, .ref q_this), (1, .int x1), (2, .long x2)]) : W p l e rm_Le_addParts s m args below meth c H locs 0 0 Q (F0 m 21 ls [.ref q_table_prefixes]) := by
  obtain ⟨hx, hb, hml, hown, hts, -, -⟩ := id C0
  unfold f_Le_addParts_J21 at h
  refine lv_astore (lv' := [(4, .ref q_table_prefixes), (0, .ref q_this), (1, .int x1), (2, .long x2)]) hx hb dX1_addParts_21 hl (by decide) rfl (fun ls hl => ?_)
  refine lv_lload_n hx hb dX1_addParts_23 rfl (lv_at hl 3 rfl) ?_
  obtain ⟨r, hcall, h⟩ := bd1_h h
  obtain ⟨wr, hp, hp'⟩ := rd_of (ws := (ws_Le_addParts cI cJ cZ q_this q_asked q_table q_hypothesis q_representatives q_table_prefixes q_table_suffixes q_table_known q_table_bits q_table_prefixes_words q_table_suffixes_words v_mode v_budget v_formed v_counterexample v_corrections v_deceived v_table_letters v_table_prefixes_size v_table_prefixes_longest v_table_prefixes_words v_table_suffixes_size v_table_suffixes_longest v_table_suffixes_words)) (wc := (ws_Ws_lengthOf cI cJ cZ)) [] rfl rfl
  refine r_SI (r := r) (As := [.long x2]) (rest := []) (wc' := (ws_Ws_lengthOf cI cJ cZ)) (ws' := (ws_Le_addParts cI cJ cZ q_this q_asked q_table q_hypothesis q_representatives q_table_prefixes q_table_suffixes q_table_known q_table_bits q_table_prefixes_words q_table_suffixes_words v_mode v_budget v_formed v_counterexample v_corrections v_deceived v_table_letters v_table_prefixes_size v_table_prefixes_longest v_table_prefixes_words v_table_suffixes_size v_table_suffixes_longest v_table_suffixes_words)) C0 w (c_Ws_lengthOf hcall) hp hp' lm_RX1_169 ms_Ws_lengthOf ⟨rfl, rfl⟩ ⟨by decide, by decide⟩ ⟨Nat.zero_le _, Nat.zero_le _⟩ rfl hl rfl (Nat.le_of_ble_eq_true rfl) dX1_addParts_24 (fun H locs w => ?_)
  refine lv_istore (lv' := [(5, .int r), (4, .ref q_table_prefixes), (0, .ref q_this), (1, .int x1), (2, .long x2)]) hx hb dX1_addParts_27 hl (by decide) rfl (fun ls hl => ?_)
  refine lv_iconst (v := (0 : Int32)) hx hb dX1_addParts_29 (by decide) ?_
  refine lv_istore (lv' := [(6, .int (0 : Int32)), (5, .int r), (4, .ref q_table_prefixes), (0, .ref q_this), (1, .int x1), (2, .long x2)]) hx hb dX1_addParts_30 hl (by decide) rfl (fun ls hl => ?_)
  refine lv_iconst (v := (0 : Int32)) hx hb dX1_addParts_32 (by decide) ?_
  refine lv_istore (lv' := [(7, .int (0 : Int32)), (6, .int (0 : Int32)), (5, .int r), (4, .ref q_table_prefixes), (0, .ref q_this), (1, .int x1), (2, .long x2)]) hx hb dX1_addParts_33 hl (by decide) rfl (fun ls hl => ?_)
  refine lv_iconst (v := (0 : Int32)) hx hb dX1_addParts_35 (by decide) ?_
  refine lv_istore (lv' := [(8, .int (0 : Int32)), (7, .int (0 : Int32)), (6, .int (0 : Int32)), (5, .int r), (4, .ref q_table_prefixes), (0, .ref q_this), (1, .int x1), (2, .long x2)]) hx hb dX1_addParts_36 hl (by decide) rfl (fun ls hl => ?_)
  refine wl_Le_addParts_L38 C0 hQ (fun x6 x7 x8 H locs ls h w hl => ?_) _ _ _ _ _ _ _ h w (lv_sub hl [5, 6, 7, 4, 3, 2, 1, 0] rfl)
  refine lv_iload hx hb dX1_addParts_73 (lv_at hl 4 rfl) ?_
  refine lv_if_ne (tgt := 80) hx hb dX1_addParts_75 (by decide) (fun hc => ?_) (fun hc => ?_)
  · have h := nf_h hc h
    refine lv_aload_n hx hb dX1_addParts_80 rfl (lv_at hl 0 rfl) ?_
    refine r_get C0 w 0 rfl kf_Le 1 (by decide) lf_RX1_21 rfl dX1_addParts_81 ?_
    refine lv_iload_n hx hb dX1_addParts_84 rfl (lv_at hl 1 rfl) ?_
    refine lv_iload hx hb dX1_addParts_85 (lv_at hl 4 rfl) ?_
    refine lv_iload hx hb dX1_addParts_87 (lv_at hl 5 rfl) ?_
    obtain ⟨r_1, hcall, h⟩ := bd1_h h
    obtain ⟨wr, hp, hp'⟩ := rd_of (ws := (ws_Le_addParts cI cJ cZ q_this q_asked q_table q_hypothesis q_representatives q_table_prefixes q_table_suffixes q_table_known q_table_bits q_table_prefixes_words q_table_suffixes_words v_mode v_budget v_formed v_counterexample v_corrections v_deceived v_table_letters v_table_prefixes_size v_table_prefixes_longest v_table_prefixes_words v_table_suffixes_size v_table_suffixes_longest v_table_suffixes_words)) (wc := (ws_Ta_hasRoom cI cJ cZ q_table q_table_prefixes q_table_suffixes q_table_known q_table_bits q_table_prefixes_words q_table_suffixes_words v_table_letters v_table_prefixes_size v_table_prefixes_longest v_table_prefixes_words v_table_suffixes_size v_table_suffixes_longest v_table_suffixes_words)) [1, 2, 3, 4, 5] rfl rfl
    refine r_VI (r := r_1) (As := [.int x1, .int x6, .int x7]) (rest := []) (wc' := (ws_Ta_hasRoom cI cJ cZ q_table q_table_prefixes q_table_suffixes q_table_known q_table_bits q_table_prefixes_words q_table_suffixes_words v_table_letters v_table_prefixes_size v_table_prefixes_longest v_table_prefixes_words v_table_suffixes_size v_table_suffixes_longest v_table_suffixes_words)) (ws' := (ws_Le_addParts cI cJ cZ q_this q_asked q_table q_hypothesis q_representatives q_table_prefixes q_table_suffixes q_table_known q_table_bits q_table_prefixes_words q_table_suffixes_words v_mode v_budget v_formed v_counterexample v_corrections v_deceived v_table_letters v_table_prefixes_size v_table_prefixes_longest v_table_prefixes_words v_table_suffixes_size v_table_suffixes_longest v_table_suffixes_words)) C0 w (c_Ta_hasRoom hcall) hp hp' lm_RX1_182 mv_Ta_hasRoom ⟨rfl, rfl⟩ ⟨by decide, by decide⟩ ⟨Nat.zero_le _, Nat.zero_le _⟩ (q0 := 1) rfl rfl rfl rfl hl rfl (Nat.le_of_ble_eq_true rfl) dX1_addParts_89 (fun H locs w => ?_)
    refine lv_if_ne (tgt := 98) hx hb dX1_addParts_92 (by decide) (fun hc => ?_) (fun hc => ?_)
    · have h := nf_h hc h
      refine lv_iconst (v := (0 : Int32)) hx hb dX1_addParts_98 (by decide) ?_
      refine lv_istore (lv' := [(8, .int (0 : Int32)), (0, .ref q_this), (1, .int x1), (2, .long x2), (5, .int r), (6, .int x6), (7, .int x7)]) hx hb dX1_addParts_99 hl (by decide) rfl (fun ls hl => ?_)
      refine wl_Le_addParts_L101 C0 hQ (fun x8_1 v_table_prefixes_words_1 v_table_prefixes_size_1 v_table_prefixes_longest_1 v_table_suffixes_words_1 v_table_suffixes_size_1 v_table_suffixes_longest_1 v_formed_1 H locs ls h w hl => ?_) _ _ _ _ _ _ _ _ _ _ _ _ h w (lv_sub hl [1, 2, 3, 4, 5, 0] rfl)
      refine lv_iload hx hb dX1_addParts_127 (lv_at hl 0 rfl) ?_
      cases h
      exact hQ _ _ _ _ dX1_addParts_129 rfl w
    · have h := if_h hc h
      refine lv_bipush (v := (-5 : Int32)) hx hb dX1_addParts_95 (by decide) ?_
      cases h
      exact hQ _ _ _ _ dX1_addParts_97 rfl w
  · have h := if_h hc h
    refine lv_iconst (v := (0 : Int32)) hx hb dX1_addParts_78 (by decide) ?_
    cases h
    exact hQ _ _ _ _ dX1_addParts_79 rfl w
set_option maxRecDepth 100000 in
theorem w_Le_addParts_J67v2 {p : Program} {l : Launch} {e : Env} {s : State} {m : MethodId} {args : Array Value} {below : List Frame} {meth : Method} {c : Code} {Q : State → Prop} {A : Nat → Prop} {D : va_G} {cI cJ cZ cO : ClassId} {q_this q_asked q_table q_hypothesis q_representatives q_table_prefixes q_table_suffixes q_table_known q_table_bits q_table_prefixes_words q_table_suffixes_words : Nat} {v_mode : Int32} {v_budget : Int32} {v_formed : Int32} {v_counterexample : Int64} {v_corrections : Int32} {v_deceived : Int32} {v_table_letters : Int32} {v_table_prefixes_size : Int32} {v_table_prefixes_longest : Int32} {v_table_prefixes_words : (Nat → Int64)} {v_table_suffixes_size : Int32} {v_table_suffixes_longest : Int32} {v_table_suffixes_words : (Nat → Int64)} {x : Int32 × (Nat → Int64) × Int32 × Int32 × (Nat → Int64) × Int32 × Int32 × Int32} {x1 : Int32} {x2 : Int64} {x5 : Int32} {x6 : Int32} {x7 : Int32} {x8 : Int32} (C0 : Cx p s m args c A D cI cJ cZ cO cX1_addParts 9 RX1) (hQ : RtI p l e rm_Le_addParts s m args below meth c Q A D cX1_addParts .int (ws_Le_addParts cI cJ cZ q_this q_asked q_table q_hypothesis q_representatives q_table_prefixes q_table_suffixes q_table_known q_table_bits q_table_prefixes_words q_table_suffixes_words v_mode v_budget x.2.2.2.2.2.2.2 v_counterexample v_corrections v_deceived v_table_letters x.2.2.1 x.2.2.2.1 x.2.1 x.2.2.2.2.2.1 x.2.2.2.2.2.2.1 x.2.2.2.2.1) x.1) {K : Int32 → Int32 → Int32 → Option (Int32 × (Nat → Int64) × Int32 × Int32 × (Nat → Int64) × Int32 × Int32 × Int32)} (hK : ∀ (y6 : Int32) (y7 : Int32) (y8 : Int32) (H : Heap) (locs : List Loc) (ls : Array Slot), K y6 y7 y8 = some x → Wd s A D (ws_Le_addParts cI cJ cZ q_this q_asked q_table q_hypothesis q_representatives q_table_prefixes q_table_suffixes q_table_known q_table_bits q_table_prefixes_words q_table_suffixes_words v_mode v_budget v_formed v_counterexample v_corrections v_deceived v_table_letters v_table_prefixes_size v_table_prefixes_longest v_table_prefixes_words v_table_suffixes_size v_table_suffixes_longest v_table_suffixes_words) H locs → lv_has ls 9 [(0, .ref q_this), (1, .int x1), (2, .long x2), (5, .int x5), (6, .int y6), (7, .int y7)] → W p l e rm_Le_addParts s m args below meth c H locs 0 0 Q (F0 m 73 ls [])) {rec : Int32 → Int32 → Int32 → Option (Int32 × (Nat → Int64) × Int32 × Int32 × (Nat → Int64) × Int32 × Int32 × Int32)} (hrec : ∀ (y6 : Int32) (y7 : Int32) (y8 : Int32) (H : Heap) (locs : List Loc) (ls : Array Slot), rec y6 y7 y8 = some x → Wd s A D (ws_Le_addParts cI cJ cZ q_this q_asked q_table q_hypothesis q_representatives q_table_prefixes q_table_suffixes q_table_known q_table_bits q_table_prefixes_words q_table_suffixes_words v_mode v_budget v_formed v_counterexample v_corrections v_deceived v_table_letters v_table_prefixes_size v_table_prefixes_longest v_table_prefixes_words v_table_suffixes_size v_table_suffixes_longest v_table_suffixes_words) H locs → lv_has ls 9 [(0, .ref q_this), (1, .int x1), (2, .long x2), (4, .ref q_table_suffixes), (5, .int x5), (6, .int y6), (7, .int y7), (8, .int y8)] → W p l e rm_Le_addParts s m args below meth c H locs 0 0 Q (F0 m 38 ls [])) {H : Heap} {locs : List Loc} {ls : Array Slot} (h : f_Le_addParts_J67v2 rec x6 x7 x8 = some x) (w : Wd s A D (ws_Le_addParts cI cJ cZ q_this q_asked q_table q_hypothesis q_representatives q_table_prefixes q_table_suffixes q_table_known q_table_bits q_table_prefixes_words q_table_suffixes_words v_mode v_budget v_formed v_counterexample v_corrections v_deceived v_table_letters v_table_prefixes_size v_table_prefixes_longest v_table_prefixes_words v_table_suffixes_size v_table_suffixes_longest v_table_suffixes_words) H locs) (hl : lv_has ls 9 [(0, .ref q_this), (1, .int x1), (2, .long x2), (4, .ref q_table_suffixes), (5, .int x5), (6, .int x6), (7, .int x7), (8, .int x8)]) : W p l e rm_Le_addParts s m args below meth c H locs 0 0 Q (F0 m 67 ls []) := by
  obtain ⟨hx, hb, hml, hown, hts, -, -⟩ := id C0
  unfold f_Le_addParts_J67v2 at h
  obtain ⟨x8_1, ex8_1⟩ : ∃ y : Int32, y = (x8 + 1) := ⟨_, rfl⟩
  have h := bnd_at ex8_1 h
  refine lv_iinc (v := x8_1) (lv' := [(8, .int x8_1), (0, .ref q_this), (1, .int x1), (2, .long x2), (4, .ref q_table_suffixes), (5, .int x5), (6, .int x6), (7, .int x7)]) hx hb dX1_addParts_67 hl (k := 7) rfl (by rw [ex8_1]; rfl) (by decide) rfl (fun ls hl => ?_)
  refine lv_goto (tgt := 38) hx hb dX1_addParts_70 (by decide) ?_
  exact hrec _ _ _ _ _ _ h w (lv_sub hl [1, 2, 3, 4, 5, 6, 7, 0] rfl)
set_option maxRecDepth 100000 in
theorem w_Le_addParts_L38v2 {p : Program} {l : Launch} {e : Env} {s : State} {m : MethodId} {args : Array Value} {below : List Frame} {meth : Method} {c : Code} {Q : State → Prop} {A : Nat → Prop} {D : va_G} {cI cJ cZ cO : ClassId} {q_this q_asked q_table q_hypothesis q_representatives q_table_prefixes q_table_suffixes q_table_known q_table_bits q_table_prefixes_words q_table_suffixes_words : Nat} {v_mode : Int32} {v_budget : Int32} {v_formed : Int32} {v_counterexample : Int64} {v_corrections : Int32} {v_deceived : Int32} {v_table_letters : Int32} {v_table_prefixes_size : Int32} {v_table_prefixes_longest : Int32} {v_table_prefixes_words : (Nat → Int64)} {v_table_suffixes_size : Int32} {v_table_suffixes_longest : Int32} {v_table_suffixes_words : (Nat → Int64)} {x1 : Int32} {x2 : Int64} {x5 : Int32} {x : Int32 × (Nat → Int64) × Int32 × Int32 × (Nat → Int64) × Int32 × Int32 × Int32} (C0 : Cx p s m args c A D cI cJ cZ cO cX1_addParts 9 RX1) (hQ : RtI p l e rm_Le_addParts s m args below meth c Q A D cX1_addParts .int (ws_Le_addParts cI cJ cZ q_this q_asked q_table q_hypothesis q_representatives q_table_prefixes q_table_suffixes q_table_known q_table_bits q_table_prefixes_words q_table_suffixes_words v_mode v_budget x.2.2.2.2.2.2.2 v_counterexample v_corrections v_deceived v_table_letters x.2.2.1 x.2.2.2.1 x.2.1 x.2.2.2.2.2.1 x.2.2.2.2.2.2.1 x.2.2.2.2.1) x.1) {K : Int32 → Int32 → Int32 → Option (Int32 × (Nat → Int64) × Int32 × Int32 × (Nat → Int64) × Int32 × Int32 × Int32)} (hK : ∀ (x6 : Int32) (x7 : Int32) (x8 : Int32) (H : Heap) (locs : List Loc) (ls : Array Slot), K x6 x7 x8 = some x → Wd s A D (ws_Le_addParts cI cJ cZ q_this q_asked q_table q_hypothesis q_representatives q_table_prefixes q_table_suffixes q_table_known q_table_bits q_table_prefixes_words q_table_suffixes_words v_mode v_budget v_formed v_counterexample v_corrections v_deceived v_table_letters v_table_prefixes_size v_table_prefixes_longest v_table_prefixes_words v_table_suffixes_size v_table_suffixes_longest v_table_suffixes_words) H locs → lv_has ls 9 [(0, .ref q_this), (1, .int x1), (2, .long x2), (5, .int x5), (6, .int x6), (7, .int x7)] → W p l e rm_Le_addParts s m args below meth c H locs 0 0 Q (F0 m 73 ls [])) {rec : Int32 → Int32 → Int32 → Option (Int32 × (Nat → Int64) × Int32 × Int32 × (Nat → Int64) × Int32 × Int32 × Int32)} (hrec : ∀ (x6 : Int32) (x7 : Int32) (x8 : Int32) (H : Heap) (locs : List Loc) (ls : Array Slot), rec x6 x7 x8 = some x → Wd s A D (ws_Le_addParts cI cJ cZ q_this q_asked q_table q_hypothesis q_representatives q_table_prefixes q_table_suffixes q_table_known q_table_bits q_table_prefixes_words q_table_suffixes_words v_mode v_budget v_formed v_counterexample v_corrections v_deceived v_table_letters v_table_prefixes_size v_table_prefixes_longest v_table_prefixes_words v_table_suffixes_size v_table_suffixes_longest v_table_suffixes_words) H locs → lv_has ls 9 [(0, .ref q_this), (1, .int x1), (2, .long x2), (4, .ref q_table_suffixes), (5, .int x5), (6, .int x6), (7, .int x7), (8, .int x8)] → W p l e rm_Le_addParts s m args below meth c H locs 0 0 Q (F0 m 38 ls [])) (x6 : Int32) (x7 : Int32) (x8 : Int32) {H : Heap} {locs : List Loc} {ls : Array Slot} (h : f_Le_addParts_L38v2 v_table_suffixes_size v_table_suffixes_words x1 x2 x5 K rec x6 x7 x8 = some x) (w : Wd s A D (ws_Le_addParts cI cJ cZ q_this q_asked q_table q_hypothesis q_representatives q_table_prefixes q_table_suffixes q_table_known q_table_bits q_table_prefixes_words q_table_suffixes_words v_mode v_budget v_formed v_counterexample v_corrections v_deceived v_table_letters v_table_prefixes_size v_table_prefixes_longest v_table_prefixes_words v_table_suffixes_size v_table_suffixes_longest v_table_suffixes_words) H locs) (hl : lv_has ls 9 [(0, .ref q_this), (1, .int x1), (2, .long x2), (4, .ref q_table_suffixes), (5, .int x5), (6, .int x6), (7, .int x7), (8, .int x8)]) : W p l e rm_Le_addParts s m args below meth c H locs 0 0 Q (F0 m 38 ls []) := by
  obtain ⟨hx, hb, hml, hown, hts, -, -⟩ := id C0
  unfold f_Le_addParts_L38v2 at h
  refine lv_iload hx hb dX1_addParts_38 (lv_at hl 7 rfl) ?_
  refine lv_iload hx hb dX1_addParts_40 (lv_at hl 4 rfl) ?_
  refine lv_icmp_gt (tgt := 73) hx hb dX1_addParts_42 (by decide) (fun hc => ?_) (fun hc => ?_)
  · have h := if_h hc h
    exact hK _ _ _ _ _ _ h w (lv_sub hl [0, 1, 2, 4, 5, 6] rfl)
  · have h := nf_h hc h
    refine lv_aload hx hb dX1_addParts_45 (lv_at hl 3 rfl) ?_
    refine lv_iload_n hx hb dX1_addParts_47 rfl (lv_at hl 1 rfl) ?_
    refine lv_lload_n hx hb dX1_addParts_48 rfl (lv_at hl 2 rfl) ?_
    refine lv_iload hx hb dX1_addParts_49 (lv_at hl 7 rfl) ?_
    obtain ⟨r, hcall, h⟩ := bd1_h h
    obtain ⟨wr, hp, hp'⟩ := rd_of (ws := (ws_Le_addParts cI cJ cZ q_this q_asked q_table q_hypothesis q_representatives q_table_prefixes q_table_suffixes q_table_known q_table_bits q_table_prefixes_words q_table_suffixes_words v_mode v_budget v_formed v_counterexample v_corrections v_deceived v_table_letters v_table_prefixes_size v_table_prefixes_longest v_table_prefixes_words v_table_suffixes_size v_table_suffixes_longest v_table_suffixes_words)) (wc := (ws_Le_part cI cJ cZ)) [] rfl rfl
    refine r_SJ (r := r) (As := [.int x1, .long x2, .int x8]) (rest := [.ref q_table_suffixes]) (wc' := (ws_Le_part cI cJ cZ)) (ws' := (ws_Le_addParts cI cJ cZ q_this q_asked q_table q_hypothesis q_representatives q_table_prefixes q_table_suffixes q_table_known q_table_bits q_table_prefixes_words q_table_suffixes_words v_mode v_budget v_formed v_counterexample v_corrections v_deceived v_table_letters v_table_prefixes_size v_table_prefixes_longest v_table_prefixes_words v_table_suffixes_size v_table_suffixes_longest v_table_suffixes_words)) C0 w (c_Le_part hcall) hp hp' lm_RX1_174 ms_Le_part ⟨rfl, rfl⟩ ⟨by decide, by decide⟩ ⟨Nat.zero_le _, Nat.zero_le _⟩ rfl hl rfl (Nat.le_of_ble_eq_true rfl) dX1_addParts_51 (fun H locs w => ?_)
    obtain ⟨r_1, hcall, h⟩ := bd1_h h
    obtain ⟨wr, hp, hp'⟩ := rd_of (ws := (ws_Le_addParts cI cJ cZ q_this q_asked q_table q_hypothesis q_representatives q_table_prefixes q_table_suffixes q_table_known q_table_bits q_table_prefixes_words q_table_suffixes_words v_mode v_budget v_formed v_counterexample v_corrections v_deceived v_table_letters v_table_prefixes_size v_table_prefixes_longest v_table_prefixes_words v_table_suffixes_size v_table_suffixes_longest v_table_suffixes_words)) (wc := (ws_WL_contains cI cJ cZ q_table_suffixes q_table_suffixes_words 16 v_table_suffixes_size v_table_suffixes_longest v_table_suffixes_words)) [4, 5] rfl rfl
    refine r_VI (r := r_1) (As := [.long r]) (rest := []) (wc' := (ws_WL_contains cI cJ cZ q_table_suffixes q_table_suffixes_words 16 v_table_suffixes_size v_table_suffixes_longest v_table_suffixes_words)) (ws' := (ws_Le_addParts cI cJ cZ q_this q_asked q_table q_hypothesis q_representatives q_table_prefixes q_table_suffixes q_table_known q_table_bits q_table_prefixes_words q_table_suffixes_words v_mode v_budget v_formed v_counterexample v_corrections v_deceived v_table_letters v_table_prefixes_size v_table_prefixes_longest v_table_prefixes_words v_table_suffixes_size v_table_suffixes_longest v_table_suffixes_words)) C0 w (c_WL_contains hcall) hp hp' lm_RX1_178 mv_WL_contains ⟨rfl, rfl⟩ ⟨by decide, by decide⟩ ⟨Nat.zero_le _, Nat.zero_le _⟩ (q0 := 4) rfl rfl rfl rfl hl rfl (Nat.le_of_ble_eq_true rfl) dX1_addParts_54 (fun H locs w => ?_)
    refine lv_if_ne (tgt := 67) hx hb dX1_addParts_57 (by decide) (fun hc => ?_) (fun hc => ?_)
    · have h := nf_h hc h
      exact w_Le_addParts_J67v2 C0 hQ hK hrec h w (lv_sub hl [0, 1, 2, 3, 4, 5, 6, 7] rfl)
    · have h := if_h hc h
      obtain ⟨x6_1, ex6_1⟩ : ∃ y : Int32, y = (x6 + 1) := ⟨_, rfl⟩
      have h := bnd_at ex6_1 h
      refine lv_iinc (v := x6_1) (lv' := [(6, .int x6_1), (0, .ref q_this), (1, .int x1), (2, .long x2), (4, .ref q_table_suffixes), (5, .int x5), (7, .int x7), (8, .int x8)]) hx hb dX1_addParts_60 hl (k := 5) rfl (by rw [ex6_1]; rfl) (by decide) rfl (fun ls hl => ?_)
      refine lv_iload hx hb dX1_addParts_63 (lv_at hl 7 rfl) ?_
      refine lv_istore (lv' := [(7, .int x8), (6, .int x6_1), (0, .ref q_this), (1, .int x1), (2, .long x2), (4, .ref q_table_suffixes), (5, .int x5), (8, .int x8)]) hx hb dX1_addParts_65 hl (by decide) rfl (fun ls hl => ?_)
      exact w_Le_addParts_J67v2 C0 hQ hK hrec h w (lv_sub hl [2, 3, 4, 5, 6, 1, 0, 7] rfl)
set_option maxRecDepth 100000 in
theorem wl_Le_addParts_L38v2 {p : Program} {l : Launch} {e : Env} {s : State} {m : MethodId} {args : Array Value} {below : List Frame} {meth : Method} {c : Code} {Q : State → Prop} {A : Nat → Prop} {D : va_G} {cI cJ cZ cO : ClassId} {q_this q_asked q_table q_hypothesis q_representatives q_table_prefixes q_table_suffixes q_table_known q_table_bits q_table_prefixes_words q_table_suffixes_words : Nat} {v_mode : Int32} {v_budget : Int32} {v_formed : Int32} {v_counterexample : Int64} {v_corrections : Int32} {v_deceived : Int32} {v_table_letters : Int32} {v_table_prefixes_size : Int32} {v_table_prefixes_longest : Int32} {v_table_prefixes_words : (Nat → Int64)} {v_table_suffixes_size : Int32} {v_table_suffixes_longest : Int32} {v_table_suffixes_words : (Nat → Int64)} {x1 : Int32} {x2 : Int64} {x5 : Int32} {x : Int32 × (Nat → Int64) × Int32 × Int32 × (Nat → Int64) × Int32 × Int32 × Int32} (C0 : Cx p s m args c A D cI cJ cZ cO cX1_addParts 9 RX1) (hQ : RtI p l e rm_Le_addParts s m args below meth c Q A D cX1_addParts .int (ws_Le_addParts cI cJ cZ q_this q_asked q_table q_hypothesis q_representatives q_table_prefixes q_table_suffixes q_table_known q_table_bits q_table_prefixes_words q_table_suffixes_words v_mode v_budget x.2.2.2.2.2.2.2 v_counterexample v_corrections v_deceived v_table_letters x.2.2.1 x.2.2.2.1 x.2.1 x.2.2.2.2.2.1 x.2.2.2.2.2.2.1 x.2.2.2.2.1) x.1) {K : Int32 → Int32 → Int32 → Option (Int32 × (Nat → Int64) × Int32 × Int32 × (Nat → Int64) × Int32 × Int32 × Int32)} (hK : ∀ (x6 : Int32) (x7 : Int32) (x8 : Int32) (H : Heap) (locs : List Loc) (ls : Array Slot), K x6 x7 x8 = some x → Wd s A D (ws_Le_addParts cI cJ cZ q_this q_asked q_table q_hypothesis q_representatives q_table_prefixes q_table_suffixes q_table_known q_table_bits q_table_prefixes_words q_table_suffixes_words v_mode v_budget v_formed v_counterexample v_corrections v_deceived v_table_letters v_table_prefixes_size v_table_prefixes_longest v_table_prefixes_words v_table_suffixes_size v_table_suffixes_longest v_table_suffixes_words) H locs → lv_has ls 9 [(0, .ref q_this), (1, .int x1), (2, .long x2), (5, .int x5), (6, .int x6), (7, .int x7)] → W p l e rm_Le_addParts s m args below meth c H locs 0 0 Q (F0 m 73 ls [])) : ∀ (n : Nat) (x6 : Int32) (x7 : Int32) (x8 : Int32) (H : Heap) (locs : List Loc) (ls : Array Slot), itr (fun _ _ _ => none) (f_Le_addParts_L38v2 v_table_suffixes_size v_table_suffixes_words x1 x2 x5 K) n x6 x7 x8 = some x → Wd s A D (ws_Le_addParts cI cJ cZ q_this q_asked q_table q_hypothesis q_representatives q_table_prefixes q_table_suffixes q_table_known q_table_bits q_table_prefixes_words q_table_suffixes_words v_mode v_budget v_formed v_counterexample v_corrections v_deceived v_table_letters v_table_prefixes_size v_table_prefixes_longest v_table_prefixes_words v_table_suffixes_size v_table_suffixes_longest v_table_suffixes_words) H locs → lv_has ls 9 [(0, .ref q_this), (1, .int x1), (2, .long x2), (4, .ref q_table_suffixes), (5, .int x5), (6, .int x6), (7, .int x7), (8, .int x8)] → W p l e rm_Le_addParts s m args below meth c H locs 0 0 Q (F0 m 38 ls []) := by
  intro n
  induction n with
  | zero => intro _ _ _ _ _ _ h; cases (show none = some _ from h)
  | succ n ih => intro _ _ _ _ _ _ h w hl; exact w_Le_addParts_L38v2 C0 hQ hK ih _ _ _ h w hl
set_option maxRecDepth 100000 in
theorem w_Le_addParts_J21v2 {p : Program} {l : Launch} {e : Env} {s : State} {m : MethodId} {args : Array Value} {below : List Frame} {meth : Method} {c : Code} {Q : State → Prop} {A : Nat → Prop} {D : va_G} {cI cJ cZ cO : ClassId} {q_this q_asked q_table q_hypothesis q_representatives q_table_prefixes q_table_suffixes q_table_known q_table_bits q_table_prefixes_words q_table_suffixes_words : Nat} {v_mode : Int32} {v_budget : Int32} {v_formed : Int32} {v_counterexample : Int64} {v_corrections : Int32} {v_deceived : Int32} {v_table_letters : Int32} {v_table_prefixes_size : Int32} {v_table_prefixes_longest : Int32} {v_table_prefixes_words : (Nat → Int64)} {v_table_suffixes_size : Int32} {v_table_suffixes_longest : Int32} {v_table_suffixes_words : (Nat → Int64)} {x : Int32 × (Nat → Int64) × Int32 × Int32 × (Nat → Int64) × Int32 × Int32 × Int32} {x1 : Int32} {x2 : Int64} (C0 : Cx p s m args c A D cI cJ cZ cO cX1_addParts 9 RX1) (hQ : RtI p l e rm_Le_addParts s m args below meth c Q A D cX1_addParts .int (ws_Le_addParts cI cJ cZ q_this q_asked q_table q_hypothesis q_representatives q_table_prefixes q_table_suffixes q_table_known q_table_bits q_table_prefixes_words q_table_suffixes_words v_mode v_budget x.2.2.2.2.2.2.2 v_counterexample v_corrections v_deceived v_table_letters x.2.2.1 x.2.2.2.1 x.2.1 x.2.2.2.2.2.1 x.2.2.2.2.2.2.1 x.2.2.2.2.1) x.1) {H : Heap} {locs : List Loc} {ls : Array Slot} (h : f_Le_addParts_J21v2 x1 x2 v_formed v_table_prefixes_size v_table_prefixes_longest v_table_prefixes_words v_table_suffixes_size v_table_suffixes_longest v_table_suffixes_words = some x) (w : Wd s A D (ws_Le_addParts cI cJ cZ q_this q_asked q_table q_hypothesis q_representatives q_table_prefixes q_table_suffixes q_table_known q_table_bits q_table_prefixes_words q_table_suffixes_words v_mode v_budget v_formed v_counterexample v_corrections v_deceived v_table_letters v_table_prefixes_size v_table_prefixes_longest v_table_prefixes_words v_table_suffixes_size v_table_suffixes_longest v_table_suffixes_words) H locs) (hl : lv_has ls 9 [(0, .ref q_this), (1, .int x1), (2, .long x2)]) : W p l e rm_Le_addParts s m args below meth c H locs 0 0 Q (F0 m 21 ls [.ref q_table_suffixes]) := by
  obtain ⟨hx, hb, hml, hown, hts, -, -⟩ := id C0
  unfold f_Le_addParts_J21v2 at h
  refine lv_astore (lv' := [(4, .ref q_table_suffixes), (0, .ref q_this), (1, .int x1), (2, .long x2)]) hx hb dX1_addParts_21 hl (by decide) rfl (fun ls hl => ?_)
  refine lv_lload_n hx hb dX1_addParts_23 rfl (lv_at hl 3 rfl) ?_
  obtain ⟨r, hcall, h⟩ := bd1_h h
  obtain ⟨wr, hp, hp'⟩ := rd_of (ws := (ws_Le_addParts cI cJ cZ q_this q_asked q_table q_hypothesis q_representatives q_table_prefixes q_table_suffixes q_table_known q_table_bits q_table_prefixes_words q_table_suffixes_words v_mode v_budget v_formed v_counterexample v_corrections v_deceived v_table_letters v_table_prefixes_size v_table_prefixes_longest v_table_prefixes_words v_table_suffixes_size v_table_suffixes_longest v_table_suffixes_words)) (wc := (ws_Ws_lengthOf cI cJ cZ)) [] rfl rfl
  refine r_SI (r := r) (As := [.long x2]) (rest := []) (wc' := (ws_Ws_lengthOf cI cJ cZ)) (ws' := (ws_Le_addParts cI cJ cZ q_this q_asked q_table q_hypothesis q_representatives q_table_prefixes q_table_suffixes q_table_known q_table_bits q_table_prefixes_words q_table_suffixes_words v_mode v_budget v_formed v_counterexample v_corrections v_deceived v_table_letters v_table_prefixes_size v_table_prefixes_longest v_table_prefixes_words v_table_suffixes_size v_table_suffixes_longest v_table_suffixes_words)) C0 w (c_Ws_lengthOf hcall) hp hp' lm_RX1_169 ms_Ws_lengthOf ⟨rfl, rfl⟩ ⟨by decide, by decide⟩ ⟨Nat.zero_le _, Nat.zero_le _⟩ rfl hl rfl (Nat.le_of_ble_eq_true rfl) dX1_addParts_24 (fun H locs w => ?_)
  refine lv_istore (lv' := [(5, .int r), (4, .ref q_table_suffixes), (0, .ref q_this), (1, .int x1), (2, .long x2)]) hx hb dX1_addParts_27 hl (by decide) rfl (fun ls hl => ?_)
  refine lv_iconst (v := (0 : Int32)) hx hb dX1_addParts_29 (by decide) ?_
  refine lv_istore (lv' := [(6, .int (0 : Int32)), (5, .int r), (4, .ref q_table_suffixes), (0, .ref q_this), (1, .int x1), (2, .long x2)]) hx hb dX1_addParts_30 hl (by decide) rfl (fun ls hl => ?_)
  refine lv_iconst (v := (0 : Int32)) hx hb dX1_addParts_32 (by decide) ?_
  refine lv_istore (lv' := [(7, .int (0 : Int32)), (6, .int (0 : Int32)), (5, .int r), (4, .ref q_table_suffixes), (0, .ref q_this), (1, .int x1), (2, .long x2)]) hx hb dX1_addParts_33 hl (by decide) rfl (fun ls hl => ?_)
  refine lv_iconst (v := (0 : Int32)) hx hb dX1_addParts_35 (by decide) ?_
  refine lv_istore (lv' := [(8, .int (0 : Int32)), (7, .int (0 : Int32)), (6, .int (0 : Int32)), (5, .int r), (4, .ref q_table_suffixes), (0, .ref q_this), (1, .int x1), (2, .long x2)]) hx hb dX1_addParts_36 hl (by decide) rfl (fun ls hl => ?_)
  refine wl_Le_addParts_L38v2 C0 hQ (fun x6 x7 x8 H locs ls h w hl => ?_) _ _ _ _ _ _ _ h w (lv_sub hl [5, 6, 7, 4, 3, 2, 1, 0] rfl)
  refine lv_iload hx hb dX1_addParts_73 (lv_at hl 4 rfl) ?_
  refine lv_if_ne (tgt := 80) hx hb dX1_addParts_75 (by decide) (fun hc => ?_) (fun hc => ?_)
  · have h := nf_h hc h
    refine lv_aload_n hx hb dX1_addParts_80 rfl (lv_at hl 0 rfl) ?_
    refine r_get C0 w 0 rfl kf_Le 1 (by decide) lf_RX1_21 rfl dX1_addParts_81 ?_
    refine lv_iload_n hx hb dX1_addParts_84 rfl (lv_at hl 1 rfl) ?_
    refine lv_iload hx hb dX1_addParts_85 (lv_at hl 4 rfl) ?_
    refine lv_iload hx hb dX1_addParts_87 (lv_at hl 5 rfl) ?_
    obtain ⟨r_1, hcall, h⟩ := bd1_h h
    obtain ⟨wr, hp, hp'⟩ := rd_of (ws := (ws_Le_addParts cI cJ cZ q_this q_asked q_table q_hypothesis q_representatives q_table_prefixes q_table_suffixes q_table_known q_table_bits q_table_prefixes_words q_table_suffixes_words v_mode v_budget v_formed v_counterexample v_corrections v_deceived v_table_letters v_table_prefixes_size v_table_prefixes_longest v_table_prefixes_words v_table_suffixes_size v_table_suffixes_longest v_table_suffixes_words)) (wc := (ws_Ta_hasRoom cI cJ cZ q_table q_table_prefixes q_table_suffixes q_table_known q_table_bits q_table_prefixes_words q_table_suffixes_words v_table_letters v_table_prefixes_size v_table_prefixes_longest v_table_prefixes_words v_table_suffixes_size v_table_suffixes_longest v_table_suffixes_words)) [1, 2, 3, 4, 5] rfl rfl
    refine r_VI (r := r_1) (As := [.int x1, .int x6, .int x7]) (rest := []) (wc' := (ws_Ta_hasRoom cI cJ cZ q_table q_table_prefixes q_table_suffixes q_table_known q_table_bits q_table_prefixes_words q_table_suffixes_words v_table_letters v_table_prefixes_size v_table_prefixes_longest v_table_prefixes_words v_table_suffixes_size v_table_suffixes_longest v_table_suffixes_words)) (ws' := (ws_Le_addParts cI cJ cZ q_this q_asked q_table q_hypothesis q_representatives q_table_prefixes q_table_suffixes q_table_known q_table_bits q_table_prefixes_words q_table_suffixes_words v_mode v_budget v_formed v_counterexample v_corrections v_deceived v_table_letters v_table_prefixes_size v_table_prefixes_longest v_table_prefixes_words v_table_suffixes_size v_table_suffixes_longest v_table_suffixes_words)) C0 w (c_Ta_hasRoom hcall) hp hp' lm_RX1_182 mv_Ta_hasRoom ⟨rfl, rfl⟩ ⟨by decide, by decide⟩ ⟨Nat.zero_le _, Nat.zero_le _⟩ (q0 := 1) rfl rfl rfl rfl hl rfl (Nat.le_of_ble_eq_true rfl) dX1_addParts_89 (fun H locs w => ?_)
    refine lv_if_ne (tgt := 98) hx hb dX1_addParts_92 (by decide) (fun hc => ?_) (fun hc => ?_)
    · have h := nf_h hc h
      refine lv_iconst (v := (0 : Int32)) hx hb dX1_addParts_98 (by decide) ?_
      refine lv_istore (lv' := [(8, .int (0 : Int32)), (0, .ref q_this), (1, .int x1), (2, .long x2), (5, .int r), (6, .int x6), (7, .int x7)]) hx hb dX1_addParts_99 hl (by decide) rfl (fun ls hl => ?_)
      refine wl_Le_addParts_L101 C0 hQ (fun x8_1 v_table_prefixes_words_1 v_table_prefixes_size_1 v_table_prefixes_longest_1 v_table_suffixes_words_1 v_table_suffixes_size_1 v_table_suffixes_longest_1 v_formed_1 H locs ls h w hl => ?_) _ _ _ _ _ _ _ _ _ _ _ _ h w (lv_sub hl [1, 2, 3, 4, 5, 0] rfl)
      refine lv_iload hx hb dX1_addParts_127 (lv_at hl 0 rfl) ?_
      cases h
      exact hQ _ _ _ _ dX1_addParts_129 rfl w
    · have h := if_h hc h
      refine lv_bipush (v := (-5 : Int32)) hx hb dX1_addParts_95 (by decide) ?_
      cases h
      exact hQ _ _ _ _ dX1_addParts_97 rfl w
  · have h := if_h hc h
    refine lv_iconst (v := (0 : Int32)) hx hb dX1_addParts_78 (by decide) ?_
    cases h
    exact hQ _ _ _ _ dX1_addParts_79 rfl w
set_option maxRecDepth 100000 in
theorem c_Le_addParts {l : Launch} {D : va_G} {cI cJ cZ cO : ClassId} {q_this q_asked q_table q_hypothesis q_representatives q_table_prefixes q_table_suffixes q_table_known q_table_bits q_table_prefixes_words q_table_suffixes_words : Nat} {x1 : Int32} {x2 : Int64} {v_mode : Int32} {v_budget : Int32} {v_formed : Int32} {v_counterexample : Int64} {v_corrections : Int32} {v_deceived : Int32} {v_table_letters : Int32} {v_table_prefixes_size : Int32} {v_table_prefixes_longest : Int32} {v_table_prefixes_words : (Nat → Int64)} {v_table_suffixes_size : Int32} {v_table_suffixes_longest : Int32} {v_table_suffixes_words : (Nat → Int64)} {x : Int32 × (Nat → Int64) × Int32 × Int32 × (Nat → Int64) × Int32 × Int32 × Int32} (h : f_Le_addParts x1 x2 v_formed v_table_prefixes_size v_table_prefixes_longest v_table_prefixes_words v_table_suffixes_size v_table_suffixes_longest v_table_suffixes_words = some x) : ctI l D cI cJ cZ cO yX1_addParts cX1_addParts 9 .int rm_Le_addParts [.ref q_this, .int x1, .long x2] (ws_Le_addParts cI cJ cZ q_this q_asked q_table q_hypothesis q_representatives q_table_prefixes q_table_suffixes q_table_known q_table_bits q_table_prefixes_words q_table_suffixes_words v_mode v_budget v_formed v_counterexample v_corrections v_deceived v_table_letters v_table_prefixes_size v_table_prefixes_longest v_table_prefixes_words v_table_suffixes_size v_table_suffixes_longest v_table_suffixes_words) (ws_Le_addParts cI cJ cZ q_this q_asked q_table q_hypothesis q_representatives q_table_prefixes q_table_suffixes q_table_known q_table_bits q_table_prefixes_words q_table_suffixes_words v_mode v_budget x.2.2.2.2.2.2.2 v_counterexample v_corrections v_deceived v_table_letters x.2.2.1 x.2.2.2.1 x.2.1 x.2.2.2.2.2.1 x.2.2.2.2.2.2.1 x.2.2.2.2.1) x.1 := by
  refine ctI_of (by decide) (Nat.le_of_ble_eq_true rfl) ?_
  intro p e s m below meth c Q A ls C0 hQ w hl
  have hl : lv_has ls 9 [(0, .ref q_this), (1, .int x1), (2, .long x2)] := hl
  generalize List.toArray (α := Value) [.ref q_this, .int x1, .long x2] = args at C0 hQ ⊢
  obtain ⟨hx, hb, hml, hown, hts, -, -⟩ := id C0
  unfold f_Le_addParts at h
  refine lv_iload_n hx hb dX1_addParts_0 rfl (lv_at hl 1 rfl) ?_
  refine lv_if_eq (tgt := 14) hx hb dX1_addParts_1 (by decide) (fun hc => ?_) (fun hc => ?_)
  · have h := if_h hc h
    refine lv_aload_n hx hb dX1_addParts_14 rfl (lv_at hl 0 rfl) ?_
    refine r_get C0 w 0 rfl kf_Le 1 (by decide) lf_RX1_21 rfl dX1_addParts_15 ?_
    refine r_get C0 w 1 rfl kf_Ta 0 (by decide) lf_RX1_133 rfl dX1_addParts_18 ?_
    exact w_Le_addParts_J21 C0 hQ h w (lv_sub hl [0, 1, 2] rfl)
  · have h := nf_h hc h
    refine lv_aload_n hx hb dX1_addParts_4 rfl (lv_at hl 0 rfl) ?_
    refine r_get C0 w 0 rfl kf_Le 1 (by decide) lf_RX1_21 rfl dX1_addParts_5 ?_
    refine r_get C0 w 1 rfl kf_Ta 1 (by decide) lf_RX1_166 rfl dX1_addParts_8 ?_
    refine lv_goto (tgt := 21) hx hb dX1_addParts_11 (by decide) ?_
    exact w_Le_addParts_J21v2 C0 hQ h w (lv_sub hl [0, 1, 2] rfl)
theorem dX2_placeOf_0 : decode cX2_placeOf 0 = .ok (.iconst 0, 1) := by decide +kernel
theorem dX2_placeOf_1 : decode cX2_placeOf 1 = .ok (.istore_n 3, 1) := by decide +kernel
theorem dX2_placeOf_2 : decode cX2_placeOf 2 = .ok (.aload_n 0, 1) := by decide +kernel
theorem dX2_placeOf_3 : decode cX2_placeOf 3 = .ok (.getfield 15, 3) := by decide +kernel
theorem dX2_placeOf_6 : decode cX2_placeOf 6 = .ok (.istore 4, 2) := by decide +kernel
theorem dX2_placeOf_8 : decode cX2_placeOf 8 = .ok (.iconst 0, 1) := by decide +kernel
theorem dX2_placeOf_9 : decode cX2_placeOf 9 = .ok (.istore 5, 2) := by decide +kernel
theorem dX2_placeOf_11 : decode cX2_placeOf 11 = .ok (.iload 5, 2) := by decide +kernel
theorem dX2_placeOf_13 : decode cX2_placeOf 13 = .ok (.bipush 32, 2) := by decide +kernel
theorem dX2_placeOf_15 : decode cX2_placeOf 15 = .ok (.if_icmp .ge 49, 3) := by decide +kernel
theorem dX2_placeOf_18 : decode cX2_placeOf 18 = .ok (.iload_n 3, 1) := by decide +kernel
theorem dX2_placeOf_19 : decode cX2_placeOf 19 = .ok (.iload 4, 2) := by decide +kernel
theorem dX2_placeOf_21 : decode cX2_placeOf 21 = .ok (.if_icmp .ge 43, 3) := by decide +kernel
theorem dX2_placeOf_24 : decode cX2_placeOf 24 = .ok (.iload_n 3, 1) := by decide +kernel
theorem dX2_placeOf_25 : decode cX2_placeOf 25 = .ok (.iload 4, 2) := by decide +kernel
theorem dX2_placeOf_27 : decode cX2_placeOf 27 = .ok (.iadd, 1) := by decide +kernel
theorem dX2_placeOf_28 : decode cX2_placeOf 28 = .ok (.iconst 2, 1) := by decide +kernel
theorem dX2_placeOf_29 : decode cX2_placeOf 29 = .ok (.idiv, 1) := by decide +kernel
theorem dX2_placeOf_30 : decode cX2_placeOf 30 = .ok (.istore 6, 2) := by decide +kernel
theorem dX2_placeOf_32 : decode cX2_placeOf 32 = .ok (.aload_n 0, 1) := by decide +kernel
theorem dX2_placeOf_33 : decode cX2_placeOf 33 = .ok (.getfield 9, 3) := by decide +kernel
theorem dX2_placeOf_36 : decode cX2_placeOf 36 = .ok (.iload 6, 2) := by decide +kernel
theorem dX2_placeOf_38 : decode cX2_placeOf 38 = .ok (.laload, 1) := by decide +kernel
theorem dX2_placeOf_39 : decode cX2_placeOf 39 = .ok (.iconst 1, 1) := by decide +kernel
theorem dX2_placeOf_40 : decode cX2_placeOf 40 = .ok (.lshr, 1) := by decide +kernel
theorem dX2_placeOf_41 : decode cX2_placeOf 41 = .ok (.lload_n 1, 1) := by decide +kernel
theorem dX2_placeOf_42 : decode cX2_placeOf 42 = .ok (.lcmp, 1) := by decide +kernel
theorem dX2_placeOf_43 : decode cX2_placeOf 43 = .ok (.ifCond .ge 11, 3) := by decide +kernel
theorem dX2_placeOf_46 : decode cX2_placeOf 46 = .ok (.iload 6, 2) := by decide +kernel
theorem dX2_placeOf_48 : decode cX2_placeOf 48 = .ok (.iconst 1, 1) := by decide +kernel
theorem dX2_placeOf_49 : decode cX2_placeOf 49 = .ok (.iadd, 1) := by decide +kernel
theorem dX2_placeOf_50 : decode cX2_placeOf 50 = .ok (.istore_n 3, 1) := by decide +kernel
theorem dX2_placeOf_51 : decode cX2_placeOf 51 = .ok (.goto 7, 3) := by decide +kernel
theorem dX2_placeOf_54 : decode cX2_placeOf 54 = .ok (.iload 6, 2) := by decide +kernel
theorem dX2_placeOf_56 : decode cX2_placeOf 56 = .ok (.istore 4, 2) := by decide +kernel
theorem dX2_placeOf_58 : decode cX2_placeOf 58 = .ok (.iinc 5 1, 3) := by decide +kernel
theorem dX2_placeOf_61 : decode cX2_placeOf 61 = .ok (.goto (-50), 3) := by decide +kernel
theorem dX2_placeOf_64 : decode cX2_placeOf 64 = .ok (.iload_n 3, 1) := by decide +kernel
theorem dX2_placeOf_65 : decode cX2_placeOf 65 = .ok (.ireturn, 1) := by decide +kernel
set_option maxRecDepth 100000 in
theorem w_Qu_placeOf_J58 {p : Program} {l : Launch} {e : Env} {s : State} {m : MethodId} {args : Array Value} {below : List Frame} {meth : Method} {c : Code} {Q : State → Prop} {A : Nat → Prop} {D : va_G} {cI cJ cZ cO : ClassId} {q_this q_entries : Nat} {v_size : Int32} {v_entries : (Nat → Int64)} {x : Int32} {x1 : Int64} {x3 : Int32} {x4 : Int32} {x5 : Int32} (C0 : Cx p s m args c A D cI cJ cZ cO cX2_placeOf 7 RX2) (hQ : RtI p l e rm_Qu_placeOf s m args below meth c Q A D cX2_placeOf .int (ws_Qu_placeOf cI cJ cZ q_this q_entries v_size v_entries) x) {K : Int32 → Int32 → Int32 → Option (Int32)} (hK : ∀ (y3 : Int32) (y4 : Int32) (y5 : Int32) (H : Heap) (locs : List Loc) (ls : Array Slot), K y3 y4 y5 = some x → Wd s A D (ws_Qu_placeOf cI cJ cZ q_this q_entries v_size v_entries) H locs → lv_has ls 7 [(3, .int y3)] → W p l e rm_Qu_placeOf s m args below meth c H locs 0 0 Q (F0 m 64 ls [])) {rec : Int32 → Int32 → Int32 → Option (Int32)} (hrec : ∀ (y3 : Int32) (y4 : Int32) (y5 : Int32) (H : Heap) (locs : List Loc) (ls : Array Slot), rec y3 y4 y5 = some x → Wd s A D (ws_Qu_placeOf cI cJ cZ q_this q_entries v_size v_entries) H locs → lv_has ls 7 [(0, .ref q_this), (1, .long x1), (3, .int y3), (4, .int y4), (5, .int y5)] → W p l e rm_Qu_placeOf s m args below meth c H locs 0 0 Q (F0 m 11 ls [])) {H : Heap} {locs : List Loc} {ls : Array Slot} (h : f_Qu_placeOf_J58 rec x3 x4 x5 = some x) (w : Wd s A D (ws_Qu_placeOf cI cJ cZ q_this q_entries v_size v_entries) H locs) (hl : lv_has ls 7 [(0, .ref q_this), (1, .long x1), (3, .int x3), (4, .int x4), (5, .int x5)]) : W p l e rm_Qu_placeOf s m args below meth c H locs 0 0 Q (F0 m 58 ls []) := by
  obtain ⟨hx, hb, hml, hown, hts, -, -⟩ := id C0
  unfold f_Qu_placeOf_J58 at h
  obtain ⟨x5_1, ex5_1⟩ : ∃ y : Int32, y = (x5 + 1) := ⟨_, rfl⟩
  have h := bnd_at ex5_1 h
  refine lv_iinc (v := x5_1) (lv' := [(5, .int x5_1), (0, .ref q_this), (1, .long x1), (3, .int x3), (4, .int x4)]) hx hb dX2_placeOf_58 hl (k := 4) rfl (by rw [ex5_1]; rfl) (by decide) rfl (fun ls hl => ?_)
  refine lv_goto (tgt := 11) hx hb dX2_placeOf_61 (by decide) ?_
  exact hrec _ _ _ _ _ _ h w (lv_sub hl [1, 2, 3, 4, 0] rfl)
set_option maxRecDepth 100000 in
theorem w_Qu_placeOf_L11 {p : Program} {l : Launch} {e : Env} {s : State} {m : MethodId} {args : Array Value} {below : List Frame} {meth : Method} {c : Code} {Q : State → Prop} {A : Nat → Prop} {D : va_G} {cI cJ cZ cO : ClassId} {q_this q_entries : Nat} {v_size : Int32} {v_entries : (Nat → Int64)} {x1 : Int64} {x : Int32} (C0 : Cx p s m args c A D cI cJ cZ cO cX2_placeOf 7 RX2) (hQ : RtI p l e rm_Qu_placeOf s m args below meth c Q A D cX2_placeOf .int (ws_Qu_placeOf cI cJ cZ q_this q_entries v_size v_entries) x) {K : Int32 → Int32 → Int32 → Option (Int32)} (hK : ∀ (x3 : Int32) (x4 : Int32) (x5 : Int32) (H : Heap) (locs : List Loc) (ls : Array Slot), K x3 x4 x5 = some x → Wd s A D (ws_Qu_placeOf cI cJ cZ q_this q_entries v_size v_entries) H locs → lv_has ls 7 [(3, .int x3)] → W p l e rm_Qu_placeOf s m args below meth c H locs 0 0 Q (F0 m 64 ls [])) {rec : Int32 → Int32 → Int32 → Option (Int32)} (hrec : ∀ (x3 : Int32) (x4 : Int32) (x5 : Int32) (H : Heap) (locs : List Loc) (ls : Array Slot), rec x3 x4 x5 = some x → Wd s A D (ws_Qu_placeOf cI cJ cZ q_this q_entries v_size v_entries) H locs → lv_has ls 7 [(0, .ref q_this), (1, .long x1), (3, .int x3), (4, .int x4), (5, .int x5)] → W p l e rm_Qu_placeOf s m args below meth c H locs 0 0 Q (F0 m 11 ls [])) (x3 : Int32) (x4 : Int32) (x5 : Int32) {H : Heap} {locs : List Loc} {ls : Array Slot} (h : f_Qu_placeOf_L11 v_entries x1 K rec x3 x4 x5 = some x) (w : Wd s A D (ws_Qu_placeOf cI cJ cZ q_this q_entries v_size v_entries) H locs) (hl : lv_has ls 7 [(0, .ref q_this), (1, .long x1), (3, .int x3), (4, .int x4), (5, .int x5)]) : W p l e rm_Qu_placeOf s m args below meth c H locs 0 0 Q (F0 m 11 ls []) := by
  obtain ⟨hx, hb, hml, hown, hts, -, -⟩ := id C0
  unfold f_Qu_placeOf_L11 at h
  refine lv_iload hx hb dX2_placeOf_11 (lv_at hl 4 rfl) ?_
  refine lv_bipush (v := (32 : Int32)) hx hb dX2_placeOf_13 (by decide) ?_
  refine lv_icmp_ge (tgt := 64) hx hb dX2_placeOf_15 (by decide) (fun hc => ?_) (fun hc => ?_)
  · have h := if_h hc h
    exact hK _ _ _ _ _ _ h w (lv_sub hl [2] rfl)
  · have h := nf_h hc h
    refine lv_iload_n hx hb dX2_placeOf_18 rfl (lv_at hl 2 rfl) ?_
    refine lv_iload hx hb dX2_placeOf_19 (lv_at hl 3 rfl) ?_
    refine lv_icmp_ge (tgt := 64) hx hb dX2_placeOf_21 (by decide) (fun hc => ?_) (fun hc => ?_)
    · have h := if_h hc h
      exact hK _ _ _ _ _ _ h w (lv_sub hl [2] rfl)
    · have h := nf_h hc h
      refine lv_iload_n hx hb dX2_placeOf_24 rfl (lv_at hl 2 rfl) ?_
      refine lv_iload hx hb dX2_placeOf_25 (lv_at hl 3 rfl) ?_
      refine lv_iadd hx hb dX2_placeOf_27 ?_
      refine lv_iconst (v := (2 : Int32)) hx hb dX2_placeOf_28 (by decide) ?_
      refine lv_idiv hx hb dX2_placeOf_29 (by decide) ?_
      refine lv_topi (fun x6 ex6 => ?_)
      have h := bnd_at ex6 h
      refine lv_istore (lv' := [(6, .int x6), (0, .ref q_this), (1, .long x1), (3, .int x3), (4, .int x4), (5, .int x5)]) hx hb dX2_placeOf_30 hl (by decide) rfl (fun ls hl => ?_)
      refine lv_aload_n hx hb dX2_placeOf_32 rfl (lv_at hl 1 rfl) ?_
      refine r_get C0 w 0 rfl kf_Qu 0 (by decide) lf_RX2_9 rfl dX2_placeOf_33 ?_
      refine lv_iload hx hb dX2_placeOf_36 (lv_at hl 0 rfl) ?_
      obtain ⟨hi, h⟩ := gIn_h h
      refine r_lald C0 w 1 rfl rfl hi dX2_placeOf_38 ?_
      refine lv_iconst (v := (1 : Int32)) hx hb dX2_placeOf_39 (by decide) ?_
      refine lv_lshr (v := ((v_entries x6.toNatClampNeg) >>> (1 : Int64))) hx hb dX2_placeOf_40 (lsh_litr (by decide)) ?_
      refine lv_lload_n hx hb dX2_placeOf_41 rfl (lv_at hl 2 rfl) ?_
      refine r_lc_ge (tgt := 54) hx hb dX2_placeOf_42 dX2_placeOf_43 (by decide) (fun hc => ?_) (fun hc => ?_)
      · have h := nf_h hc h
        refine lv_iload hx hb dX2_placeOf_54 (lv_at hl 0 rfl) ?_
        refine lv_istore (lv' := [(4, .int x6), (6, .int x6), (0, .ref q_this), (1, .long x1), (3, .int x3), (5, .int x5)]) hx hb dX2_placeOf_56 hl (by decide) rfl (fun ls hl => ?_)
        exact w_Qu_placeOf_J58 C0 hQ hK hrec h w (lv_sub hl [2, 3, 4, 0, 5] rfl)
      · have h := if_h hc h
        refine lv_iload hx hb dX2_placeOf_46 (lv_at hl 0 rfl) ?_
        refine lv_iconst (v := (1 : Int32)) hx hb dX2_placeOf_48 (by decide) ?_
        refine lv_iadd hx hb dX2_placeOf_49 ?_
        refine lv_topi (fun x3_1 ex3_1 => ?_)
        have h := bnd_at ex3_1 h
        refine lv_istore_n (lv' := [(3, .int x3_1), (6, .int x6), (0, .ref q_this), (1, .long x1), (4, .int x4), (5, .int x5)]) hx hb dX2_placeOf_50 rfl hl (by decide) rfl (fun ls hl => ?_)
        refine lv_goto (tgt := 58) hx hb dX2_placeOf_51 (by decide) ?_
        exact w_Qu_placeOf_J58 C0 hQ hK hrec h w (lv_sub hl [2, 3, 0, 4, 5] rfl)
set_option maxRecDepth 100000 in
theorem wl_Qu_placeOf_L11 {p : Program} {l : Launch} {e : Env} {s : State} {m : MethodId} {args : Array Value} {below : List Frame} {meth : Method} {c : Code} {Q : State → Prop} {A : Nat → Prop} {D : va_G} {cI cJ cZ cO : ClassId} {q_this q_entries : Nat} {v_size : Int32} {v_entries : (Nat → Int64)} {x1 : Int64} {x : Int32} (C0 : Cx p s m args c A D cI cJ cZ cO cX2_placeOf 7 RX2) (hQ : RtI p l e rm_Qu_placeOf s m args below meth c Q A D cX2_placeOf .int (ws_Qu_placeOf cI cJ cZ q_this q_entries v_size v_entries) x) {K : Int32 → Int32 → Int32 → Option (Int32)} (hK : ∀ (x3 : Int32) (x4 : Int32) (x5 : Int32) (H : Heap) (locs : List Loc) (ls : Array Slot), K x3 x4 x5 = some x → Wd s A D (ws_Qu_placeOf cI cJ cZ q_this q_entries v_size v_entries) H locs → lv_has ls 7 [(3, .int x3)] → W p l e rm_Qu_placeOf s m args below meth c H locs 0 0 Q (F0 m 64 ls [])) : ∀ (n : Nat) (x3 : Int32) (x4 : Int32) (x5 : Int32) (H : Heap) (locs : List Loc) (ls : Array Slot), itr (fun _ _ _ => none) (f_Qu_placeOf_L11 v_entries x1 K) n x3 x4 x5 = some x → Wd s A D (ws_Qu_placeOf cI cJ cZ q_this q_entries v_size v_entries) H locs → lv_has ls 7 [(0, .ref q_this), (1, .long x1), (3, .int x3), (4, .int x4), (5, .int x5)] → W p l e rm_Qu_placeOf s m args below meth c H locs 0 0 Q (F0 m 11 ls []) := by
  intro n
  induction n with
  | zero => intro _ _ _ _ _ _ h; cases (show none = some _ from h)
  | succ n ih => intro _ _ _ _ _ _ h w hl; exact w_Qu_placeOf_L11 C0 hQ hK ih _ _ _ h w hl
set_option maxRecDepth 100000 in
theorem c_Qu_placeOf {l : Launch} {D : va_G} {cI cJ cZ cO : ClassId} {q_this q_entries : Nat} {x1 : Int64} {v_size : Int32} {v_entries : (Nat → Int64)} {x : Int32} (h : f_Qu_placeOf x1 v_size v_entries = some x) : ctI l D cI cJ cZ cO yX2_placeOf cX2_placeOf 7 .int rm_Qu_placeOf [.ref q_this, .long x1] (ws_Qu_placeOf cI cJ cZ q_this q_entries v_size v_entries) (ws_Qu_placeOf cI cJ cZ q_this q_entries v_size v_entries) x := by
  refine ctI_of (by decide) (Nat.le_of_ble_eq_true rfl) ?_
  intro p e s m below meth c Q A ls C0 hQ w hl
  have hl : lv_has ls 7 [(0, .ref q_this), (1, .long x1)] := hl
  generalize List.toArray (α := Value) [.ref q_this, .long x1] = args at C0 hQ ⊢
  obtain ⟨hx, hb, hml, hown, hts, -, -⟩ := id C0
  unfold f_Qu_placeOf at h
  refine lv_iconst (v := (0 : Int32)) hx hb dX2_placeOf_0 (by decide) ?_
  refine lv_istore_n (lv' := [(3, .int (0 : Int32)), (0, .ref q_this), (1, .long x1)]) hx hb dX2_placeOf_1 rfl hl (by decide) rfl (fun ls hl => ?_)
  refine lv_aload_n hx hb dX2_placeOf_2 rfl (lv_at hl 1 rfl) ?_
  refine r_get C0 w 0 rfl kf_Qu 1 (by decide) lf_RX2_15 rfl dX2_placeOf_3 ?_
  refine lv_istore (lv' := [(4, .int v_size), (3, .int (0 : Int32)), (0, .ref q_this), (1, .long x1)]) hx hb dX2_placeOf_6 hl (by decide) rfl (fun ls hl => ?_)
  refine lv_iconst (v := (0 : Int32)) hx hb dX2_placeOf_8 (by decide) ?_
  refine lv_istore (lv' := [(5, .int (0 : Int32)), (4, .int v_size), (3, .int (0 : Int32)), (0, .ref q_this), (1, .long x1)]) hx hb dX2_placeOf_9 hl (by decide) rfl (fun ls hl => ?_)
  refine wl_Qu_placeOf_L11 C0 hQ (fun x3 x4 x5 H locs ls h w hl => ?_) _ _ _ _ _ _ _ h w (lv_sub hl [3, 4, 2, 1, 0] rfl)
  refine lv_iload_n hx hb dX2_placeOf_64 rfl (lv_at hl 0 rfl) ?_
  cases h
  exact hQ _ _ _ _ dX2_placeOf_65 rfl w
theorem dX2_answerTo_0 : decode cX2_answerTo 0 = .ok (.aload_n 0, 1) := by decide +kernel
theorem dX2_answerTo_1 : decode cX2_answerTo 1 = .ok (.lload_n 1, 1) := by decide +kernel
theorem dX2_answerTo_2 : decode cX2_answerTo 2 = .ok (.invokevirtual 19, 3) := by decide +kernel
theorem dX2_answerTo_5 : decode cX2_answerTo 5 = .ok (.istore_n 3, 1) := by decide +kernel
theorem dX2_answerTo_6 : decode cX2_answerTo 6 = .ok (.iload_n 3, 1) := by decide +kernel
theorem dX2_answerTo_7 : decode cX2_answerTo 7 = .ok (.aload_n 0, 1) := by decide +kernel
theorem dX2_answerTo_8 : decode cX2_answerTo 8 = .ok (.getfield 15, 3) := by decide +kernel
theorem dX2_answerTo_11 : decode cX2_answerTo 11 = .ok (.if_icmp .ge 20, 3) := by decide +kernel
theorem dX2_answerTo_14 : decode cX2_answerTo 14 = .ok (.aload_n 0, 1) := by decide +kernel
theorem dX2_answerTo_15 : decode cX2_answerTo 15 = .ok (.getfield 9, 3) := by decide +kernel
theorem dX2_answerTo_18 : decode cX2_answerTo 18 = .ok (.iload_n 3, 1) := by decide +kernel
theorem dX2_answerTo_19 : decode cX2_answerTo 19 = .ok (.laload, 1) := by decide +kernel
theorem dX2_answerTo_20 : decode cX2_answerTo 20 = .ok (.iconst 1, 1) := by decide +kernel
theorem dX2_answerTo_21 : decode cX2_answerTo 21 = .ok (.lshr, 1) := by decide +kernel
theorem dX2_answerTo_22 : decode cX2_answerTo 22 = .ok (.lload_n 1, 1) := by decide +kernel
theorem dX2_answerTo_23 : decode cX2_answerTo 23 = .ok (.lcmp, 1) := by decide +kernel
theorem dX2_answerTo_24 : decode cX2_answerTo 24 = .ok (.ifCond .ne 7, 3) := by decide +kernel
theorem dX2_answerTo_27 : decode cX2_answerTo 27 = .ok (.iconst 1, 1) := by decide +kernel
theorem dX2_answerTo_28 : decode cX2_answerTo 28 = .ok (.goto 4, 3) := by decide +kernel
theorem dX2_answerTo_31 : decode cX2_answerTo 31 = .ok (.iconst 0, 1) := by decide +kernel
theorem dX2_answerTo_32 : decode cX2_answerTo 32 = .ok (.istore 4, 2) := by decide +kernel
theorem dX2_answerTo_34 : decode cX2_answerTo 34 = .ok (.iload 4, 2) := by decide +kernel
theorem dX2_answerTo_36 : decode cX2_answerTo 36 = .ok (.ifCond .eq 15, 3) := by decide +kernel
theorem dX2_answerTo_39 : decode cX2_answerTo 39 = .ok (.aload_n 0, 1) := by decide +kernel
theorem dX2_answerTo_40 : decode cX2_answerTo 40 = .ok (.getfield 9, 3) := by decide +kernel
theorem dX2_answerTo_43 : decode cX2_answerTo 43 = .ok (.iload_n 3, 1) := by decide +kernel
theorem dX2_answerTo_44 : decode cX2_answerTo 44 = .ok (.laload, 1) := by decide +kernel
theorem dX2_answerTo_45 : decode cX2_answerTo 45 = .ok (.lconst 1, 1) := by decide +kernel
theorem dX2_answerTo_46 : decode cX2_answerTo 46 = .ok (.land, 1) := by decide +kernel
theorem dX2_answerTo_47 : decode cX2_answerTo 47 = .ok (.l2i, 1) := by decide +kernel
theorem dX2_answerTo_48 : decode cX2_answerTo 48 = .ok (.goto 4, 3) := by decide +kernel
theorem dX2_answerTo_51 : decode cX2_answerTo 51 = .ok (.iconst (-1), 1) := by decide +kernel
theorem dX2_answerTo_52 : decode cX2_answerTo 52 = .ok (.ireturn, 1) := by decide +kernel
set_option maxRecDepth 100000 in
theorem w_Qu_answerTo_J32 {p : Program} {l : Launch} {e : Env} {s : State} {m : MethodId} {args : Array Value} {below : List Frame} {meth : Method} {c : Code} {Q : State → Prop} {A : Nat → Prop} {D : va_G} {cI cJ cZ cO : ClassId} {q_this q_entries : Nat} {v_size : Int32} {v_entries : (Nat → Int64)} {x : Int32} {x3 : Int32} {s0 : Int32} (C0 : Cx p s m args c A D cI cJ cZ cO cX2_answerTo 5 RX2) (hQ : RtI p l e rm_Qu_answerTo s m args below meth c Q A D cX2_answerTo .int (ws_Qu_answerTo cI cJ cZ q_this q_entries v_size v_entries) x) {H : Heap} {locs : List Loc} {ls : Array Slot} (h : f_Qu_answerTo_J32 x3 s0 v_entries = some x) (w : Wd s A D (ws_Qu_answerTo cI cJ cZ q_this q_entries v_size v_entries) H locs) (hl : lv_has ls 5 [(0, .ref q_this), (3, .int x3)]) : W p l e rm_Qu_answerTo s m args below meth c H locs 0 0 Q (F0 m 32 ls [.int s0]) := by
  obtain ⟨hx, hb, hml, hown, hts, -, -⟩ := id C0
  unfold f_Qu_answerTo_J32 at h
  refine lv_istore (lv' := [(4, .int s0), (0, .ref q_this), (3, .int x3)]) hx hb dX2_answerTo_32 hl (by decide) rfl (fun ls hl => ?_)
  refine lv_iload hx hb dX2_answerTo_34 (lv_at hl 0 rfl) ?_
  refine lv_if_eq (tgt := 51) hx hb dX2_answerTo_36 (by decide) (fun hc => ?_) (fun hc => ?_)
  · have h := if_h hc h
    refine lv_iconst (v := (-1 : Int32)) hx hb dX2_answerTo_51 (by decide) ?_
    cases h
    exact hQ _ _ _ _ dX2_answerTo_52 rfl w
  · have h := nf_h hc h
    refine lv_aload_n hx hb dX2_answerTo_39 rfl (lv_at hl 1 rfl) ?_
    refine r_get C0 w 0 rfl kf_Qu 0 (by decide) lf_RX2_9 rfl dX2_answerTo_40 ?_
    refine lv_iload_n hx hb dX2_answerTo_43 rfl (lv_at hl 2 rfl) ?_
    obtain ⟨hi, h⟩ := gIn_h h
    refine r_lald C0 w 1 rfl rfl hi dX2_answerTo_44 ?_
    refine lv_lconst (v := (1 : Int64)) hx hb dX2_answerTo_45 (by decide) ?_
    refine lv_land hx hb dX2_answerTo_46 ?_
    refine lv_l2i hx hb dX2_answerTo_47 rfl ?_
    refine lv_goto (tgt := 52) hx hb dX2_answerTo_48 (by decide) ?_
    cases h
    exact hQ _ _ _ _ dX2_answerTo_52 rfl w
set_option maxRecDepth 100000 in
theorem w_Qu_answerTo_J31 {p : Program} {l : Launch} {e : Env} {s : State} {m : MethodId} {args : Array Value} {below : List Frame} {meth : Method} {c : Code} {Q : State → Prop} {A : Nat → Prop} {D : va_G} {cI cJ cZ cO : ClassId} {q_this q_entries : Nat} {v_size : Int32} {v_entries : (Nat → Int64)} {x : Int32} {x3 : Int32} (C0 : Cx p s m args c A D cI cJ cZ cO cX2_answerTo 5 RX2) (hQ : RtI p l e rm_Qu_answerTo s m args below meth c Q A D cX2_answerTo .int (ws_Qu_answerTo cI cJ cZ q_this q_entries v_size v_entries) x) {H : Heap} {locs : List Loc} {ls : Array Slot} (h : f_Qu_answerTo_J31 x3 v_entries = some x) (w : Wd s A D (ws_Qu_answerTo cI cJ cZ q_this q_entries v_size v_entries) H locs) (hl : lv_has ls 5 [(0, .ref q_this), (3, .int x3)]) : W p l e rm_Qu_answerTo s m args below meth c H locs 0 0 Q (F0 m 31 ls []) := by
  obtain ⟨hx, hb, hml, hown, hts, -, -⟩ := id C0
  unfold f_Qu_answerTo_J31 at h
  refine lv_iconst (v := (0 : Int32)) hx hb dX2_answerTo_31 (by decide) ?_
  exact w_Qu_answerTo_J32 C0 hQ h w (lv_sub hl [0, 1] rfl)
set_option maxRecDepth 100000 in
theorem c_Qu_answerTo {l : Launch} {D : va_G} {cI cJ cZ cO : ClassId} {q_this q_entries : Nat} {x1 : Int64} {v_size : Int32} {v_entries : (Nat → Int64)} {x : Int32} (h : f_Qu_answerTo x1 v_size v_entries = some x) : ctI l D cI cJ cZ cO yX2_answerTo cX2_answerTo 5 .int rm_Qu_answerTo [.ref q_this, .long x1] (ws_Qu_answerTo cI cJ cZ q_this q_entries v_size v_entries) (ws_Qu_answerTo cI cJ cZ q_this q_entries v_size v_entries) x := by
  refine ctI_of (by decide) (Nat.le_of_ble_eq_true rfl) ?_
  intro p e s m below meth c Q A ls C0 hQ w hl
  have hl : lv_has ls 5 [(0, .ref q_this), (1, .long x1)] := hl
  generalize List.toArray (α := Value) [.ref q_this, .long x1] = args at C0 hQ ⊢
  obtain ⟨hx, hb, hml, hown, hts, -, -⟩ := id C0
  unfold f_Qu_answerTo at h
  refine lv_aload_n hx hb dX2_answerTo_0 rfl (lv_at hl 0 rfl) ?_
  refine lv_lload_n hx hb dX2_answerTo_1 rfl (lv_at hl 1 rfl) ?_
  obtain ⟨r, hcall, h⟩ := bd1_h h
  obtain ⟨wr, hp, hp'⟩ := rd_of (ws := (ws_Qu_answerTo cI cJ cZ q_this q_entries v_size v_entries)) (wc := (ws_Qu_placeOf cI cJ cZ q_this q_entries v_size v_entries)) [0, 1] rfl rfl
  refine r_VI (r := r) (As := [.long x1]) (rest := []) (wc' := (ws_Qu_placeOf cI cJ cZ q_this q_entries v_size v_entries)) (ws' := (ws_Qu_answerTo cI cJ cZ q_this q_entries v_size v_entries)) C0 w (c_Qu_placeOf hcall) hp hp' lm_RX2_19 mv_Qu_placeOf ⟨rfl, rfl⟩ ⟨by decide, by decide⟩ ⟨Nat.zero_le _, Nat.zero_le _⟩ (q0 := 0) rfl rfl rfl rfl hl rfl (Nat.le_of_ble_eq_true rfl) dX2_answerTo_2 (fun H locs w => ?_)
  refine lv_istore_n (lv' := [(3, .int r), (0, .ref q_this), (1, .long x1)]) hx hb dX2_answerTo_5 rfl hl (by decide) rfl (fun ls hl => ?_)
  refine lv_iload_n hx hb dX2_answerTo_6 rfl (lv_at hl 0 rfl) ?_
  refine lv_aload_n hx hb dX2_answerTo_7 rfl (lv_at hl 1 rfl) ?_
  refine r_get C0 w 0 rfl kf_Qu 1 (by decide) lf_RX2_15 rfl dX2_answerTo_8 ?_
  refine lv_icmp_ge (tgt := 31) hx hb dX2_answerTo_11 (by decide) (fun hc => ?_) (fun hc => ?_)
  · have h := if_h hc h
    exact w_Qu_answerTo_J31 C0 hQ h w (lv_sub hl [1, 0] rfl)
  · have h := nf_h hc h
    refine lv_aload_n hx hb dX2_answerTo_14 rfl (lv_at hl 1 rfl) ?_
    refine r_get C0 w 0 rfl kf_Qu 0 (by decide) lf_RX2_9 rfl dX2_answerTo_15 ?_
    refine lv_iload_n hx hb dX2_answerTo_18 rfl (lv_at hl 0 rfl) ?_
    obtain ⟨hi, h⟩ := gIn_h h
    refine r_lald C0 w 1 rfl rfl hi dX2_answerTo_19 ?_
    refine lv_iconst (v := (1 : Int32)) hx hb dX2_answerTo_20 (by decide) ?_
    refine lv_lshr (v := ((v_entries r.toNatClampNeg) >>> (1 : Int64))) hx hb dX2_answerTo_21 (lsh_litr (by decide)) ?_
    refine lv_lload_n hx hb dX2_answerTo_22 rfl (lv_at hl 2 rfl) ?_
    refine r_lc_ne (tgt := 31) hx hb dX2_answerTo_23 dX2_answerTo_24 (by decide) (fun hc => ?_) (fun hc => ?_)
    · have h := nf_h hc h
      exact w_Qu_answerTo_J31 C0 hQ h w (lv_sub hl [1, 0] rfl)
    · have h := if_h hc h
      refine lv_iconst (v := (1 : Int32)) hx hb dX2_answerTo_27 (by decide) ?_
      refine lv_goto (tgt := 32) hx hb dX2_answerTo_28 (by decide) ?_
      exact w_Qu_answerTo_J32 C0 hQ h w (lv_sub hl [1, 0] rfl)
theorem dX2_note_0 : decode cX2_note 0 = .ok (.aload_n 0, 1) := by decide +kernel
theorem dX2_note_1 : decode cX2_note 1 = .ok (.lload_n 1, 1) := by decide +kernel
theorem dX2_note_2 : decode cX2_note 2 = .ok (.invokevirtual 19, 3) := by decide +kernel
theorem dX2_note_5 : decode cX2_note 5 = .ok (.istore 4, 2) := by decide +kernel
theorem dX2_note_7 : decode cX2_note 7 = .ok (.aload_n 0, 1) := by decide +kernel
theorem dX2_note_8 : decode cX2_note 8 = .ok (.getfield 15, 3) := by decide +kernel
theorem dX2_note_11 : decode cX2_note 11 = .ok (.aload_n 0, 1) := by decide +kernel
theorem dX2_note_12 : decode cX2_note 12 = .ok (.getfield 9, 3) := by decide +kernel
theorem dX2_note_15 : decode cX2_note 15 = .ok (.arraylength, 1) := by decide +kernel
theorem dX2_note_16 : decode cX2_note 16 = .ok (.if_icmp .ge 50, 3) := by decide +kernel
theorem dX2_note_19 : decode cX2_note 19 = .ok (.aload_n 0, 1) := by decide +kernel
theorem dX2_note_20 : decode cX2_note 20 = .ok (.getfield 9, 3) := by decide +kernel
theorem dX2_note_23 : decode cX2_note 23 = .ok (.iload 4, 2) := by decide +kernel
theorem dX2_note_25 : decode cX2_note 25 = .ok (.aload_n 0, 1) := by decide +kernel
theorem dX2_note_26 : decode cX2_note 26 = .ok (.getfield 9, 3) := by decide +kernel
theorem dX2_note_29 : decode cX2_note 29 = .ok (.iload 4, 2) := by decide +kernel
theorem dX2_note_31 : decode cX2_note 31 = .ok (.iconst 1, 1) := by decide +kernel
theorem dX2_note_32 : decode cX2_note 32 = .ok (.iadd, 1) := by decide +kernel
theorem dX2_note_33 : decode cX2_note 33 = .ok (.aload_n 0, 1) := by decide +kernel
theorem dX2_note_34 : decode cX2_note 34 = .ok (.getfield 15, 3) := by decide +kernel
theorem dX2_note_37 : decode cX2_note 37 = .ok (.iload 4, 2) := by decide +kernel
theorem dX2_note_39 : decode cX2_note 39 = .ok (.isub, 1) := by decide +kernel
theorem dX2_note_40 : decode cX2_note 40 = .ok (.invokestatic 23, 3) := by decide +kernel
theorem dX2_note_43 : decode cX2_note 43 = .ok (.aload_n 0, 1) := by decide +kernel
theorem dX2_note_44 : decode cX2_note 44 = .ok (.getfield 9, 3) := by decide +kernel
theorem dX2_note_47 : decode cX2_note 47 = .ok (.iload 4, 2) := by decide +kernel
theorem dX2_note_49 : decode cX2_note 49 = .ok (.lload_n 1, 1) := by decide +kernel
theorem dX2_note_50 : decode cX2_note 50 = .ok (.iconst 1, 1) := by decide +kernel
theorem dX2_note_51 : decode cX2_note 51 = .ok (.lshl, 1) := by decide +kernel
theorem dX2_note_52 : decode cX2_note 52 = .ok (.iload_n 3, 1) := by decide +kernel
theorem dX2_note_53 : decode cX2_note 53 = .ok (.i2l, 1) := by decide +kernel
theorem dX2_note_54 : decode cX2_note 54 = .ok (.lor, 1) := by decide +kernel
theorem dX2_note_55 : decode cX2_note 55 = .ok (.lastore, 1) := by decide +kernel
theorem dX2_note_56 : decode cX2_note 56 = .ok (.aload_n 0, 1) := by decide +kernel
theorem dX2_note_57 : decode cX2_note 57 = .ok (.dup, 1) := by decide +kernel
theorem dX2_note_58 : decode cX2_note 58 = .ok (.getfield 15, 3) := by decide +kernel
theorem dX2_note_61 : decode cX2_note 61 = .ok (.iconst 1, 1) := by decide +kernel
theorem dX2_note_62 : decode cX2_note 62 = .ok (.iadd, 1) := by decide +kernel
theorem dX2_note_63 : decode cX2_note 63 = .ok (.putfield 15, 3) := by decide +kernel
theorem dX2_note_66 : decode cX2_note 66 = .ok (.return_, 1) := by decide +kernel
set_option maxRecDepth 100000 in
theorem c_Qu_note {l : Launch} {D : va_G} {cI cJ cZ cO : ClassId} {q_this q_entries : Nat} {x1 : Int64} {x3 : Int32} {v_size : Int32} {v_entries : (Nat → Int64)} {x : (Nat → Int64) × Int32} (h : f_Qu_note x1 x3 v_size v_entries = some x) : ctV l D cI cJ cZ cO yX2_note cX2_note 5 rm_Qu_note [.ref q_this, .long x1, .int x3] (ws_Qu_note cI cJ cZ q_this q_entries v_size v_entries) (ws_Qu_note cI cJ cZ q_this q_entries x.2 x.1) := by
  refine ctV_of (by decide) (Nat.le_of_ble_eq_true rfl) ?_
  intro p e s m below meth c Q A ls C0 hQ w hl
  have hl : lv_has ls 5 [(0, .ref q_this), (1, .long x1), (3, .int x3)] := hl
  generalize List.toArray (α := Value) [.ref q_this, .long x1, .int x3] = args at C0 hQ ⊢
  obtain ⟨hx, hb, hml, hown, hts, -, -⟩ := id C0
  unfold f_Qu_note at h
  refine lv_aload_n hx hb dX2_note_0 rfl (lv_at hl 0 rfl) ?_
  refine lv_lload_n hx hb dX2_note_1 rfl (lv_at hl 1 rfl) ?_
  obtain ⟨r, hcall, h⟩ := bd1_h h
  obtain ⟨wr, hp, hp'⟩ := rd_of (ws := (ws_Qu_note cI cJ cZ q_this q_entries v_size v_entries)) (wc := (ws_Qu_placeOf cI cJ cZ q_this q_entries v_size v_entries)) [0, 1] rfl rfl
  refine r_VI (r := r) (As := [.long x1]) (rest := []) (wc' := (ws_Qu_placeOf cI cJ cZ q_this q_entries v_size v_entries)) (ws' := (ws_Qu_note cI cJ cZ q_this q_entries v_size v_entries)) C0 w (c_Qu_placeOf hcall) hp hp' lm_RX2_19 mv_Qu_placeOf ⟨rfl, rfl⟩ ⟨by decide, by decide⟩ ⟨Nat.zero_le _, Nat.zero_le _⟩ (q0 := 0) rfl rfl rfl rfl hl rfl (Nat.le_of_ble_eq_true rfl) dX2_note_2 (fun H locs w => ?_)
  refine lv_istore (lv' := [(4, .int r), (0, .ref q_this), (1, .long x1), (3, .int x3)]) hx hb dX2_note_5 hl (by decide) rfl (fun ls hl => ?_)
  refine lv_aload_n hx hb dX2_note_7 rfl (lv_at hl 1 rfl) ?_
  refine r_get C0 w 0 rfl kf_Qu 1 (by decide) lf_RX2_15 rfl dX2_note_8 ?_
  refine lv_aload_n hx hb dX2_note_11 rfl (lv_at hl 1 rfl) ?_
  refine r_get C0 w 0 rfl kf_Qu 0 (by decide) lf_RX2_9 rfl dX2_note_12 ?_
  refine r_alen (v := (300 : Int32)) C0 w 1 1 rfl rfl rfl dX2_note_15 ?_
  refine lv_icmp_ge (tgt := 66) hx hb dX2_note_16 (by decide) (fun hc => ?_) (fun hc => ?_)
  · have h := if_h hc h
    cases h
    exact hQ _ _ _ _ dX2_note_66 w
  · have h := nf_h hc h
    refine lv_aload_n hx hb dX2_note_19 rfl (lv_at hl 1 rfl) ?_
    refine r_get C0 w 0 rfl kf_Qu 0 (by decide) lf_RX2_9 rfl dX2_note_20 ?_
    refine lv_iload hx hb dX2_note_23 (lv_at hl 0 rfl) ?_
    refine lv_aload_n hx hb dX2_note_25 rfl (lv_at hl 1 rfl) ?_
    refine r_get C0 w 0 rfl kf_Qu 0 (by decide) lf_RX2_9 rfl dX2_note_26 ?_
    refine lv_iload hx hb dX2_note_29 (lv_at hl 0 rfl) ?_
    refine lv_iconst (v := (1 : Int32)) hx hb dX2_note_31 (by decide) ?_
    refine lv_iadd hx hb dX2_note_32 ?_
    refine lv_aload_n hx hb dX2_note_33 rfl (lv_at hl 1 rfl) ?_
    refine r_get C0 w 0 rfl kf_Qu 1 (by decide) lf_RX2_15 rfl dX2_note_34 ?_
    refine lv_iload hx hb dX2_note_37 (lv_at hl 0 rfl) ?_
    refine lv_isub hx hb dX2_note_39 ?_
    obtain ⟨hg, h⟩ := gCp_h h
    obtain ⟨v_entries_1, ev_entries_1⟩ : ∃ y, y = (va_cpy v_entries v_entries r.toNatClampNeg (r + (1 : Int32)).toNatClampNeg (v_size - r).toNatClampNeg) := ⟨_, rfl⟩
    have h := bnd_at ev_entries_1 h
    refine r_cpl C0 w hl lm_RX2_23 ac_na ac_st ac_in ⟨by decide, by decide⟩ (Nat.le_of_ble_eq_true rfl) 1 1 rfl rfl (g' := v_entries_1) hg ev_entries_1 dX2_note_40 (ws' := (ws_Qu_note cI cJ cZ q_this q_entries v_size v_entries_1)) rfl (fun H locs w => ?_)
    refine lv_aload_n hx hb dX2_note_43 rfl (lv_at hl 1 rfl) ?_
    refine r_get C0 w 0 rfl kf_Qu 0 (by decide) lf_RX2_9 rfl dX2_note_44 ?_
    refine lv_iload hx hb dX2_note_47 (lv_at hl 0 rfl) ?_
    refine lv_lload_n hx hb dX2_note_49 rfl (lv_at hl 2 rfl) ?_
    refine lv_iconst (v := (1 : Int32)) hx hb dX2_note_50 (by decide) ?_
    refine lv_lshl (v := (x1 <<< (1 : Int64))) hx hb dX2_note_51 (lsh_litl (by decide)) ?_
    refine lv_iload_n hx hb dX2_note_52 rfl (lv_at hl 3 rfl) ?_
    refine lv_i2l hx hb dX2_note_53 rfl ?_
    refine lv_lor hx hb dX2_note_54 ?_
    obtain ⟨hi, h⟩ := gIn_h h
    obtain ⟨v_entries_2, ev_entries_2⟩ : ∃ y, y = (vp_updL v_entries_1 r.toNatClampNeg ((x1 <<< (1 : Int64)) ||| x3.toInt64)) := ⟨_, rfl⟩
    have h := bnd_at ev_entries_2 h
    refine r_last C0 w 1 rfl (f' := v_entries_2) rfl hi ev_entries_2 dX2_note_55 (ws' := (ws_Qu_note cI cJ cZ q_this q_entries v_size v_entries_2)) rfl (fun H locs w => ?_)
    refine lv_aload_n hx hb dX2_note_56 rfl (lv_at hl 1 rfl) ?_
    refine lv_dup hx hb dX2_note_57 rfl ?_
    refine r_get C0 w 0 rfl kf_Qu 1 (by decide) lf_RX2_15 rfl dX2_note_58 ?_
    refine lv_iconst (v := (1 : Int32)) hx hb dX2_note_61 (by decide) ?_
    refine lv_iadd hx hb dX2_note_62 ?_
    refine lv_topi (fun v_size_1 ev_size_1 => ?_)
    have h := bnd_at ev_size_1 h
    refine r_put C0 w 0 rfl kf_Qu 1 (by decide) lf_RX2_15 rfl rfl rfl (Nat.le_of_ble_eq_true rfl) dX2_note_63 (ws' := (ws_Qu_note cI cJ cZ q_this q_entries v_size_1 v_entries_2)) rfl (fun H locs w => ?_)
    cases h
    exact hQ _ _ _ _ dX2_note_66 w
theorem dX5_answerTo_0 : decode cX5_answerTo 0 = .ok (.aload_n 0, 1) := by decide +kernel
theorem dX5_answerTo_1 : decode cX5_answerTo 1 = .ok (.getfield 14, 3) := by decide +kernel
theorem dX5_answerTo_4 : decode cX5_answerTo 4 = .ok (.lload_n 1, 1) := by decide +kernel
theorem dX5_answerTo_5 : decode cX5_answerTo 5 = .ok (.invokevirtual 32, 3) := by decide +kernel
theorem dX5_answerTo_8 : decode cX5_answerTo 8 = .ok (.istore_n 3, 1) := by decide +kernel
theorem dX5_answerTo_9 : decode cX5_answerTo 9 = .ok (.aload_n 0, 1) := by decide +kernel
theorem dX5_answerTo_10 : decode cX5_answerTo 10 = .ok (.lload_n 1, 1) := by decide +kernel
theorem dX5_answerTo_11 : decode cX5_answerTo 11 = .ok (.invokevirtual 36, 3) := by decide +kernel
theorem dX5_answerTo_14 : decode cX5_answerTo 14 = .ok (.iconst (-1), 1) := by decide +kernel
theorem dX5_answerTo_15 : decode cX5_answerTo 15 = .ok (.if_icmp .ne 7, 3) := by decide +kernel
theorem dX5_answerTo_18 : decode cX5_answerTo 18 = .ok (.iload_n 3, 1) := by decide +kernel
theorem dX5_answerTo_19 : decode cX5_answerTo 19 = .ok (.goto 6, 3) := by decide +kernel
theorem dX5_answerTo_22 : decode cX5_answerTo 22 = .ok (.iconst 1, 1) := by decide +kernel
theorem dX5_answerTo_23 : decode cX5_answerTo 23 = .ok (.iload_n 3, 1) := by decide +kernel
theorem dX5_answerTo_24 : decode cX5_answerTo 24 = .ok (.isub, 1) := by decide +kernel
theorem dX5_answerTo_25 : decode cX5_answerTo 25 = .ok (.ireturn, 1) := by decide +kernel
set_option maxRecDepth 100000 in
theorem c_Te_answerTo {l : Launch} {D : va_G} {cI cJ cZ cO : ClassId} {q_this q_machine q_lies q_machine_moves q_machine_finals : Nat} {x1 : Int64} {v_lieCount : Int32} {v_machine_size : Int32} {v_machine_letters : Int32} {v_machine_moves : (Nat → Int32)} {v_machine_finals : (Nat → Int32)} {v_lies : (Nat → Int64)} {x : Int32} (h : f_Te_answerTo x1 v_lieCount v_machine_moves v_machine_finals v_lies = some x) : ctI l D cI cJ cZ cO yX5_answerTo cX5_answerTo 4 .int rm_Te_answerTo [.ref q_this, .long x1] (ws_Te_answerTo cI cJ cZ q_this q_machine q_lies q_machine_moves q_machine_finals v_lieCount v_machine_size v_machine_letters v_machine_moves v_machine_finals v_lies) (ws_Te_answerTo cI cJ cZ q_this q_machine q_lies q_machine_moves q_machine_finals v_lieCount v_machine_size v_machine_letters v_machine_moves v_machine_finals v_lies) x := by
  refine ctI_of (by decide) (Nat.le_of_ble_eq_true rfl) ?_
  intro p e s m below meth c Q A ls C0 hQ w hl
  have hl : lv_has ls 4 [(0, .ref q_this), (1, .long x1)] := hl
  generalize List.toArray (α := Value) [.ref q_this, .long x1] = args at C0 hQ ⊢
  obtain ⟨hx, hb, hml, hown, hts, -, -⟩ := id C0
  unfold f_Te_answerTo at h
  refine lv_aload_n hx hb dX5_answerTo_0 rfl (lv_at hl 0 rfl) ?_
  refine r_get C0 w 0 rfl kf_Te 0 (by decide) lf_RX5_14 rfl dX5_answerTo_1 ?_
  refine lv_lload_n hx hb dX5_answerTo_4 rfl (lv_at hl 1 rfl) ?_
  obtain ⟨r, hcall, h⟩ := bd1_h h
  obtain ⟨wr, hp, hp'⟩ := rd_of (ws := (ws_Te_answerTo cI cJ cZ q_this q_machine q_lies q_machine_moves q_machine_finals v_lieCount v_machine_size v_machine_letters v_machine_moves v_machine_finals v_lies)) (wc := (ws_Au_verdict cI cJ cZ q_machine q_machine_moves q_machine_finals 24 8 v_machine_size v_machine_letters v_machine_moves v_machine_finals)) [1, 2, 3] rfl rfl
  refine r_VI (r := r) (As := [.long x1]) (rest := []) (wc' := (ws_Au_verdict cI cJ cZ q_machine q_machine_moves q_machine_finals 24 8 v_machine_size v_machine_letters v_machine_moves v_machine_finals)) (ws' := (ws_Te_answerTo cI cJ cZ q_this q_machine q_lies q_machine_moves q_machine_finals v_lieCount v_machine_size v_machine_letters v_machine_moves v_machine_finals v_lies)) C0 w (c_Au_verdict hcall) hp hp' lm_RX5_32 mv_Au_verdict ⟨rfl, rfl⟩ ⟨by decide, by decide⟩ ⟨Nat.zero_le _, Nat.zero_le _⟩ (q0 := 1) rfl rfl rfl rfl hl rfl (Nat.le_of_ble_eq_true rfl) dX5_answerTo_5 (fun H locs w => ?_)
  refine lv_istore_n (lv' := [(3, .int r), (0, .ref q_this), (1, .long x1)]) hx hb dX5_answerTo_8 rfl hl (by decide) rfl (fun ls hl => ?_)
  refine lv_aload_n hx hb dX5_answerTo_9 rfl (lv_at hl 1 rfl) ?_
  refine lv_lload_n hx hb dX5_answerTo_10 rfl (lv_at hl 2 rfl) ?_
  obtain ⟨r_1, hcall, h⟩ := bd1_h h
  obtain ⟨wr, hp, hp'⟩ := rd_of (ws := (ws_Te_answerTo cI cJ cZ q_this q_machine q_lies q_machine_moves q_machine_finals v_lieCount v_machine_size v_machine_letters v_machine_moves v_machine_finals v_lies)) (wc := (ws_Te_placeOfLie cI cJ cZ q_this q_machine q_lies v_lieCount v_lies)) [0, 4] rfl rfl
  refine r_VI (r := r_1) (As := [.long x1]) (rest := []) (wc' := (ws_Te_placeOfLie cI cJ cZ q_this q_machine q_lies v_lieCount v_lies)) (ws' := (ws_Te_answerTo cI cJ cZ q_this q_machine q_lies q_machine_moves q_machine_finals v_lieCount v_machine_size v_machine_letters v_machine_moves v_machine_finals v_lies)) C0 w (c_Te_placeOfLie hcall) hp hp' lm_RX5_36 mv_Te_placeOfLie ⟨rfl, rfl⟩ ⟨by decide, by decide⟩ ⟨Nat.zero_le _, Nat.zero_le _⟩ (q0 := 0) rfl rfl rfl rfl hl rfl (Nat.le_of_ble_eq_true rfl) dX5_answerTo_11 (fun H locs w => ?_)
  refine lv_iconst (v := (-1 : Int32)) hx hb dX5_answerTo_14 (by decide) ?_
  obtain ⟨t, et⟩ : ∃ y : Int32, y = (if r_1 = (-1 : Int32) then r else ((1 : Int32) - r)) := ⟨_, rfl⟩
  have h := bnd_at et h
  have J : W p l e rm_Te_answerTo s m args below meth c H locs 0 0 Q (F0 m 25 ls [.int t]) := by
    cases h
    exact hQ _ _ _ _ dX5_answerTo_25 rfl w
  refine lv_icmp_ne (tgt := 22) hx hb dX5_answerTo_15 (by decide) (fun hc => ?_) (fun hc => ?_)
  · refine lv_iconst (v := (1 : Int32)) hx hb dX5_answerTo_22 (by decide) ?_
    refine lv_iload_n hx hb dX5_answerTo_23 rfl (lv_at hl 0 rfl) ?_
    refine lv_isub hx hb dX5_answerTo_24 ?_
    exact r_eqi (et.trans (if_neg hc)) J
  · refine lv_iload_n hx hb dX5_answerTo_18 rfl (lv_at hl 0 rfl) ?_
    refine lv_goto (tgt := 25) hx hb dX5_answerTo_19 (by decide) ?_
    exact r_eqi (et.trans (if_pos hc)) J
theorem dX1_askAbout_0 : decode cX1_askAbout 0 = .ok (.aload_n 0, 1) := by decide +kernel
theorem dX1_askAbout_1 : decode cX1_askAbout 1 = .ok (.getfield 12, 3) := by decide +kernel
theorem dX1_askAbout_4 : decode cX1_askAbout 4 = .ok (.lload_n 1, 1) := by decide +kernel
theorem dX1_askAbout_5 : decode cX1_askAbout 5 = .ok (.invokevirtual 72, 3) := by decide +kernel
theorem dX1_askAbout_8 : decode cX1_askAbout 8 = .ok (.istore 4, 2) := by decide +kernel
theorem dX1_askAbout_10 : decode cX1_askAbout 10 = .ok (.iload 4, 2) := by decide +kernel
theorem dX1_askAbout_12 : decode cX1_askAbout 12 = .ok (.iconst (-1), 1) := by decide +kernel
theorem dX1_askAbout_13 : decode cX1_askAbout 13 = .ok (.if_icmp .eq 6, 3) := by decide +kernel
theorem dX1_askAbout_16 : decode cX1_askAbout 16 = .ok (.iload 4, 2) := by decide +kernel
theorem dX1_askAbout_18 : decode cX1_askAbout 18 = .ok (.ireturn, 1) := by decide +kernel
theorem dX1_askAbout_19 : decode cX1_askAbout 19 = .ok (.aload_n 0, 1) := by decide +kernel
theorem dX1_askAbout_20 : decode cX1_askAbout 20 = .ok (.getfield 12, 3) := by decide +kernel
theorem dX1_askAbout_23 : decode cX1_askAbout 23 = .ok (.getfield 61, 3) := by decide +kernel
theorem dX1_askAbout_26 : decode cX1_askAbout 26 = .ok (.aload_n 0, 1) := by decide +kernel
theorem dX1_askAbout_27 : decode cX1_askAbout 27 = .ok (.getfield 42, 3) := by decide +kernel
theorem dX1_askAbout_30 : decode cX1_askAbout 30 = .ok (.if_icmp .lt 6, 3) := by decide +kernel
theorem dX1_askAbout_33 : decode cX1_askAbout 33 = .ok (.bipush (-4), 2) := by decide +kernel
theorem dX1_askAbout_35 : decode cX1_askAbout 35 = .ok (.ireturn, 1) := by decide +kernel
theorem dX1_askAbout_36 : decode cX1_askAbout 36 = .ok (.aload_n 3, 1) := by decide +kernel
theorem dX1_askAbout_37 : decode cX1_askAbout 37 = .ok (.lload_n 1, 1) := by decide +kernel
theorem dX1_askAbout_38 : decode cX1_askAbout 38 = .ok (.invokevirtual 76, 3) := by decide +kernel
theorem dX1_askAbout_41 : decode cX1_askAbout 41 = .ok (.istore 5, 2) := by decide +kernel
theorem dX1_askAbout_43 : decode cX1_askAbout 43 = .ok (.aload_n 0, 1) := by decide +kernel
theorem dX1_askAbout_44 : decode cX1_askAbout 44 = .ok (.getfield 12, 3) := by decide +kernel
theorem dX1_askAbout_47 : decode cX1_askAbout 47 = .ok (.lload_n 1, 1) := by decide +kernel
theorem dX1_askAbout_48 : decode cX1_askAbout 48 = .ok (.iload 5, 2) := by decide +kernel
theorem dX1_askAbout_50 : decode cX1_askAbout 50 = .ok (.invokevirtual 79, 3) := by decide +kernel
theorem dX1_askAbout_53 : decode cX1_askAbout 53 = .ok (.iload 5, 2) := by decide +kernel
theorem dX1_askAbout_55 : decode cX1_askAbout 55 = .ok (.ireturn, 1) := by decide +kernel
set_option maxRecDepth 100000 in
theorem c_Le_askAbout {l : Launch} {D : va_G} {cI cJ cZ cO : ClassId} {q_this q_asked q_table q_hypothesis q_representatives q_asked_entries q_o3 q_o3_machine q_o3_lies q_o3_machine_moves q_o3_machine_finals : Nat} {x1 : Int64} {v_mode : Int32} {v_budget : Int32} {v_formed : Int32} {v_counterexample : Int64} {v_corrections : Int32} {v_deceived : Int32} {v_asked_size : Int32} {v_asked_entries : (Nat → Int64)} {v_o3_lieCount : Int32} {v_o3_machine_size : Int32} {v_o3_machine_letters : Int32} {v_o3_machine_moves : (Nat → Int32)} {v_o3_machine_finals : (Nat → Int32)} {v_o3_lies : (Nat → Int64)} {x : Int32 × (Nat → Int64) × Int32} (h : f_Le_askAbout x1 v_budget v_asked_size v_asked_entries v_o3_lieCount v_o3_machine_moves v_o3_machine_finals v_o3_lies = some x) : ctI l D cI cJ cZ cO yX1_askAbout cX1_askAbout 6 .int rm_Le_askAbout [.ref q_this, .long x1, .ref q_o3] (ws_Le_askAbout cI cJ cZ q_this q_asked q_table q_hypothesis q_representatives q_asked_entries q_o3 q_o3_machine q_o3_lies q_o3_machine_moves q_o3_machine_finals v_mode v_budget v_formed v_counterexample v_corrections v_deceived v_asked_size v_asked_entries v_o3_lieCount v_o3_machine_size v_o3_machine_letters v_o3_machine_moves v_o3_machine_finals v_o3_lies) (ws_Le_askAbout cI cJ cZ q_this q_asked q_table q_hypothesis q_representatives q_asked_entries q_o3 q_o3_machine q_o3_lies q_o3_machine_moves q_o3_machine_finals v_mode v_budget v_formed v_counterexample v_corrections v_deceived x.2.2 x.2.1 v_o3_lieCount v_o3_machine_size v_o3_machine_letters v_o3_machine_moves v_o3_machine_finals v_o3_lies) x.1 := by
  refine ctI_of (by decide) (Nat.le_of_ble_eq_true rfl) ?_
  intro p e s m below meth c Q A ls C0 hQ w hl
  have hl : lv_has ls 6 [(0, .ref q_this), (1, .long x1), (3, .ref q_o3)] := hl
  generalize List.toArray (α := Value) [.ref q_this, .long x1, .ref q_o3] = args at C0 hQ ⊢
  obtain ⟨hx, hb, hml, hown, hts, -, -⟩ := id C0
  unfold f_Le_askAbout at h
  refine lv_aload_n hx hb dX1_askAbout_0 rfl (lv_at hl 0 rfl) ?_
  refine r_get C0 w 0 rfl kf_Le 0 (by decide) lf_RX1_12 rfl dX1_askAbout_1 ?_
  refine lv_lload_n hx hb dX1_askAbout_4 rfl (lv_at hl 1 rfl) ?_
  obtain ⟨r, hcall, h⟩ := bd1_h h
  obtain ⟨wr, hp, hp'⟩ := rd_of (ws := (ws_Le_askAbout cI cJ cZ q_this q_asked q_table q_hypothesis q_representatives q_asked_entries q_o3 q_o3_machine q_o3_lies q_o3_machine_moves q_o3_machine_finals v_mode v_budget v_formed v_counterexample v_corrections v_deceived v_asked_size v_asked_entries v_o3_lieCount v_o3_machine_size v_o3_machine_letters v_o3_machine_moves v_o3_machine_finals v_o3_lies)) (wc := (ws_Qu_answerTo cI cJ cZ q_asked q_asked_entries v_asked_size v_asked_entries)) [1, 2] rfl rfl
  refine r_VI (r := r) (As := [.long x1]) (rest := []) (wc' := (ws_Qu_answerTo cI cJ cZ q_asked q_asked_entries v_asked_size v_asked_entries)) (ws' := (ws_Le_askAbout cI cJ cZ q_this q_asked q_table q_hypothesis q_representatives q_asked_entries q_o3 q_o3_machine q_o3_lies q_o3_machine_moves q_o3_machine_finals v_mode v_budget v_formed v_counterexample v_corrections v_deceived v_asked_size v_asked_entries v_o3_lieCount v_o3_machine_size v_o3_machine_letters v_o3_machine_moves v_o3_machine_finals v_o3_lies)) C0 w (c_Qu_answerTo hcall) hp hp' lm_RX1_72 mv_Qu_answerTo ⟨rfl, rfl⟩ ⟨by decide, by decide⟩ ⟨Nat.zero_le _, Nat.zero_le _⟩ (q0 := 1) rfl rfl rfl rfl hl rfl (Nat.le_of_ble_eq_true rfl) dX1_askAbout_5 (fun H locs w => ?_)
  refine lv_istore (lv' := [(4, .int r), (0, .ref q_this), (1, .long x1), (3, .ref q_o3)]) hx hb dX1_askAbout_8 hl (by decide) rfl (fun ls hl => ?_)
  refine lv_iload hx hb dX1_askAbout_10 (lv_at hl 0 rfl) ?_
  refine lv_iconst (v := (-1 : Int32)) hx hb dX1_askAbout_12 (by decide) ?_
  refine lv_icmp_eq (tgt := 19) hx hb dX1_askAbout_13 (by decide) (fun hc => ?_) (fun hc => ?_)
  · have h := if_h hc h
    refine lv_aload_n hx hb dX1_askAbout_19 rfl (lv_at hl 1 rfl) ?_
    refine r_get C0 w 0 rfl kf_Le 0 (by decide) lf_RX1_12 rfl dX1_askAbout_20 ?_
    refine r_get C0 w 1 rfl kf_Qu 1 (by decide) lf_RX1_61 rfl dX1_askAbout_23 ?_
    refine lv_aload_n hx hb dX1_askAbout_26 rfl (lv_at hl 1 rfl) ?_
    refine r_get C0 w 0 rfl kf_Le 5 (by decide) lf_RX1_42 rfl dX1_askAbout_27 ?_
    refine lv_icmp_lt (tgt := 36) hx hb dX1_askAbout_30 (by decide) (fun hc => ?_) (fun hc => ?_)
    · have h := if_h hc h
      refine lv_aload_n hx hb dX1_askAbout_36 rfl (lv_at hl 3 rfl) ?_
      refine lv_lload_n hx hb dX1_askAbout_37 rfl (lv_at hl 2 rfl) ?_
      obtain ⟨r_1, hcall, h⟩ := bd1_h h
      obtain ⟨wr, hp, hp'⟩ := rd_of (ws := (ws_Le_askAbout cI cJ cZ q_this q_asked q_table q_hypothesis q_representatives q_asked_entries q_o3 q_o3_machine q_o3_lies q_o3_machine_moves q_o3_machine_finals v_mode v_budget v_formed v_counterexample v_corrections v_deceived v_asked_size v_asked_entries v_o3_lieCount v_o3_machine_size v_o3_machine_letters v_o3_machine_moves v_o3_machine_finals v_o3_lies)) (wc := (ws_Te_answerTo cI cJ cZ q_o3 q_o3_machine q_o3_lies q_o3_machine_moves q_o3_machine_finals v_o3_lieCount v_o3_machine_size v_o3_machine_letters v_o3_machine_moves v_o3_machine_finals v_o3_lies)) [3, 4, 5, 6, 7] rfl rfl
      refine r_VI (r := r_1) (As := [.long x1]) (rest := []) (wc' := (ws_Te_answerTo cI cJ cZ q_o3 q_o3_machine q_o3_lies q_o3_machine_moves q_o3_machine_finals v_o3_lieCount v_o3_machine_size v_o3_machine_letters v_o3_machine_moves v_o3_machine_finals v_o3_lies)) (ws' := (ws_Le_askAbout cI cJ cZ q_this q_asked q_table q_hypothesis q_representatives q_asked_entries q_o3 q_o3_machine q_o3_lies q_o3_machine_moves q_o3_machine_finals v_mode v_budget v_formed v_counterexample v_corrections v_deceived v_asked_size v_asked_entries v_o3_lieCount v_o3_machine_size v_o3_machine_letters v_o3_machine_moves v_o3_machine_finals v_o3_lies)) C0 w (c_Te_answerTo hcall) hp hp' lm_RX1_76 mv_Te_answerTo ⟨rfl, rfl⟩ ⟨by decide, by decide⟩ ⟨Nat.zero_le _, Nat.zero_le _⟩ (q0 := 3) rfl rfl rfl rfl hl rfl (Nat.le_of_ble_eq_true rfl) dX1_askAbout_38 (fun H locs w => ?_)
      refine lv_istore (lv' := [(5, .int r_1), (4, .int r), (0, .ref q_this), (1, .long x1), (3, .ref q_o3)]) hx hb dX1_askAbout_41 hl (by decide) rfl (fun ls hl => ?_)
      refine lv_aload_n hx hb dX1_askAbout_43 rfl (lv_at hl 2 rfl) ?_
      refine r_get C0 w 0 rfl kf_Le 0 (by decide) lf_RX1_12 rfl dX1_askAbout_44 ?_
      refine lv_lload_n hx hb dX1_askAbout_47 rfl (lv_at hl 3 rfl) ?_
      refine lv_iload hx hb dX1_askAbout_48 (lv_at hl 0 rfl) ?_
      obtain ⟨v_asked_entries_1, v_asked_size_1, hcall, h⟩ := bd2_h h
      have hp := sp_of (ws := (ws_Le_askAbout cI cJ cZ q_this q_asked q_table q_hypothesis q_representatives q_asked_entries q_o3 q_o3_machine q_o3_lies q_o3_machine_moves q_o3_machine_finals v_mode v_budget v_formed v_counterexample v_corrections v_deceived v_asked_size v_asked_entries v_o3_lieCount v_o3_machine_size v_o3_machine_letters v_o3_machine_moves v_o3_machine_finals v_o3_lies)) (wc := (ws_Qu_note cI cJ cZ q_asked q_asked_entries v_asked_size v_asked_entries)) [1, 2] [0, 3, 4, 5, 6, 7] rfl rfl
      have hp' : Rp (pk (ws_Le_askAbout cI cJ cZ q_this q_asked q_table q_hypothesis q_representatives q_asked_entries q_o3 q_o3_machine q_o3_lies q_o3_machine_moves q_o3_machine_finals v_mode v_budget v_formed v_counterexample v_corrections v_deceived v_asked_size v_asked_entries v_o3_lieCount v_o3_machine_size v_o3_machine_letters v_o3_machine_moves v_o3_machine_finals v_o3_lies) [0, 3, 4, 5, 6, 7] ++ (ws_Qu_note cI cJ cZ q_asked q_asked_entries v_asked_size_1 v_asked_entries_1)) (ws_Le_askAbout cI cJ cZ q_this q_asked q_table q_hypothesis q_representatives q_asked_entries q_o3 q_o3_machine q_o3_lies q_o3_machine_moves q_o3_machine_finals v_mode v_budget v_formed v_counterexample v_corrections v_deceived v_asked_size_1 v_asked_entries_1 v_o3_lieCount v_o3_machine_size v_o3_machine_letters v_o3_machine_moves v_o3_machine_finals v_o3_lies) := ⟨[0, 6, 7, 1, 2, 3, 4, 5], rfl, rfl⟩
      refine r_VV (As := [.long x1, .int r_1]) (rest := []) (wc' := (ws_Qu_note cI cJ cZ q_asked q_asked_entries v_asked_size_1 v_asked_entries_1)) (ws' := (ws_Le_askAbout cI cJ cZ q_this q_asked q_table q_hypothesis q_representatives q_asked_entries q_o3 q_o3_machine q_o3_lies q_o3_machine_moves q_o3_machine_finals v_mode v_budget v_formed v_counterexample v_corrections v_deceived v_asked_size_1 v_asked_entries_1 v_o3_lieCount v_o3_machine_size v_o3_machine_letters v_o3_machine_moves v_o3_machine_finals v_o3_lies)) C0 w (c_Qu_note hcall) hp hp' lm_RX1_79 mv_Qu_note ⟨rfl, rfl⟩ ⟨by decide, by decide⟩ ⟨Nat.zero_le _, Nat.zero_le _⟩ (q0 := 1) rfl rfl rfl rfl hl rfl (Nat.le_of_ble_eq_true rfl) dX1_askAbout_50 (fun H locs w => ?_)
      refine lv_iload hx hb dX1_askAbout_53 (lv_at hl 0 rfl) ?_
      cases h
      exact hQ _ _ _ _ dX1_askAbout_55 rfl w
    · have h := nf_h hc h
      refine lv_bipush (v := (-4 : Int32)) hx hb dX1_askAbout_33 (by decide) ?_
      cases h
      exact hQ _ _ _ _ dX1_askAbout_35 rfl w
  · have h := nf_h hc h
    refine lv_iload hx hb dX1_askAbout_16 (lv_at hl 0 rfl) ?_
    cases h
    exact hQ _ _ _ _ dX1_askAbout_18 rfl w
theorem dX1_question_0 : decode cX1_question 0 = .ok (.aload_n 0, 1) := by decide +kernel
theorem dX1_question_1 : decode cX1_question 1 = .ok (.getfield 34, 3) := by decide +kernel
theorem dX1_question_4 : decode cX1_question 4 = .ok (.aload_n 0, 1) := by decide +kernel
theorem dX1_question_5 : decode cX1_question 5 = .ok (.getfield 30, 3) := by decide +kernel
theorem dX1_question_8 : decode cX1_question 8 = .ok (.lload_n 1, 1) := by decide +kernel
theorem dX1_question_9 : decode cX1_question 9 = .ok (.iload_n 3, 1) := by decide +kernel
theorem dX1_question_10 : decode cX1_question 10 = .ok (.invokevirtual 196, 3) := by decide +kernel
theorem dX1_question_13 : decode cX1_question 13 = .ok (.iaload, 1) := by decide +kernel
theorem dX1_question_14 : decode cX1_question 14 = .ok (.istore 4, 2) := by decide +kernel
theorem dX1_question_16 : decode cX1_question 16 = .ok (.aload_n 0, 1) := by decide +kernel
theorem dX1_question_17 : decode cX1_question 17 = .ok (.getfield 21, 3) := by decide +kernel
theorem dX1_question_20 : decode cX1_question 20 = .ok (.getfield 133, 3) := by decide +kernel
theorem dX1_question_23 : decode cX1_question 23 = .ok (.getfield 199, 3) := by decide +kernel
theorem dX1_question_26 : decode cX1_question 26 = .ok (.iload 4, 2) := by decide +kernel
theorem dX1_question_28 : decode cX1_question 28 = .ok (.laload, 1) := by decide +kernel
theorem dX1_question_29 : decode cX1_question 29 = .ok (.lstore 5, 2) := by decide +kernel
theorem dX1_question_31 : decode cX1_question 31 = .ok (.lload_n 1, 1) := by decide +kernel
theorem dX1_question_32 : decode cX1_question 32 = .ok (.iload_n 3, 1) := by decide +kernel
theorem dX1_question_33 : decode cX1_question 33 = .ok (.invokestatic 186, 3) := by decide +kernel
theorem dX1_question_36 : decode cX1_question 36 = .ok (.lstore 7, 2) := by decide +kernel
theorem dX1_question_38 : decode cX1_question 38 = .ok (.lload 5, 2) := by decide +kernel
theorem dX1_question_40 : decode cX1_question 40 = .ok (.invokestatic 169, 3) := by decide +kernel
theorem dX1_question_43 : decode cX1_question 43 = .ok (.lload 7, 2) := by decide +kernel
theorem dX1_question_45 : decode cX1_question 45 = .ok (.invokestatic 169, 3) := by decide +kernel
theorem dX1_question_48 : decode cX1_question 48 = .ok (.iadd, 1) := by decide +kernel
theorem dX1_question_49 : decode cX1_question 49 = .ok (.bipush 16, 2) := by decide +kernel
theorem dX1_question_51 : decode cX1_question 51 = .ok (.if_icmp .gt 7, 3) := by decide +kernel
theorem dX1_question_54 : decode cX1_question 54 = .ok (.iconst 1, 1) := by decide +kernel
theorem dX1_question_55 : decode cX1_question 55 = .ok (.goto 4, 3) := by decide +kernel
theorem dX1_question_58 : decode cX1_question 58 = .ok (.iconst 0, 1) := by decide +kernel
theorem dX1_question_59 : decode cX1_question 59 = .ok (.istore 9, 2) := by decide +kernel
theorem dX1_question_61 : decode cX1_question 61 = .ok (.iload 9, 2) := by decide +kernel
theorem dX1_question_63 : decode cX1_question 63 = .ok (.ifCond .eq 13, 3) := by decide +kernel
theorem dX1_question_66 : decode cX1_question 66 = .ok (.lload 5, 2) := by decide +kernel
theorem dX1_question_68 : decode cX1_question 68 = .ok (.lload 7, 2) := by decide +kernel
theorem dX1_question_70 : decode cX1_question 70 = .ok (.invokestatic 203, 3) := by decide +kernel
theorem dX1_question_73 : decode cX1_question 73 = .ok (.goto 6, 3) := by decide +kernel
theorem dX1_question_76 : decode cX1_question 76 = .ok (.ldc2_w 49, 3) := by decide +kernel
theorem dX1_question_79 : decode cX1_question 79 = .ok (.lreturn, 1) := by decide +kernel
set_option maxRecDepth 100000 in
theorem c_Le_question {l : Launch} {D : va_G} {cI cJ cZ cO : ClassId} {q_this q_asked q_table q_hypothesis q_representatives q_table_prefixes q_table_suffixes q_table_known q_table_bits q_table_prefixes_words q_hypothesis_moves q_hypothesis_finals : Nat} {x1 : Int64} {x3 : Int32} {v_mode : Int32} {v_budget : Int32} {v_formed : Int32} {v_counterexample : Int64} {v_corrections : Int32} {v_deceived : Int32} {v_table_letters : Int32} {v_table_prefixes_size : Int32} {v_table_prefixes_longest : Int32} {v_table_prefixes_words : (Nat → Int64)} {v_hypothesis_size : Int32} {v_hypothesis_letters : Int32} {v_hypothesis_moves : (Nat → Int32)} {v_representatives : (Nat → Int32)} {x : Int64} (h : f_Le_question x1 x3 v_table_prefixes_words v_hypothesis_moves v_representatives = some x) : ctJ l D cI cJ cZ cO yX1_question cX1_question 10 rm_Le_question [.ref q_this, .long x1, .int x3] (ws_Le_question cI cJ cZ q_this q_asked q_table q_hypothesis q_representatives q_table_prefixes q_table_suffixes q_table_known q_table_bits q_table_prefixes_words q_hypothesis_moves q_hypothesis_finals v_mode v_budget v_formed v_counterexample v_corrections v_deceived v_table_letters v_table_prefixes_size v_table_prefixes_longest v_table_prefixes_words v_hypothesis_size v_hypothesis_letters v_hypothesis_moves v_representatives) (ws_Le_question cI cJ cZ q_this q_asked q_table q_hypothesis q_representatives q_table_prefixes q_table_suffixes q_table_known q_table_bits q_table_prefixes_words q_hypothesis_moves q_hypothesis_finals v_mode v_budget v_formed v_counterexample v_corrections v_deceived v_table_letters v_table_prefixes_size v_table_prefixes_longest v_table_prefixes_words v_hypothesis_size v_hypothesis_letters v_hypothesis_moves v_representatives) x := by
  refine ctJ_of (by decide) (Nat.le_of_ble_eq_true rfl) ?_
  intro p e s m below meth c Q A ls C0 hQ w hl
  have hl : lv_has ls 10 [(0, .ref q_this), (1, .long x1), (3, .int x3)] := hl
  generalize List.toArray (α := Value) [.ref q_this, .long x1, .int x3] = args at C0 hQ ⊢
  obtain ⟨hx, hb, hml, hown, hts, -, -⟩ := id C0
  unfold f_Le_question at h
  refine lv_aload_n hx hb dX1_question_0 rfl (lv_at hl 0 rfl) ?_
  refine r_get C0 w 0 rfl kf_Le 3 (by decide) lf_RX1_34 rfl dX1_question_1 ?_
  refine lv_aload_n hx hb dX1_question_4 rfl (lv_at hl 0 rfl) ?_
  refine r_get C0 w 0 rfl kf_Le 2 (by decide) lf_RX1_30 rfl dX1_question_5 ?_
  refine lv_lload_n hx hb dX1_question_8 rfl (lv_at hl 1 rfl) ?_
  refine lv_iload_n hx hb dX1_question_9 rfl (lv_at hl 2 rfl) ?_
  obtain ⟨r, hcall, h⟩ := bd1_h h
  obtain ⟨wr, hp, hp'⟩ := rd_of (ws := (ws_Le_question cI cJ cZ q_this q_asked q_table q_hypothesis q_representatives q_table_prefixes q_table_suffixes q_table_known q_table_bits q_table_prefixes_words q_hypothesis_moves q_hypothesis_finals v_mode v_budget v_formed v_counterexample v_corrections v_deceived v_table_letters v_table_prefixes_size v_table_prefixes_longest v_table_prefixes_words v_hypothesis_size v_hypothesis_letters v_hypothesis_moves v_representatives)) (wc := (ws_Au_follow cI cJ cZ q_hypothesis q_hypothesis_moves q_hypothesis_finals 120 v_hypothesis_size v_hypothesis_letters v_hypothesis_moves)) [4, 5] rfl rfl
  refine r_VI (r := r) (As := [.long x1, .int x3]) (rest := [.ref q_representatives]) (wc' := (ws_Au_follow cI cJ cZ q_hypothesis q_hypothesis_moves q_hypothesis_finals 120 v_hypothesis_size v_hypothesis_letters v_hypothesis_moves)) (ws' := (ws_Le_question cI cJ cZ q_this q_asked q_table q_hypothesis q_representatives q_table_prefixes q_table_suffixes q_table_known q_table_bits q_table_prefixes_words q_hypothesis_moves q_hypothesis_finals v_mode v_budget v_formed v_counterexample v_corrections v_deceived v_table_letters v_table_prefixes_size v_table_prefixes_longest v_table_prefixes_words v_hypothesis_size v_hypothesis_letters v_hypothesis_moves v_representatives)) C0 w (c_Au_follow hcall) hp hp' lm_RX1_196 mv_Au_follow ⟨rfl, rfl⟩ ⟨by decide, by decide⟩ ⟨Nat.zero_le _, Nat.zero_le _⟩ (q0 := 4) rfl rfl rfl rfl hl rfl (Nat.le_of_ble_eq_true rfl) dX1_question_10 (fun H locs w => ?_)
  obtain ⟨hi, h⟩ := gIn_h h
  refine r_iald C0 w 6 rfl rfl hi dX1_question_13 ?_
  refine lv_topi (fun x4 ex4 => ?_)
  have h := bnd_at ex4 h
  refine lv_istore (lv' := [(4, .int x4), (0, .ref q_this), (1, .long x1), (3, .int x3)]) hx hb dX1_question_14 hl (by decide) rfl (fun ls hl => ?_)
  refine lv_aload_n hx hb dX1_question_16 rfl (lv_at hl 1 rfl) ?_
  refine r_get C0 w 0 rfl kf_Le 1 (by decide) lf_RX1_21 rfl dX1_question_17 ?_
  refine r_get C0 w 1 rfl kf_Ta 0 (by decide) lf_RX1_133 rfl dX1_question_20 ?_
  refine r_get C0 w 2 rfl kf_WL 0 (by decide) lf_RX1_199 rfl dX1_question_23 ?_
  refine lv_iload hx hb dX1_question_26 (lv_at hl 0 rfl) ?_
  obtain ⟨hi, h⟩ := gIn_h h
  refine r_lald C0 w 3 rfl rfl hi dX1_question_28 ?_
  refine lv_topl (fun x5 ex5 => ?_)
  have h := bnd_at ex5 h
  refine lv_lstore (lv' := [(5, .long x5), (4, .int x4), (0, .ref q_this), (1, .long x1), (3, .int x3)]) hx hb dX1_question_29 hl (by decide) rfl (fun ls hl => ?_)
  refine lv_lload_n hx hb dX1_question_31 rfl (lv_at hl 3 rfl) ?_
  refine lv_iload_n hx hb dX1_question_32 rfl (lv_at hl 4 rfl) ?_
  obtain ⟨r_1, hcall, h⟩ := bd1_h h
  obtain ⟨wr, hp, hp'⟩ := rd_of (ws := (ws_Le_question cI cJ cZ q_this q_asked q_table q_hypothesis q_representatives q_table_prefixes q_table_suffixes q_table_known q_table_bits q_table_prefixes_words q_hypothesis_moves q_hypothesis_finals v_mode v_budget v_formed v_counterexample v_corrections v_deceived v_table_letters v_table_prefixes_size v_table_prefixes_longest v_table_prefixes_words v_hypothesis_size v_hypothesis_letters v_hypothesis_moves v_representatives)) (wc := (ws_Ws_tailFrom cI cJ cZ)) [] rfl rfl
  refine r_SJ (r := r_1) (As := [.long x1, .int x3]) (rest := []) (wc' := (ws_Ws_tailFrom cI cJ cZ)) (ws' := (ws_Le_question cI cJ cZ q_this q_asked q_table q_hypothesis q_representatives q_table_prefixes q_table_suffixes q_table_known q_table_bits q_table_prefixes_words q_hypothesis_moves q_hypothesis_finals v_mode v_budget v_formed v_counterexample v_corrections v_deceived v_table_letters v_table_prefixes_size v_table_prefixes_longest v_table_prefixes_words v_hypothesis_size v_hypothesis_letters v_hypothesis_moves v_representatives)) C0 w (c_Ws_tailFrom hcall) hp hp' lm_RX1_186 ms_Ws_tailFrom ⟨rfl, rfl⟩ ⟨by decide, by decide⟩ ⟨Nat.zero_le _, Nat.zero_le _⟩ rfl hl rfl (Nat.le_of_ble_eq_true rfl) dX1_question_33 (fun H locs w => ?_)
  refine lv_lstore (lv' := [(7, .long r_1), (5, .long x5), (4, .int x4), (0, .ref q_this), (1, .long x1), (3, .int x3)]) hx hb dX1_question_36 hl (by decide) rfl (fun ls hl => ?_)
  refine lv_lload hx hb dX1_question_38 (lv_at hl 1 rfl) ?_
  obtain ⟨r_2, hcall, h⟩ := bd1_h h
  obtain ⟨wr, hp, hp'⟩ := rd_of (ws := (ws_Le_question cI cJ cZ q_this q_asked q_table q_hypothesis q_representatives q_table_prefixes q_table_suffixes q_table_known q_table_bits q_table_prefixes_words q_hypothesis_moves q_hypothesis_finals v_mode v_budget v_formed v_counterexample v_corrections v_deceived v_table_letters v_table_prefixes_size v_table_prefixes_longest v_table_prefixes_words v_hypothesis_size v_hypothesis_letters v_hypothesis_moves v_representatives)) (wc := (ws_Ws_lengthOf cI cJ cZ)) [] rfl rfl
  refine r_SI (r := r_2) (As := [.long x5]) (rest := []) (wc' := (ws_Ws_lengthOf cI cJ cZ)) (ws' := (ws_Le_question cI cJ cZ q_this q_asked q_table q_hypothesis q_representatives q_table_prefixes q_table_suffixes q_table_known q_table_bits q_table_prefixes_words q_hypothesis_moves q_hypothesis_finals v_mode v_budget v_formed v_counterexample v_corrections v_deceived v_table_letters v_table_prefixes_size v_table_prefixes_longest v_table_prefixes_words v_hypothesis_size v_hypothesis_letters v_hypothesis_moves v_representatives)) C0 w (c_Ws_lengthOf hcall) hp hp' lm_RX1_169 ms_Ws_lengthOf ⟨rfl, rfl⟩ ⟨by decide, by decide⟩ ⟨Nat.zero_le _, Nat.zero_le _⟩ rfl hl rfl (Nat.le_of_ble_eq_true rfl) dX1_question_40 (fun H locs w => ?_)
  refine lv_lload hx hb dX1_question_43 (lv_at hl 0 rfl) ?_
  obtain ⟨r_3, hcall, h⟩ := bd1_h h
  obtain ⟨wr, hp, hp'⟩ := rd_of (ws := (ws_Le_question cI cJ cZ q_this q_asked q_table q_hypothesis q_representatives q_table_prefixes q_table_suffixes q_table_known q_table_bits q_table_prefixes_words q_hypothesis_moves q_hypothesis_finals v_mode v_budget v_formed v_counterexample v_corrections v_deceived v_table_letters v_table_prefixes_size v_table_prefixes_longest v_table_prefixes_words v_hypothesis_size v_hypothesis_letters v_hypothesis_moves v_representatives)) (wc := (ws_Ws_lengthOf cI cJ cZ)) [] rfl rfl
  refine r_SI (r := r_3) (As := [.long r_1]) (rest := [.int r_2]) (wc' := (ws_Ws_lengthOf cI cJ cZ)) (ws' := (ws_Le_question cI cJ cZ q_this q_asked q_table q_hypothesis q_representatives q_table_prefixes q_table_suffixes q_table_known q_table_bits q_table_prefixes_words q_hypothesis_moves q_hypothesis_finals v_mode v_budget v_formed v_counterexample v_corrections v_deceived v_table_letters v_table_prefixes_size v_table_prefixes_longest v_table_prefixes_words v_hypothesis_size v_hypothesis_letters v_hypothesis_moves v_representatives)) C0 w (c_Ws_lengthOf hcall) hp hp' lm_RX1_169 ms_Ws_lengthOf ⟨rfl, rfl⟩ ⟨by decide, by decide⟩ ⟨Nat.zero_le _, Nat.zero_le _⟩ rfl hl rfl (Nat.le_of_ble_eq_true rfl) dX1_question_45 (fun H locs w => ?_)
  refine lv_iadd hx hb dX1_question_48 ?_
  refine lv_bipush (v := (16 : Int32)) hx hb dX1_question_49 (by decide) ?_
  obtain ⟨t, et⟩ : ∃ y : Int32, y = (if (16 : Int32) < (r_2 + r_3) then (0 : Int32) else (1 : Int32)) := ⟨_, rfl⟩
  have h := bnd_at et h
  have J : W p l e rm_Le_question s m args below meth c H locs 0 0 Q (F0 m 59 ls [.int t]) := by
    refine lv_istore (lv' := [(9, .int t), (7, .long r_1), (5, .long x5), (4, .int x4), (0, .ref q_this), (1, .long x1), (3, .int x3)]) hx hb dX1_question_59 hl (by decide) rfl (fun ls hl => ?_)
    refine lv_iload hx hb dX1_question_61 (lv_at hl 0 rfl) ?_
    refine lv_if_eq (tgt := 76) hx hb dX1_question_63 (by decide) (fun hc => ?_) (fun hc => ?_)
    · have h := if_h hc h
      refine lv_ldc2 (v := (-1 : Int64)) hx hb hown (hts _ ll_RX1_49) dX1_question_76 ?_
      cases h
      exact hQ _ _ _ _ dX1_question_79 w
    · have h := nf_h hc h
      refine lv_lload hx hb dX1_question_66 (lv_at hl 2 rfl) ?_
      refine lv_lload hx hb dX1_question_68 (lv_at hl 1 rfl) ?_
      obtain ⟨r_4, hcall, h⟩ := bd1_h h
      obtain ⟨wr, hp, hp'⟩ := rd_of (ws := (ws_Le_question cI cJ cZ q_this q_asked q_table q_hypothesis q_representatives q_table_prefixes q_table_suffixes q_table_known q_table_bits q_table_prefixes_words q_hypothesis_moves q_hypothesis_finals v_mode v_budget v_formed v_counterexample v_corrections v_deceived v_table_letters v_table_prefixes_size v_table_prefixes_longest v_table_prefixes_words v_hypothesis_size v_hypothesis_letters v_hypothesis_moves v_representatives)) (wc := (ws_Ws_join cI cJ cZ)) [] rfl rfl
      refine r_SJ (r := r_4) (As := [.long x5, .long r_1]) (rest := []) (wc' := (ws_Ws_join cI cJ cZ)) (ws' := (ws_Le_question cI cJ cZ q_this q_asked q_table q_hypothesis q_representatives q_table_prefixes q_table_suffixes q_table_known q_table_bits q_table_prefixes_words q_hypothesis_moves q_hypothesis_finals v_mode v_budget v_formed v_counterexample v_corrections v_deceived v_table_letters v_table_prefixes_size v_table_prefixes_longest v_table_prefixes_words v_hypothesis_size v_hypothesis_letters v_hypothesis_moves v_representatives)) C0 w (c_Ws_join hcall) hp hp' lm_RX1_203 ms_Ws_join ⟨rfl, rfl⟩ ⟨by decide, by decide⟩ ⟨Nat.zero_le _, Nat.zero_le _⟩ rfl hl rfl (Nat.le_of_ble_eq_true rfl) dX1_question_70 (fun H locs w => ?_)
      refine lv_goto (tgt := 79) hx hb dX1_question_73 (by decide) ?_
      cases h
      exact hQ _ _ _ _ dX1_question_79 w
  refine lv_icmp_gt (tgt := 58) hx hb dX1_question_51 (by decide) (fun hc => ?_) (fun hc => ?_)
  · refine lv_iconst (v := (0 : Int32)) hx hb dX1_question_58 (by decide) ?_
    exact r_eqi (et.trans (if_pos hc)) J
  · refine lv_iconst (v := (1 : Int32)) hx hb dX1_question_54 (by decide) ?_
    refine lv_goto (tgt := 59) hx hb dX1_question_55 (by decide) ?_
    exact r_eqi (et.trans (if_neg hc)) J
theorem dX1_addSplit_0 : decode cX1_addSplit 0 = .ok (.iconst 0, 1) := by decide +kernel
theorem dX1_addSplit_1 : decode cX1_addSplit 1 = .ok (.istore 4, 2) := by decide +kernel
theorem dX1_addSplit_3 : decode cX1_addSplit 3 = .ok (.lload_n 1, 1) := by decide +kernel
theorem dX1_addSplit_4 : decode cX1_addSplit 4 = .ok (.invokestatic 169, 3) := by decide +kernel
theorem dX1_addSplit_7 : decode cX1_addSplit 7 = .ok (.istore 5, 2) := by decide +kernel
theorem dX1_addSplit_9 : decode cX1_addSplit 9 = .ok (.aload_n 0, 1) := by decide +kernel
theorem dX1_addSplit_10 : decode cX1_addSplit 10 = .ok (.lload_n 1, 1) := by decide +kernel
theorem dX1_addSplit_11 : decode cX1_addSplit 11 = .ok (.aload_n 3, 1) := by decide +kernel
theorem dX1_addSplit_12 : decode cX1_addSplit 12 = .ok (.invokevirtual 87, 3) := by decide +kernel
theorem dX1_addSplit_15 : decode cX1_addSplit 15 = .ok (.istore 6, 2) := by decide +kernel
theorem dX1_addSplit_17 : decode cX1_addSplit 17 = .ok (.iload 6, 2) := by decide +kernel
theorem dX1_addSplit_19 : decode cX1_addSplit 19 = .ok (.bipush (-4), 2) := by decide +kernel
theorem dX1_addSplit_21 : decode cX1_addSplit 21 = .ok (.if_icmp .ne 6, 3) := by decide +kernel
theorem dX1_addSplit_24 : decode cX1_addSplit 24 = .ok (.bipush (-4), 2) := by decide +kernel
theorem dX1_addSplit_26 : decode cX1_addSplit 26 = .ok (.ireturn, 1) := by decide +kernel
theorem dX1_addSplit_27 : decode cX1_addSplit 27 = .ok (.iconst 0, 1) := by decide +kernel
theorem dX1_addSplit_28 : decode cX1_addSplit 28 = .ok (.istore 7, 2) := by decide +kernel
theorem dX1_addSplit_30 : decode cX1_addSplit 30 = .ok (.iload 7, 2) := by decide +kernel
theorem dX1_addSplit_32 : decode cX1_addSplit 32 = .ok (.bipush 16, 2) := by decide +kernel
theorem dX1_addSplit_34 : decode cX1_addSplit 34 = .ok (.if_icmp .ge 85, 3) := by decide +kernel
theorem dX1_addSplit_37 : decode cX1_addSplit 37 = .ok (.iload 5, 2) := by decide +kernel
theorem dX1_addSplit_39 : decode cX1_addSplit 39 = .ok (.iload 4, 2) := by decide +kernel
theorem dX1_addSplit_41 : decode cX1_addSplit 41 = .ok (.isub, 1) := by decide +kernel
theorem dX1_addSplit_42 : decode cX1_addSplit 42 = .ok (.iconst 1, 1) := by decide +kernel
theorem dX1_addSplit_43 : decode cX1_addSplit 43 = .ok (.if_icmp .le 76, 3) := by decide +kernel
theorem dX1_addSplit_46 : decode cX1_addSplit 46 = .ok (.iload 4, 2) := by decide +kernel
theorem dX1_addSplit_48 : decode cX1_addSplit 48 = .ok (.iload 5, 2) := by decide +kernel
theorem dX1_addSplit_50 : decode cX1_addSplit 50 = .ok (.iadd, 1) := by decide +kernel
theorem dX1_addSplit_51 : decode cX1_addSplit 51 = .ok (.iconst 2, 1) := by decide +kernel
theorem dX1_addSplit_52 : decode cX1_addSplit 52 = .ok (.idiv, 1) := by decide +kernel
theorem dX1_addSplit_53 : decode cX1_addSplit 53 = .ok (.istore 8, 2) := by decide +kernel
theorem dX1_addSplit_55 : decode cX1_addSplit 55 = .ok (.aload_n 0, 1) := by decide +kernel
theorem dX1_addSplit_56 : decode cX1_addSplit 56 = .ok (.lload_n 1, 1) := by decide +kernel
theorem dX1_addSplit_57 : decode cX1_addSplit 57 = .ok (.iload 8, 2) := by decide +kernel
theorem dX1_addSplit_59 : decode cX1_addSplit 59 = .ok (.invokevirtual 193, 3) := by decide +kernel
theorem dX1_addSplit_62 : decode cX1_addSplit 62 = .ok (.lstore 9, 2) := by decide +kernel
theorem dX1_addSplit_64 : decode cX1_addSplit 64 = .ok (.lload 9, 2) := by decide +kernel
theorem dX1_addSplit_66 : decode cX1_addSplit 66 = .ok (.ldc2_w 49, 3) := by decide +kernel
theorem dX1_addSplit_69 : decode cX1_addSplit 69 = .ok (.lcmp, 1) := by decide +kernel
theorem dX1_addSplit_70 : decode cX1_addSplit 70 = .ok (.ifCond .ne 8, 3) := by decide +kernel
theorem dX1_addSplit_73 : decode cX1_addSplit 73 = .ok (.bipush (-5), 2) := by decide +kernel
theorem dX1_addSplit_75 : decode cX1_addSplit 75 = .ok (.goto 10, 3) := by decide +kernel
theorem dX1_addSplit_78 : decode cX1_addSplit 78 = .ok (.aload_n 0, 1) := by decide +kernel
theorem dX1_addSplit_79 : decode cX1_addSplit 79 = .ok (.lload 9, 2) := by decide +kernel
theorem dX1_addSplit_81 : decode cX1_addSplit 81 = .ok (.aload_n 3, 1) := by decide +kernel
theorem dX1_addSplit_82 : decode cX1_addSplit 82 = .ok (.invokevirtual 87, 3) := by decide +kernel
theorem dX1_addSplit_85 : decode cX1_addSplit 85 = .ok (.istore 11, 2) := by decide +kernel
theorem dX1_addSplit_87 : decode cX1_addSplit 87 = .ok (.iload 11, 2) := by decide +kernel
theorem dX1_addSplit_89 : decode cX1_addSplit 89 = .ok (.ifCond .ge 6, 3) := by decide +kernel
theorem dX1_addSplit_92 : decode cX1_addSplit 92 = .ok (.iload 11, 2) := by decide +kernel
theorem dX1_addSplit_94 : decode cX1_addSplit 94 = .ok (.ireturn, 1) := by decide +kernel
theorem dX1_addSplit_95 : decode cX1_addSplit 95 = .ok (.iload 11, 2) := by decide +kernel
theorem dX1_addSplit_97 : decode cX1_addSplit 97 = .ok (.iload 6, 2) := by decide +kernel
theorem dX1_addSplit_99 : decode cX1_addSplit 99 = .ok (.if_icmp .ne 10, 3) := by decide +kernel
theorem dX1_addSplit_102 : decode cX1_addSplit 102 = .ok (.iload 8, 2) := by decide +kernel
theorem dX1_addSplit_104 : decode cX1_addSplit 104 = .ok (.istore 4, 2) := by decide +kernel
theorem dX1_addSplit_106 : decode cX1_addSplit 106 = .ok (.goto 7, 3) := by decide +kernel
theorem dX1_addSplit_109 : decode cX1_addSplit 109 = .ok (.iload 8, 2) := by decide +kernel
theorem dX1_addSplit_111 : decode cX1_addSplit 111 = .ok (.istore 5, 2) := by decide +kernel
theorem dX1_addSplit_113 : decode cX1_addSplit 113 = .ok (.iinc 7 1, 3) := by decide +kernel
theorem dX1_addSplit_116 : decode cX1_addSplit 116 = .ok (.goto (-86), 3) := by decide +kernel
theorem dX1_addSplit_119 : decode cX1_addSplit 119 = .ok (.aload_n 0, 1) := by decide +kernel
theorem dX1_addSplit_120 : decode cX1_addSplit 120 = .ok (.iconst 1, 1) := by decide +kernel
theorem dX1_addSplit_121 : decode cX1_addSplit 121 = .ok (.lload_n 1, 1) := by decide +kernel
theorem dX1_addSplit_122 : decode cX1_addSplit 122 = .ok (.iload 5, 2) := by decide +kernel
theorem dX1_addSplit_124 : decode cX1_addSplit 124 = .ok (.invokestatic 186, 3) := by decide +kernel
theorem dX1_addSplit_127 : decode cX1_addSplit 127 = .ok (.invokevirtual 95, 3) := by decide +kernel
theorem dX1_addSplit_130 : decode cX1_addSplit 130 = .ok (.ireturn, 1) := by decide +kernel
set_option maxRecDepth 100000 in
theorem w_Le_addSplit_J113 {p : Program} {l : Launch} {e : Env} {s : State} {m : MethodId} {args : Array Value} {below : List Frame} {meth : Method} {c : Code} {Q : State → Prop} {A : Nat → Prop} {D : va_G} {cI cJ cZ cO : ClassId} {q_this q_asked q_table q_hypothesis q_representatives q_asked_entries q_table_prefixes q_table_suffixes q_table_known q_table_bits q_table_prefixes_words q_table_suffixes_words q_hypothesis_moves q_hypothesis_finals q_o3 q_o3_machine q_o3_lies q_o3_machine_moves q_o3_machine_finals : Nat} {v_mode : Int32} {v_budget : Int32} {v_formed : Int32} {v_counterexample : Int64} {v_corrections : Int32} {v_deceived : Int32} {v_asked_size : Int32} {v_asked_entries : (Nat → Int64)} {v_table_letters : Int32} {v_table_prefixes_size : Int32} {v_table_prefixes_longest : Int32} {v_table_prefixes_words : (Nat → Int64)} {v_table_suffixes_size : Int32} {v_table_suffixes_longest : Int32} {v_table_suffixes_words : (Nat → Int64)} {v_hypothesis_size : Int32} {v_hypothesis_letters : Int32} {v_hypothesis_moves : (Nat → Int32)} {v_representatives : (Nat → Int32)} {v_o3_lieCount : Int32} {v_o3_machine_size : Int32} {v_o3_machine_letters : Int32} {v_o3_machine_moves : (Nat → Int32)} {v_o3_machine_finals : (Nat → Int32)} {v_o3_lies : (Nat → Int64)} {x : Int32 × (Nat → Int64) × Int32 × (Nat → Int64) × Int32 × Int32 × (Nat → Int64) × Int32 × Int32 × Int32} {x1 : Int64} {x4 : Int32} {x5 : Int32} {x6 : Int32} {x7 : Int32} (C0 : Cx p s m args c A D cI cJ cZ cO cX1_addSplit 12 RX1) (hQ : RtI p l e rm_Le_addSplit s m args below meth c Q A D cX1_addSplit .int (ws_Le_addSplit cI cJ cZ q_this q_asked q_table q_hypothesis q_representatives q_asked_entries q_table_prefixes q_table_suffixes q_table_known q_table_bits q_table_prefixes_words q_table_suffixes_words q_hypothesis_moves q_hypothesis_finals q_o3 q_o3_machine q_o3_lies q_o3_machine_moves q_o3_machine_finals v_mode v_budget x.2.2.2.2.2.2.2.2.2 v_counterexample v_corrections v_deceived x.2.2.1 x.2.1 v_table_letters x.2.2.2.2.1 x.2.2.2.2.2.1 x.2.2.2.1 x.2.2.2.2.2.2.2.1 x.2.2.2.2.2.2.2.2.1 x.2.2.2.2.2.2.1 v_hypothesis_size v_hypothesis_letters v_hypothesis_moves v_representatives v_o3_lieCount v_o3_machine_size v_o3_machine_letters v_o3_machine_moves v_o3_machine_finals v_o3_lies) x.1) {K : Int32 → Int32 → Int32 → (Nat → Int64) → Int32 → Option (Int32 × (Nat → Int64) × Int32 × (Nat → Int64) × Int32 × Int32 × (Nat → Int64) × Int32 × Int32 × Int32)} (hK : ∀ (y4 : Int32) (y5 : Int32) (y7 : Int32) (u_asked_entries : (Nat → Int64)) (u_asked_size : Int32) (H : Heap) (locs : List Loc) (ls : Array Slot), K y4 y5 y7 u_asked_entries u_asked_size = some x → Wd s A D (ws_Le_addSplit cI cJ cZ q_this q_asked q_table q_hypothesis q_representatives q_asked_entries q_table_prefixes q_table_suffixes q_table_known q_table_bits q_table_prefixes_words q_table_suffixes_words q_hypothesis_moves q_hypothesis_finals q_o3 q_o3_machine q_o3_lies q_o3_machine_moves q_o3_machine_finals v_mode v_budget v_formed v_counterexample v_corrections v_deceived u_asked_size u_asked_entries v_table_letters v_table_prefixes_size v_table_prefixes_longest v_table_prefixes_words v_table_suffixes_size v_table_suffixes_longest v_table_suffixes_words v_hypothesis_size v_hypothesis_letters v_hypothesis_moves v_representatives v_o3_lieCount v_o3_machine_size v_o3_machine_letters v_o3_machine_moves v_o3_machine_finals v_o3_lies) H locs → lv_has ls 12 [(0, .ref q_this), (1, .long x1), (5, .int y5)] → W p l e rm_Le_addSplit s m args below meth c H locs 0 0 Q (F0 m 119 ls [])) {rec : Int32 → Int32 → Int32 → (Nat → Int64) → Int32 → Option (Int32 × (Nat → Int64) × Int32 × (Nat → Int64) × Int32 × Int32 × (Nat → Int64) × Int32 × Int32 × Int32)} (hrec : ∀ (y4 : Int32) (y5 : Int32) (y7 : Int32) (u_asked_entries : (Nat → Int64)) (u_asked_size : Int32) (H : Heap) (locs : List Loc) (ls : Array Slot), rec y4 y5 y7 u_asked_entries u_asked_size = some x → Wd s A D (ws_Le_addSplit cI cJ cZ q_this q_asked q_table q_hypothesis q_representatives q_asked_entries q_table_prefixes q_table_suffixes q_table_known q_table_bits q_table_prefixes_words q_table_suffixes_words q_hypothesis_moves q_hypothesis_finals q_o3 q_o3_machine q_o3_lies q_o3_machine_moves q_o3_machine_finals v_mode v_budget v_formed v_counterexample v_corrections v_deceived u_asked_size u_asked_entries v_table_letters v_table_prefixes_size v_table_prefixes_longest v_table_prefixes_words v_table_suffixes_size v_table_suffixes_longest v_table_suffixes_words v_hypothesis_size v_hypothesis_letters v_hypothesis_moves v_representatives v_o3_lieCount v_o3_machine_size v_o3_machine_letters v_o3_machine_moves v_o3_machine_finals v_o3_lies) H locs → lv_has ls 12 [(0, .ref q_this), (1, .long x1), (3, .ref q_o3), (4, .int y4), (5, .int y5), (6, .int x6), (7, .int y7)] → W p l e rm_Le_addSplit s m args below meth c H locs 0 0 Q (F0 m 30 ls [])) {H : Heap} {locs : List Loc} {ls : Array Slot} (h : f_Le_addSplit_J113 rec x4 x5 x7 v_asked_size v_asked_entries = some x) (w : Wd s A D (ws_Le_addSplit cI cJ cZ q_this q_asked q_table q_hypothesis q_representatives q_asked_entries q_table_prefixes q_table_suffixes q_table_known q_table_bits q_table_prefixes_words q_table_suffixes_words q_hypothesis_moves q_hypothesis_finals q_o3 q_o3_machine q_o3_lies q_o3_machine_moves q_o3_machine_finals v_mode v_budget v_formed v_counterexample v_corrections v_deceived v_asked_size v_asked_entries v_table_letters v_table_prefixes_size v_table_prefixes_longest v_table_prefixes_words v_table_suffixes_size v_table_suffixes_longest v_table_suffixes_words v_hypothesis_size v_hypothesis_letters v_hypothesis_moves v_representatives v_o3_lieCount v_o3_machine_size v_o3_machine_letters v_o3_machine_moves v_o3_machine_finals v_o3_lies) H locs) (hl : lv_has ls 12 [(0, .ref q_this), (1, .long x1), (3, .ref q_o3), (4, .int x4), (5, .int x5), (6, .int x6), (7, .int x7)]) : W p l e rm_Le_addSplit s m args below meth c H locs 0 0 Q (F0 m 113 ls []) := by
  obtain ⟨hx, hb, hml, hown, hts, -, -⟩ := id C0
  unfold f_Le_addSplit_J113 at h
  obtain ⟨x7_1, ex7_1⟩ : ∃ y : Int32, y = (x7 + 1) := ⟨_, rfl⟩
  have h := bnd_at ex7_1 h
  refine lv_iinc (v := x7_1) (lv' := [(7, .int x7_1), (0, .ref q_this), (1, .long x1), (3, .ref q_o3), (4, .int x4), (5, .int x5), (6, .int x6)]) hx hb dX1_addSplit_113 hl (k := 6) rfl (by rw [ex7_1]; rfl) (by decide) rfl (fun ls hl => ?_)
  refine lv_goto (tgt := 30) hx hb dX1_addSplit_116 (by decide) ?_
  exact hrec _ _ _ _ _ _ _ _ h w (lv_sub hl [1, 2, 3, 4, 5, 6, 0] rfl)
set_option maxRecDepth 100000 in
theorem w_Le_addSplit_J85 {p : Program} {l : Launch} {e : Env} {s : State} {m : MethodId} {args : Array Value} {below : List Frame} {meth : Method} {c : Code} {Q : State → Prop} {A : Nat → Prop} {D : va_G} {cI cJ cZ cO : ClassId} {q_this q_asked q_table q_hypothesis q_representatives q_asked_entries q_table_prefixes q_table_suffixes q_table_known q_table_bits q_table_prefixes_words q_table_suffixes_words q_hypothesis_moves q_hypothesis_finals q_o3 q_o3_machine q_o3_lies q_o3_machine_moves q_o3_machine_finals : Nat} {v_mode : Int32} {v_budget : Int32} {v_formed : Int32} {v_counterexample : Int64} {v_corrections : Int32} {v_deceived : Int32} {v_asked_size : Int32} {v_asked_entries : (Nat → Int64)} {v_table_letters : Int32} {v_table_prefixes_size : Int32} {v_table_prefixes_longest : Int32} {v_table_prefixes_words : (Nat → Int64)} {v_table_suffixes_size : Int32} {v_table_suffixes_longest : Int32} {v_table_suffixes_words : (Nat → Int64)} {v_hypothesis_size : Int32} {v_hypothesis_letters : Int32} {v_hypothesis_moves : (Nat → Int32)} {v_representatives : (Nat → Int32)} {v_o3_lieCount : Int32} {v_o3_machine_size : Int32} {v_o3_machine_letters : Int32} {v_o3_machine_moves : (Nat → Int32)} {v_o3_machine_finals : (Nat → Int32)} {v_o3_lies : (Nat → Int64)} {x : Int32 × (Nat → Int64) × Int32 × (Nat → Int64) × Int32 × Int32 × (Nat → Int64) × Int32 × Int32 × Int32} {x1 : Int64} {x4 : Int32} {x5 : Int32} {x6 : Int32} {x7 : Int32} {x8 : Int32} {s0 : Int32} (C0 : Cx p s m args c A D cI cJ cZ cO cX1_addSplit 12 RX1) (hQ : RtI p l e rm_Le_addSplit s m args below meth c Q A D cX1_addSplit .int (ws_Le_addSplit cI cJ cZ q_this q_asked q_table q_hypothesis q_representatives q_asked_entries q_table_prefixes q_table_suffixes q_table_known q_table_bits q_table_prefixes_words q_table_suffixes_words q_hypothesis_moves q_hypothesis_finals q_o3 q_o3_machine q_o3_lies q_o3_machine_moves q_o3_machine_finals v_mode v_budget x.2.2.2.2.2.2.2.2.2 v_counterexample v_corrections v_deceived x.2.2.1 x.2.1 v_table_letters x.2.2.2.2.1 x.2.2.2.2.2.1 x.2.2.2.1 x.2.2.2.2.2.2.2.1 x.2.2.2.2.2.2.2.2.1 x.2.2.2.2.2.2.1 v_hypothesis_size v_hypothesis_letters v_hypothesis_moves v_representatives v_o3_lieCount v_o3_machine_size v_o3_machine_letters v_o3_machine_moves v_o3_machine_finals v_o3_lies) x.1) {K : Int32 → Int32 → Int32 → (Nat → Int64) → Int32 → Option (Int32 × (Nat → Int64) × Int32 × (Nat → Int64) × Int32 × Int32 × (Nat → Int64) × Int32 × Int32 × Int32)} (hK : ∀ (y4 : Int32) (y5 : Int32) (y7 : Int32) (u_asked_entries : (Nat → Int64)) (u_asked_size : Int32) (H : Heap) (locs : List Loc) (ls : Array Slot), K y4 y5 y7 u_asked_entries u_asked_size = some x → Wd s A D (ws_Le_addSplit cI cJ cZ q_this q_asked q_table q_hypothesis q_representatives q_asked_entries q_table_prefixes q_table_suffixes q_table_known q_table_bits q_table_prefixes_words q_table_suffixes_words q_hypothesis_moves q_hypothesis_finals q_o3 q_o3_machine q_o3_lies q_o3_machine_moves q_o3_machine_finals v_mode v_budget v_formed v_counterexample v_corrections v_deceived u_asked_size u_asked_entries v_table_letters v_table_prefixes_size v_table_prefixes_longest v_table_prefixes_words v_table_suffixes_size v_table_suffixes_longest v_table_suffixes_words v_hypothesis_size v_hypothesis_letters v_hypothesis_moves v_representatives v_o3_lieCount v_o3_machine_size v_o3_machine_letters v_o3_machine_moves v_o3_machine_finals v_o3_lies) H locs → lv_has ls 12 [(0, .ref q_this), (1, .long x1), (5, .int y5)] → W p l e rm_Le_addSplit s m args below meth c H locs 0 0 Q (F0 m 119 ls [])) {rec : Int32 → Int32 → Int32 → (Nat → Int64) → Int32 → Option (Int32 × (Nat → Int64) × Int32 × (Nat → Int64) × Int32 × Int32 × (Nat → Int64) × Int32 × Int32 × Int32)} (hrec : ∀ (y4 : Int32) (y5 : Int32) (y7 : Int32) (u_asked_entries : (Nat → Int64)) (u_asked_size : Int32) (H : Heap) (locs : List Loc) (ls : Array Slot), rec y4 y5 y7 u_asked_entries u_asked_size = some x → Wd s A D (ws_Le_addSplit cI cJ cZ q_this q_asked q_table q_hypothesis q_representatives q_asked_entries q_table_prefixes q_table_suffixes q_table_known q_table_bits q_table_prefixes_words q_table_suffixes_words q_hypothesis_moves q_hypothesis_finals q_o3 q_o3_machine q_o3_lies q_o3_machine_moves q_o3_machine_finals v_mode v_budget v_formed v_counterexample v_corrections v_deceived u_asked_size u_asked_entries v_table_letters v_table_prefixes_size v_table_prefixes_longest v_table_prefixes_words v_table_suffixes_size v_table_suffixes_longest v_table_suffixes_words v_hypothesis_size v_hypothesis_letters v_hypothesis_moves v_representatives v_o3_lieCount v_o3_machine_size v_o3_machine_letters v_o3_machine_moves v_o3_machine_finals v_o3_lies) H locs → lv_has ls 12 [(0, .ref q_this), (1, .long x1), (3, .ref q_o3), (4, .int y4), (5, .int y5), (6, .int x6), (7, .int y7)] → W p l e rm_Le_addSplit s m args below meth c H locs 0 0 Q (F0 m 30 ls [])) {H : Heap} {locs : List Loc} {ls : Array Slot} (h : f_Le_addSplit_J85 rec x4 x5 x6 x7 x8 s0 v_formed v_asked_size v_asked_entries v_table_prefixes_size v_table_prefixes_longest v_table_prefixes_words v_table_suffixes_size v_table_suffixes_longest v_table_suffixes_words = some x) (w : Wd s A D (ws_Le_addSplit cI cJ cZ q_this q_asked q_table q_hypothesis q_representatives q_asked_entries q_table_prefixes q_table_suffixes q_table_known q_table_bits q_table_prefixes_words q_table_suffixes_words q_hypothesis_moves q_hypothesis_finals q_o3 q_o3_machine q_o3_lies q_o3_machine_moves q_o3_machine_finals v_mode v_budget v_formed v_counterexample v_corrections v_deceived v_asked_size v_asked_entries v_table_letters v_table_prefixes_size v_table_prefixes_longest v_table_prefixes_words v_table_suffixes_size v_table_suffixes_longest v_table_suffixes_words v_hypothesis_size v_hypothesis_letters v_hypothesis_moves v_representatives v_o3_lieCount v_o3_machine_size v_o3_machine_letters v_o3_machine_moves v_o3_machine_finals v_o3_lies) H locs) (hl : lv_has ls 12 [(0, .ref q_this), (1, .long x1), (3, .ref q_o3), (4, .int x4), (5, .int x5), (6, .int x6), (7, .int x7), (8, .int x8)]) : W p l e rm_Le_addSplit s m args below meth c H locs 0 0 Q (F0 m 85 ls [.int s0]) := by
  obtain ⟨hx, hb, hml, hown, hts, -, -⟩ := id C0
  unfold f_Le_addSplit_J85 at h
  refine lv_istore (lv' := [(11, .int s0), (0, .ref q_this), (1, .long x1), (3, .ref q_o3), (4, .int x4), (5, .int x5), (6, .int x6), (7, .int x7), (8, .int x8)]) hx hb dX1_addSplit_85 hl (by decide) rfl (fun ls hl => ?_)
  refine lv_iload hx hb dX1_addSplit_87 (lv_at hl 0 rfl) ?_
  refine lv_if_ge (tgt := 95) hx hb dX1_addSplit_89 (by decide) (fun hc => ?_) (fun hc => ?_)
  · have h := if_h hc h
    refine lv_iload hx hb dX1_addSplit_95 (lv_at hl 0 rfl) ?_
    refine lv_iload hx hb dX1_addSplit_97 (lv_at hl 6 rfl) ?_
    refine lv_icmp_ne (tgt := 109) hx hb dX1_addSplit_99 (by decide) (fun hc => ?_) (fun hc => ?_)
    · have h := nf_h hc h
      refine lv_iload hx hb dX1_addSplit_109 (lv_at hl 8 rfl) ?_
      refine lv_istore (lv' := [(5, .int x8), (11, .int s0), (0, .ref q_this), (1, .long x1), (3, .ref q_o3), (4, .int x4), (6, .int x6), (7, .int x7), (8, .int x8)]) hx hb dX1_addSplit_111 hl (by decide) rfl (fun ls hl => ?_)
      exact w_Le_addSplit_J113 C0 hQ hK hrec h w (lv_sub hl [2, 3, 4, 5, 0, 6, 7] rfl)
    · have h := if_h hc h
      refine lv_iload hx hb dX1_addSplit_102 (lv_at hl 8 rfl) ?_
      refine lv_istore (lv' := [(4, .int x8), (11, .int s0), (0, .ref q_this), (1, .long x1), (3, .ref q_o3), (5, .int x5), (6, .int x6), (7, .int x7), (8, .int x8)]) hx hb dX1_addSplit_104 hl (by decide) rfl (fun ls hl => ?_)
      refine lv_goto (tgt := 113) hx hb dX1_addSplit_106 (by decide) ?_
      exact w_Le_addSplit_J113 C0 hQ hK hrec h w (lv_sub hl [2, 3, 4, 0, 5, 6, 7] rfl)
  · have h := nf_h hc h
    refine lv_iload hx hb dX1_addSplit_92 (lv_at hl 0 rfl) ?_
    cases h
    exact hQ _ _ _ _ dX1_addSplit_94 rfl w
set_option maxRecDepth 100000 in
theorem w_Le_addSplit_L30 {p : Program} {l : Launch} {e : Env} {s : State} {m : MethodId} {args : Array Value} {below : List Frame} {meth : Method} {c : Code} {Q : State → Prop} {A : Nat → Prop} {D : va_G} {cI cJ cZ cO : ClassId} {q_this q_asked q_table q_hypothesis q_representatives q_asked_entries q_table_prefixes q_table_suffixes q_table_known q_table_bits q_table_prefixes_words q_table_suffixes_words q_hypothesis_moves q_hypothesis_finals q_o3 q_o3_machine q_o3_lies q_o3_machine_moves q_o3_machine_finals : Nat} {v_mode : Int32} {v_budget : Int32} {v_formed : Int32} {v_counterexample : Int64} {v_corrections : Int32} {v_deceived : Int32} {v_table_letters : Int32} {v_table_prefixes_size : Int32} {v_table_prefixes_longest : Int32} {v_table_prefixes_words : (Nat → Int64)} {v_table_suffixes_size : Int32} {v_table_suffixes_longest : Int32} {v_table_suffixes_words : (Nat → Int64)} {v_hypothesis_size : Int32} {v_hypothesis_letters : Int32} {v_hypothesis_moves : (Nat → Int32)} {v_representatives : (Nat → Int32)} {v_o3_lieCount : Int32} {v_o3_machine_size : Int32} {v_o3_machine_letters : Int32} {v_o3_machine_moves : (Nat → Int32)} {v_o3_machine_finals : (Nat → Int32)} {v_o3_lies : (Nat → Int64)} {x1 : Int64} {x6 : Int32} {x : Int32 × (Nat → Int64) × Int32 × (Nat → Int64) × Int32 × Int32 × (Nat → Int64) × Int32 × Int32 × Int32} (C0 : Cx p s m args c A D cI cJ cZ cO cX1_addSplit 12 RX1) (hQ : RtI p l e rm_Le_addSplit s m args below meth c Q A D cX1_addSplit .int (ws_Le_addSplit cI cJ cZ q_this q_asked q_table q_hypothesis q_representatives q_asked_entries q_table_prefixes q_table_suffixes q_table_known q_table_bits q_table_prefixes_words q_table_suffixes_words q_hypothesis_moves q_hypothesis_finals q_o3 q_o3_machine q_o3_lies q_o3_machine_moves q_o3_machine_finals v_mode v_budget x.2.2.2.2.2.2.2.2.2 v_counterexample v_corrections v_deceived x.2.2.1 x.2.1 v_table_letters x.2.2.2.2.1 x.2.2.2.2.2.1 x.2.2.2.1 x.2.2.2.2.2.2.2.1 x.2.2.2.2.2.2.2.2.1 x.2.2.2.2.2.2.1 v_hypothesis_size v_hypothesis_letters v_hypothesis_moves v_representatives v_o3_lieCount v_o3_machine_size v_o3_machine_letters v_o3_machine_moves v_o3_machine_finals v_o3_lies) x.1) {K : Int32 → Int32 → Int32 → (Nat → Int64) → Int32 → Option (Int32 × (Nat → Int64) × Int32 × (Nat → Int64) × Int32 × Int32 × (Nat → Int64) × Int32 × Int32 × Int32)} (hK : ∀ (x4 : Int32) (x5 : Int32) (x7 : Int32) (v_asked_entries : (Nat → Int64)) (v_asked_size : Int32) (H : Heap) (locs : List Loc) (ls : Array Slot), K x4 x5 x7 v_asked_entries v_asked_size = some x → Wd s A D (ws_Le_addSplit cI cJ cZ q_this q_asked q_table q_hypothesis q_representatives q_asked_entries q_table_prefixes q_table_suffixes q_table_known q_table_bits q_table_prefixes_words q_table_suffixes_words q_hypothesis_moves q_hypothesis_finals q_o3 q_o3_machine q_o3_lies q_o3_machine_moves q_o3_machine_finals v_mode v_budget v_formed v_counterexample v_corrections v_deceived v_asked_size v_asked_entries v_table_letters v_table_prefixes_size v_table_prefixes_longest v_table_prefixes_words v_table_suffixes_size v_table_suffixes_longest v_table_suffixes_words v_hypothesis_size v_hypothesis_letters v_hypothesis_moves v_representatives v_o3_lieCount v_o3_machine_size v_o3_machine_letters v_o3_machine_moves v_o3_machine_finals v_o3_lies) H locs → lv_has ls 12 [(0, .ref q_this), (1, .long x1), (5, .int x5)] → W p l e rm_Le_addSplit s m args below meth c H locs 0 0 Q (F0 m 119 ls [])) {rec : Int32 → Int32 → Int32 → (Nat → Int64) → Int32 → Option (Int32 × (Nat → Int64) × Int32 × (Nat → Int64) × Int32 × Int32 × (Nat → Int64) × Int32 × Int32 × Int32)} (hrec : ∀ (x4 : Int32) (x5 : Int32) (x7 : Int32) (v_asked_entries : (Nat → Int64)) (v_asked_size : Int32) (H : Heap) (locs : List Loc) (ls : Array Slot), rec x4 x5 x7 v_asked_entries v_asked_size = some x → Wd s A D (ws_Le_addSplit cI cJ cZ q_this q_asked q_table q_hypothesis q_representatives q_asked_entries q_table_prefixes q_table_suffixes q_table_known q_table_bits q_table_prefixes_words q_table_suffixes_words q_hypothesis_moves q_hypothesis_finals q_o3 q_o3_machine q_o3_lies q_o3_machine_moves q_o3_machine_finals v_mode v_budget v_formed v_counterexample v_corrections v_deceived v_asked_size v_asked_entries v_table_letters v_table_prefixes_size v_table_prefixes_longest v_table_prefixes_words v_table_suffixes_size v_table_suffixes_longest v_table_suffixes_words v_hypothesis_size v_hypothesis_letters v_hypothesis_moves v_representatives v_o3_lieCount v_o3_machine_size v_o3_machine_letters v_o3_machine_moves v_o3_machine_finals v_o3_lies) H locs → lv_has ls 12 [(0, .ref q_this), (1, .long x1), (3, .ref q_o3), (4, .int x4), (5, .int x5), (6, .int x6), (7, .int x7)] → W p l e rm_Le_addSplit s m args below meth c H locs 0 0 Q (F0 m 30 ls [])) (x4 : Int32) (x5 : Int32) (x7 : Int32) (v_asked_entries : (Nat → Int64)) (v_asked_size : Int32) {H : Heap} {locs : List Loc} {ls : Array Slot} (h : f_Le_addSplit_L30 v_budget v_formed v_table_prefixes_size v_table_prefixes_longest v_table_prefixes_words v_table_suffixes_size v_table_suffixes_longest v_table_suffixes_words v_hypothesis_moves v_representatives v_o3_lieCount v_o3_machine_moves v_o3_machine_finals v_o3_lies x1 x6 K rec x4 x5 x7 v_asked_entries v_asked_size = some x) (w : Wd s A D (ws_Le_addSplit cI cJ cZ q_this q_asked q_table q_hypothesis q_representatives q_asked_entries q_table_prefixes q_table_suffixes q_table_known q_table_bits q_table_prefixes_words q_table_suffixes_words q_hypothesis_moves q_hypothesis_finals q_o3 q_o3_machine q_o3_lies q_o3_machine_moves q_o3_machine_finals v_mode v_budget v_formed v_counterexample v_corrections v_deceived v_asked_size v_asked_entries v_table_letters v_table_prefixes_size v_table_prefixes_longest v_table_prefixes_words v_table_suffixes_size v_table_suffixes_longest v_table_suffixes_words v_hypothesis_size v_hypothesis_letters v_hypothesis_moves v_representatives v_o3_lieCount v_o3_machine_size v_o3_machine_letters v_o3_machine_moves v_o3_machine_finals v_o3_lies) H locs) (hl : lv_has ls 12 [(0, .ref q_this), (1, .long x1), (3, .ref q_o3), (4, .int x4), (5, .int x5), (6, .int x6), (7, .int x7)]) : W p l e rm_Le_addSplit s m args below meth c H locs 0 0 Q (F0 m 30 ls []) := by
  obtain ⟨hx, hb, hml, hown, hts, -, -⟩ := id C0
  unfold f_Le_addSplit_L30 at h
  refine lv_iload hx hb dX1_addSplit_30 (lv_at hl 6 rfl) ?_
  refine lv_bipush (v := (16 : Int32)) hx hb dX1_addSplit_32 (by decide) ?_
  refine lv_icmp_ge (tgt := 119) hx hb dX1_addSplit_34 (by decide) (fun hc => ?_) (fun hc => ?_)
  · have h := if_h hc h
    exact hK _ _ _ _ _ _ _ _ h w (lv_sub hl [0, 1, 4] rfl)
  · have h := nf_h hc h
    refine lv_iload hx hb dX1_addSplit_37 (lv_at hl 4 rfl) ?_
    refine lv_iload hx hb dX1_addSplit_39 (lv_at hl 3 rfl) ?_
    refine lv_isub hx hb dX1_addSplit_41 ?_
    refine lv_iconst (v := (1 : Int32)) hx hb dX1_addSplit_42 (by decide) ?_
    refine lv_icmp_le (tgt := 119) hx hb dX1_addSplit_43 (by decide) (fun hc => ?_) (fun hc => ?_)
    · have h := if_h hc h
      exact hK _ _ _ _ _ _ _ _ h w (lv_sub hl [0, 1, 4] rfl)
    · have h := nf_h hc h
      refine lv_iload hx hb dX1_addSplit_46 (lv_at hl 3 rfl) ?_
      refine lv_iload hx hb dX1_addSplit_48 (lv_at hl 4 rfl) ?_
      refine lv_iadd hx hb dX1_addSplit_50 ?_
      refine lv_iconst (v := (2 : Int32)) hx hb dX1_addSplit_51 (by decide) ?_
      refine lv_idiv hx hb dX1_addSplit_52 (by decide) ?_
      refine lv_topi (fun x8 ex8 => ?_)
      have h := bnd_at ex8 h
      refine lv_istore (lv' := [(8, .int x8), (0, .ref q_this), (1, .long x1), (3, .ref q_o3), (4, .int x4), (5, .int x5), (6, .int x6), (7, .int x7)]) hx hb dX1_addSplit_53 hl (by decide) rfl (fun ls hl => ?_)
      refine lv_aload_n hx hb dX1_addSplit_55 rfl (lv_at hl 1 rfl) ?_
      refine lv_lload_n hx hb dX1_addSplit_56 rfl (lv_at hl 2 rfl) ?_
      refine lv_iload hx hb dX1_addSplit_57 (lv_at hl 0 rfl) ?_
      obtain ⟨r, hcall, h⟩ := bd1_h h
      obtain ⟨wr, hp, hp'⟩ := rd_of (ws := (ws_Le_addSplit cI cJ cZ q_this q_asked q_table q_hypothesis q_representatives q_asked_entries q_table_prefixes q_table_suffixes q_table_known q_table_bits q_table_prefixes_words q_table_suffixes_words q_hypothesis_moves q_hypothesis_finals q_o3 q_o3_machine q_o3_lies q_o3_machine_moves q_o3_machine_finals v_mode v_budget v_formed v_counterexample v_corrections v_deceived v_asked_size v_asked_entries v_table_letters v_table_prefixes_size v_table_prefixes_longest v_table_prefixes_words v_table_suffixes_size v_table_suffixes_longest v_table_suffixes_words v_hypothesis_size v_hypothesis_letters v_hypothesis_moves v_representatives v_o3_lieCount v_o3_machine_size v_o3_machine_letters v_o3_machine_moves v_o3_machine_finals v_o3_lies)) (wc := (ws_Le_question cI cJ cZ q_this q_asked q_table q_hypothesis q_representatives q_table_prefixes q_table_suffixes q_table_known q_table_bits q_table_prefixes_words q_hypothesis_moves q_hypothesis_finals v_mode v_budget v_formed v_counterexample v_corrections v_deceived v_table_letters v_table_prefixes_size v_table_prefixes_longest v_table_prefixes_words v_hypothesis_size v_hypothesis_letters v_hypothesis_moves v_representatives)) [0, 3, 4, 5, 8, 9, 10] rfl rfl
      refine r_VJ (r := r) (As := [.long x1, .int x8]) (rest := []) (wc' := (ws_Le_question cI cJ cZ q_this q_asked q_table q_hypothesis q_representatives q_table_prefixes q_table_suffixes q_table_known q_table_bits q_table_prefixes_words q_hypothesis_moves q_hypothesis_finals v_mode v_budget v_formed v_counterexample v_corrections v_deceived v_table_letters v_table_prefixes_size v_table_prefixes_longest v_table_prefixes_words v_hypothesis_size v_hypothesis_letters v_hypothesis_moves v_representatives)) (ws' := (ws_Le_addSplit cI cJ cZ q_this q_asked q_table q_hypothesis q_representatives q_asked_entries q_table_prefixes q_table_suffixes q_table_known q_table_bits q_table_prefixes_words q_table_suffixes_words q_hypothesis_moves q_hypothesis_finals q_o3 q_o3_machine q_o3_lies q_o3_machine_moves q_o3_machine_finals v_mode v_budget v_formed v_counterexample v_corrections v_deceived v_asked_size v_asked_entries v_table_letters v_table_prefixes_size v_table_prefixes_longest v_table_prefixes_words v_table_suffixes_size v_table_suffixes_longest v_table_suffixes_words v_hypothesis_size v_hypothesis_letters v_hypothesis_moves v_representatives v_o3_lieCount v_o3_machine_size v_o3_machine_letters v_o3_machine_moves v_o3_machine_finals v_o3_lies)) C0 w (c_Le_question hcall) hp hp' lm_RX1_193 mv_Le_question ⟨rfl, rfl⟩ ⟨by decide, by decide⟩ ⟨Nat.zero_le _, Nat.zero_le _⟩ (q0 := 0) rfl rfl rfl rfl hl rfl (Nat.le_of_ble_eq_true rfl) dX1_addSplit_59 (fun H locs w => ?_)
      refine lv_lstore (lv' := [(9, .long r), (8, .int x8), (0, .ref q_this), (1, .long x1), (3, .ref q_o3), (4, .int x4), (5, .int x5), (6, .int x6), (7, .int x7)]) hx hb dX1_addSplit_62 hl (by decide) rfl (fun ls hl => ?_)
      refine lv_lload hx hb dX1_addSplit_64 (lv_at hl 0 rfl) ?_
      refine lv_ldc2 (v := (-1 : Int64)) hx hb hown (hts _ ll_RX1_49) dX1_addSplit_66 ?_
      refine r_lc_ne (tgt := 78) hx hb dX1_addSplit_69 dX1_addSplit_70 (by decide) (fun hc => ?_) (fun hc => ?_)
      · have h := nf_h hc h
        refine lv_aload_n hx hb dX1_addSplit_78 rfl (lv_at hl 2 rfl) ?_
        refine lv_lload hx hb dX1_addSplit_79 (lv_at hl 0 rfl) ?_
        refine lv_aload_n hx hb dX1_addSplit_81 rfl (lv_at hl 4 rfl) ?_
        obtain ⟨r_1, v_asked_entries_1, v_asked_size_1, hcall, h⟩ := bd3_h h
        have hp := sp_of (ws := (ws_Le_addSplit cI cJ cZ q_this q_asked q_table q_hypothesis q_representatives q_asked_entries q_table_prefixes q_table_suffixes q_table_known q_table_bits q_table_prefixes_words q_table_suffixes_words q_hypothesis_moves q_hypothesis_finals q_o3 q_o3_machine q_o3_lies q_o3_machine_moves q_o3_machine_finals v_mode v_budget v_formed v_counterexample v_corrections v_deceived v_asked_size v_asked_entries v_table_letters v_table_prefixes_size v_table_prefixes_longest v_table_prefixes_words v_table_suffixes_size v_table_suffixes_longest v_table_suffixes_words v_hypothesis_size v_hypothesis_letters v_hypothesis_moves v_representatives v_o3_lieCount v_o3_machine_size v_o3_machine_letters v_o3_machine_moves v_o3_machine_finals v_o3_lies)) (wc := (ws_Le_askAbout cI cJ cZ q_this q_asked q_table q_hypothesis q_representatives q_asked_entries q_o3 q_o3_machine q_o3_lies q_o3_machine_moves q_o3_machine_finals v_mode v_budget v_formed v_counterexample v_corrections v_deceived v_asked_size v_asked_entries v_o3_lieCount v_o3_machine_size v_o3_machine_letters v_o3_machine_moves v_o3_machine_finals v_o3_lies)) [0, 1, 2, 11, 12, 13, 14, 15] [3, 4, 5, 6, 7, 8, 9, 10] rfl rfl
        have hp' : Rp (pk (ws_Le_addSplit cI cJ cZ q_this q_asked q_table q_hypothesis q_representatives q_asked_entries q_table_prefixes q_table_suffixes q_table_known q_table_bits q_table_prefixes_words q_table_suffixes_words q_hypothesis_moves q_hypothesis_finals q_o3 q_o3_machine q_o3_lies q_o3_machine_moves q_o3_machine_finals v_mode v_budget v_formed v_counterexample v_corrections v_deceived v_asked_size v_asked_entries v_table_letters v_table_prefixes_size v_table_prefixes_longest v_table_prefixes_words v_table_suffixes_size v_table_suffixes_longest v_table_suffixes_words v_hypothesis_size v_hypothesis_letters v_hypothesis_moves v_representatives v_o3_lieCount v_o3_machine_size v_o3_machine_letters v_o3_machine_moves v_o3_machine_finals v_o3_lies) [3, 4, 5, 6, 7, 8, 9, 10] ++ (ws_Le_askAbout cI cJ cZ q_this q_asked q_table q_hypothesis q_representatives q_asked_entries q_o3 q_o3_machine q_o3_lies q_o3_machine_moves q_o3_machine_finals v_mode v_budget v_formed v_counterexample v_corrections v_deceived v_asked_size_1 v_asked_entries_1 v_o3_lieCount v_o3_machine_size v_o3_machine_letters v_o3_machine_moves v_o3_machine_finals v_o3_lies)) (ws_Le_addSplit cI cJ cZ q_this q_asked q_table q_hypothesis q_representatives q_asked_entries q_table_prefixes q_table_suffixes q_table_known q_table_bits q_table_prefixes_words q_table_suffixes_words q_hypothesis_moves q_hypothesis_finals q_o3 q_o3_machine q_o3_lies q_o3_machine_moves q_o3_machine_finals v_mode v_budget v_formed v_counterexample v_corrections v_deceived v_asked_size_1 v_asked_entries_1 v_table_letters v_table_prefixes_size v_table_prefixes_longest v_table_prefixes_words v_table_suffixes_size v_table_suffixes_longest v_table_suffixes_words v_hypothesis_size v_hypothesis_letters v_hypothesis_moves v_representatives v_o3_lieCount v_o3_machine_size v_o3_machine_letters v_o3_machine_moves v_o3_machine_finals v_o3_lies) := ⟨[8, 9, 10, 0, 1, 2, 3, 4, 5, 6, 7, 11, 12, 13, 14, 15], rfl, rfl⟩
        refine r_VI (r := r_1) (As := [.long r, .ref q_o3]) (rest := []) (wc' := (ws_Le_askAbout cI cJ cZ q_this q_asked q_table q_hypothesis q_representatives q_asked_entries q_o3 q_o3_machine q_o3_lies q_o3_machine_moves q_o3_machine_finals v_mode v_budget v_formed v_counterexample v_corrections v_deceived v_asked_size_1 v_asked_entries_1 v_o3_lieCount v_o3_machine_size v_o3_machine_letters v_o3_machine_moves v_o3_machine_finals v_o3_lies)) (ws' := (ws_Le_addSplit cI cJ cZ q_this q_asked q_table q_hypothesis q_representatives q_asked_entries q_table_prefixes q_table_suffixes q_table_known q_table_bits q_table_prefixes_words q_table_suffixes_words q_hypothesis_moves q_hypothesis_finals q_o3 q_o3_machine q_o3_lies q_o3_machine_moves q_o3_machine_finals v_mode v_budget v_formed v_counterexample v_corrections v_deceived v_asked_size_1 v_asked_entries_1 v_table_letters v_table_prefixes_size v_table_prefixes_longest v_table_prefixes_words v_table_suffixes_size v_table_suffixes_longest v_table_suffixes_words v_hypothesis_size v_hypothesis_letters v_hypothesis_moves v_representatives v_o3_lieCount v_o3_machine_size v_o3_machine_letters v_o3_machine_moves v_o3_machine_finals v_o3_lies)) C0 w (c_Le_askAbout hcall) hp hp' lm_RX1_87 mv_Le_askAbout ⟨rfl, rfl⟩ ⟨by decide, by decide⟩ ⟨Nat.zero_le _, Nat.zero_le _⟩ (q0 := 0) rfl rfl rfl rfl hl rfl (Nat.le_of_ble_eq_true rfl) dX1_addSplit_82 (fun H locs w => ?_)
        exact w_Le_addSplit_J85 C0 hQ hK hrec h w (lv_sub hl [2, 3, 4, 5, 6, 7, 8, 1] rfl)
      · have h := if_h hc h
        refine lv_bipush (v := (-5 : Int32)) hx hb dX1_addSplit_73 (by decide) ?_
        refine lv_goto (tgt := 85) hx hb dX1_addSplit_75 (by decide) ?_
        exact w_Le_addSplit_J85 C0 hQ hK hrec h w (lv_sub hl [2, 3, 4, 5, 6, 7, 8, 1] rfl)
set_option maxRecDepth 100000 in
theorem wl_Le_addSplit_L30 {p : Program} {l : Launch} {e : Env} {s : State} {m : MethodId} {args : Array Value} {below : List Frame} {meth : Method} {c : Code} {Q : State → Prop} {A : Nat → Prop} {D : va_G} {cI cJ cZ cO : ClassId} {q_this q_asked q_table q_hypothesis q_representatives q_asked_entries q_table_prefixes q_table_suffixes q_table_known q_table_bits q_table_prefixes_words q_table_suffixes_words q_hypothesis_moves q_hypothesis_finals q_o3 q_o3_machine q_o3_lies q_o3_machine_moves q_o3_machine_finals : Nat} {v_mode : Int32} {v_budget : Int32} {v_formed : Int32} {v_counterexample : Int64} {v_corrections : Int32} {v_deceived : Int32} {v_table_letters : Int32} {v_table_prefixes_size : Int32} {v_table_prefixes_longest : Int32} {v_table_prefixes_words : (Nat → Int64)} {v_table_suffixes_size : Int32} {v_table_suffixes_longest : Int32} {v_table_suffixes_words : (Nat → Int64)} {v_hypothesis_size : Int32} {v_hypothesis_letters : Int32} {v_hypothesis_moves : (Nat → Int32)} {v_representatives : (Nat → Int32)} {v_o3_lieCount : Int32} {v_o3_machine_size : Int32} {v_o3_machine_letters : Int32} {v_o3_machine_moves : (Nat → Int32)} {v_o3_machine_finals : (Nat → Int32)} {v_o3_lies : (Nat → Int64)} {x1 : Int64} {x6 : Int32} {x : Int32 × (Nat → Int64) × Int32 × (Nat → Int64) × Int32 × Int32 × (Nat → Int64) × Int32 × Int32 × Int32} (C0 : Cx p s m args c A D cI cJ cZ cO cX1_addSplit 12 RX1) (hQ : RtI p l e rm_Le_addSplit s m args below meth c Q A D cX1_addSplit .int (ws_Le_addSplit cI cJ cZ q_this q_asked q_table q_hypothesis q_representatives q_asked_entries q_table_prefixes q_table_suffixes q_table_known q_table_bits q_table_prefixes_words q_table_suffixes_words q_hypothesis_moves q_hypothesis_finals q_o3 q_o3_machine q_o3_lies q_o3_machine_moves q_o3_machine_finals v_mode v_budget x.2.2.2.2.2.2.2.2.2 v_counterexample v_corrections v_deceived x.2.2.1 x.2.1 v_table_letters x.2.2.2.2.1 x.2.2.2.2.2.1 x.2.2.2.1 x.2.2.2.2.2.2.2.1 x.2.2.2.2.2.2.2.2.1 x.2.2.2.2.2.2.1 v_hypothesis_size v_hypothesis_letters v_hypothesis_moves v_representatives v_o3_lieCount v_o3_machine_size v_o3_machine_letters v_o3_machine_moves v_o3_machine_finals v_o3_lies) x.1) {K : Int32 → Int32 → Int32 → (Nat → Int64) → Int32 → Option (Int32 × (Nat → Int64) × Int32 × (Nat → Int64) × Int32 × Int32 × (Nat → Int64) × Int32 × Int32 × Int32)} (hK : ∀ (x4 : Int32) (x5 : Int32) (x7 : Int32) (v_asked_entries : (Nat → Int64)) (v_asked_size : Int32) (H : Heap) (locs : List Loc) (ls : Array Slot), K x4 x5 x7 v_asked_entries v_asked_size = some x → Wd s A D (ws_Le_addSplit cI cJ cZ q_this q_asked q_table q_hypothesis q_representatives q_asked_entries q_table_prefixes q_table_suffixes q_table_known q_table_bits q_table_prefixes_words q_table_suffixes_words q_hypothesis_moves q_hypothesis_finals q_o3 q_o3_machine q_o3_lies q_o3_machine_moves q_o3_machine_finals v_mode v_budget v_formed v_counterexample v_corrections v_deceived v_asked_size v_asked_entries v_table_letters v_table_prefixes_size v_table_prefixes_longest v_table_prefixes_words v_table_suffixes_size v_table_suffixes_longest v_table_suffixes_words v_hypothesis_size v_hypothesis_letters v_hypothesis_moves v_representatives v_o3_lieCount v_o3_machine_size v_o3_machine_letters v_o3_machine_moves v_o3_machine_finals v_o3_lies) H locs → lv_has ls 12 [(0, .ref q_this), (1, .long x1), (5, .int x5)] → W p l e rm_Le_addSplit s m args below meth c H locs 0 0 Q (F0 m 119 ls [])) : ∀ (n : Nat) (x4 : Int32) (x5 : Int32) (x7 : Int32) (v_asked_entries : (Nat → Int64)) (v_asked_size : Int32) (H : Heap) (locs : List Loc) (ls : Array Slot), itr (fun _ _ _ _ _ => none) (f_Le_addSplit_L30 v_budget v_formed v_table_prefixes_size v_table_prefixes_longest v_table_prefixes_words v_table_suffixes_size v_table_suffixes_longest v_table_suffixes_words v_hypothesis_moves v_representatives v_o3_lieCount v_o3_machine_moves v_o3_machine_finals v_o3_lies x1 x6 K) n x4 x5 x7 v_asked_entries v_asked_size = some x → Wd s A D (ws_Le_addSplit cI cJ cZ q_this q_asked q_table q_hypothesis q_representatives q_asked_entries q_table_prefixes q_table_suffixes q_table_known q_table_bits q_table_prefixes_words q_table_suffixes_words q_hypothesis_moves q_hypothesis_finals q_o3 q_o3_machine q_o3_lies q_o3_machine_moves q_o3_machine_finals v_mode v_budget v_formed v_counterexample v_corrections v_deceived v_asked_size v_asked_entries v_table_letters v_table_prefixes_size v_table_prefixes_longest v_table_prefixes_words v_table_suffixes_size v_table_suffixes_longest v_table_suffixes_words v_hypothesis_size v_hypothesis_letters v_hypothesis_moves v_representatives v_o3_lieCount v_o3_machine_size v_o3_machine_letters v_o3_machine_moves v_o3_machine_finals v_o3_lies) H locs → lv_has ls 12 [(0, .ref q_this), (1, .long x1), (3, .ref q_o3), (4, .int x4), (5, .int x5), (6, .int x6), (7, .int x7)] → W p l e rm_Le_addSplit s m args below meth c H locs 0 0 Q (F0 m 30 ls []) := by
  intro n
  induction n with
  | zero => intro _ _ _ _ _ _ _ _ h; cases (show none = some _ from h)
  | succ n ih => intro _ _ _ _ _ _ _ _ h w hl; exact w_Le_addSplit_L30 C0 hQ hK ih _ _ _ _ _ h w hl
set_option maxRecDepth 100000 in
theorem c_Le_addSplit {l : Launch} {D : va_G} {cI cJ cZ cO : ClassId} {q_this q_asked q_table q_hypothesis q_representatives q_asked_entries q_table_prefixes q_table_suffixes q_table_known q_table_bits q_table_prefixes_words q_table_suffixes_words q_hypothesis_moves q_hypothesis_finals q_o3 q_o3_machine q_o3_lies q_o3_machine_moves q_o3_machine_finals : Nat} {x1 : Int64} {v_mode : Int32} {v_budget : Int32} {v_formed : Int32} {v_counterexample : Int64} {v_corrections : Int32} {v_deceived : Int32} {v_asked_size : Int32} {v_asked_entries : (Nat → Int64)} {v_table_letters : Int32} {v_table_prefixes_size : Int32} {v_table_prefixes_longest : Int32} {v_table_prefixes_words : (Nat → Int64)} {v_table_suffixes_size : Int32} {v_table_suffixes_longest : Int32} {v_table_suffixes_words : (Nat → Int64)} {v_hypothesis_size : Int32} {v_hypothesis_letters : Int32} {v_hypothesis_moves : (Nat → Int32)} {v_representatives : (Nat → Int32)} {v_o3_lieCount : Int32} {v_o3_machine_size : Int32} {v_o3_machine_letters : Int32} {v_o3_machine_moves : (Nat → Int32)} {v_o3_machine_finals : (Nat → Int32)} {v_o3_lies : (Nat → Int64)} {x : Int32 × (Nat → Int64) × Int32 × (Nat → Int64) × Int32 × Int32 × (Nat → Int64) × Int32 × Int32 × Int32} (h : f_Le_addSplit x1 v_budget v_formed v_asked_size v_asked_entries v_table_prefixes_size v_table_prefixes_longest v_table_prefixes_words v_table_suffixes_size v_table_suffixes_longest v_table_suffixes_words v_hypothesis_moves v_representatives v_o3_lieCount v_o3_machine_moves v_o3_machine_finals v_o3_lies = some x) : ctI l D cI cJ cZ cO yX1_addSplit cX1_addSplit 12 .int rm_Le_addSplit [.ref q_this, .long x1, .ref q_o3] (ws_Le_addSplit cI cJ cZ q_this q_asked q_table q_hypothesis q_representatives q_asked_entries q_table_prefixes q_table_suffixes q_table_known q_table_bits q_table_prefixes_words q_table_suffixes_words q_hypothesis_moves q_hypothesis_finals q_o3 q_o3_machine q_o3_lies q_o3_machine_moves q_o3_machine_finals v_mode v_budget v_formed v_counterexample v_corrections v_deceived v_asked_size v_asked_entries v_table_letters v_table_prefixes_size v_table_prefixes_longest v_table_prefixes_words v_table_suffixes_size v_table_suffixes_longest v_table_suffixes_words v_hypothesis_size v_hypothesis_letters v_hypothesis_moves v_representatives v_o3_lieCount v_o3_machine_size v_o3_machine_letters v_o3_machine_moves v_o3_machine_finals v_o3_lies) (ws_Le_addSplit cI cJ cZ q_this q_asked q_table q_hypothesis q_representatives q_asked_entries q_table_prefixes q_table_suffixes q_table_known q_table_bits q_table_prefixes_words q_table_suffixes_words q_hypothesis_moves q_hypothesis_finals q_o3 q_o3_machine q_o3_lies q_o3_machine_moves q_o3_machine_finals v_mode v_budget x.2.2.2.2.2.2.2.2.2 v_counterexample v_corrections v_deceived x.2.2.1 x.2.1 v_table_letters x.2.2.2.2.1 x.2.2.2.2.2.1 x.2.2.2.1 x.2.2.2.2.2.2.2.1 x.2.2.2.2.2.2.2.2.1 x.2.2.2.2.2.2.1 v_hypothesis_size v_hypothesis_letters v_hypothesis_moves v_representatives v_o3_lieCount v_o3_machine_size v_o3_machine_letters v_o3_machine_moves v_o3_machine_finals v_o3_lies) x.1 := by
  refine ctI_of (by decide) (Nat.le_of_ble_eq_true rfl) ?_
  intro p e s m below meth c Q A ls C0 hQ w hl
  have hl : lv_has ls 12 [(0, .ref q_this), (1, .long x1), (3, .ref q_o3)] := hl
  generalize List.toArray (α := Value) [.ref q_this, .long x1, .ref q_o3] = args at C0 hQ ⊢
  obtain ⟨hx, hb, hml, hown, hts, -, -⟩ := id C0
  unfold f_Le_addSplit at h
  refine lv_iconst (v := (0 : Int32)) hx hb dX1_addSplit_0 (by decide) ?_
  refine lv_istore (lv' := [(4, .int (0 : Int32)), (0, .ref q_this), (1, .long x1), (3, .ref q_o3)]) hx hb dX1_addSplit_1 hl (by decide) rfl (fun ls hl => ?_)
  refine lv_lload_n hx hb dX1_addSplit_3 rfl (lv_at hl 2 rfl) ?_
  obtain ⟨r, hcall, h⟩ := bd1_h h
  obtain ⟨wr, hp, hp'⟩ := rd_of (ws := (ws_Le_addSplit cI cJ cZ q_this q_asked q_table q_hypothesis q_representatives q_asked_entries q_table_prefixes q_table_suffixes q_table_known q_table_bits q_table_prefixes_words q_table_suffixes_words q_hypothesis_moves q_hypothesis_finals q_o3 q_o3_machine q_o3_lies q_o3_machine_moves q_o3_machine_finals v_mode v_budget v_formed v_counterexample v_corrections v_deceived v_asked_size v_asked_entries v_table_letters v_table_prefixes_size v_table_prefixes_longest v_table_prefixes_words v_table_suffixes_size v_table_suffixes_longest v_table_suffixes_words v_hypothesis_size v_hypothesis_letters v_hypothesis_moves v_representatives v_o3_lieCount v_o3_machine_size v_o3_machine_letters v_o3_machine_moves v_o3_machine_finals v_o3_lies)) (wc := (ws_Ws_lengthOf cI cJ cZ)) [] rfl rfl
  refine r_SI (r := r) (As := [.long x1]) (rest := []) (wc' := (ws_Ws_lengthOf cI cJ cZ)) (ws' := (ws_Le_addSplit cI cJ cZ q_this q_asked q_table q_hypothesis q_representatives q_asked_entries q_table_prefixes q_table_suffixes q_table_known q_table_bits q_table_prefixes_words q_table_suffixes_words q_hypothesis_moves q_hypothesis_finals q_o3 q_o3_machine q_o3_lies q_o3_machine_moves q_o3_machine_finals v_mode v_budget v_formed v_counterexample v_corrections v_deceived v_asked_size v_asked_entries v_table_letters v_table_prefixes_size v_table_prefixes_longest v_table_prefixes_words v_table_suffixes_size v_table_suffixes_longest v_table_suffixes_words v_hypothesis_size v_hypothesis_letters v_hypothesis_moves v_representatives v_o3_lieCount v_o3_machine_size v_o3_machine_letters v_o3_machine_moves v_o3_machine_finals v_o3_lies)) C0 w (c_Ws_lengthOf hcall) hp hp' lm_RX1_169 ms_Ws_lengthOf ⟨rfl, rfl⟩ ⟨by decide, by decide⟩ ⟨Nat.zero_le _, Nat.zero_le _⟩ rfl hl rfl (Nat.le_of_ble_eq_true rfl) dX1_addSplit_4 (fun H locs w => ?_)
  refine lv_istore (lv' := [(5, .int r), (4, .int (0 : Int32)), (0, .ref q_this), (1, .long x1), (3, .ref q_o3)]) hx hb dX1_addSplit_7 hl (by decide) rfl (fun ls hl => ?_)
  refine lv_aload_n hx hb dX1_addSplit_9 rfl (lv_at hl 2 rfl) ?_
  refine lv_lload_n hx hb dX1_addSplit_10 rfl (lv_at hl 3 rfl) ?_
  refine lv_aload_n hx hb dX1_addSplit_11 rfl (lv_at hl 4 rfl) ?_
  obtain ⟨r_1, v_asked_entries_1, v_asked_size_1, hcall, h⟩ := bd3_h h
  have hp := sp_of (ws := (ws_Le_addSplit cI cJ cZ q_this q_asked q_table q_hypothesis q_representatives q_asked_entries q_table_prefixes q_table_suffixes q_table_known q_table_bits q_table_prefixes_words q_table_suffixes_words q_hypothesis_moves q_hypothesis_finals q_o3 q_o3_machine q_o3_lies q_o3_machine_moves q_o3_machine_finals v_mode v_budget v_formed v_counterexample v_corrections v_deceived v_asked_size v_asked_entries v_table_letters v_table_prefixes_size v_table_prefixes_longest v_table_prefixes_words v_table_suffixes_size v_table_suffixes_longest v_table_suffixes_words v_hypothesis_size v_hypothesis_letters v_hypothesis_moves v_representatives v_o3_lieCount v_o3_machine_size v_o3_machine_letters v_o3_machine_moves v_o3_machine_finals v_o3_lies)) (wc := (ws_Le_askAbout cI cJ cZ q_this q_asked q_table q_hypothesis q_representatives q_asked_entries q_o3 q_o3_machine q_o3_lies q_o3_machine_moves q_o3_machine_finals v_mode v_budget v_formed v_counterexample v_corrections v_deceived v_asked_size v_asked_entries v_o3_lieCount v_o3_machine_size v_o3_machine_letters v_o3_machine_moves v_o3_machine_finals v_o3_lies)) [0, 1, 2, 11, 12, 13, 14, 15] [3, 4, 5, 6, 7, 8, 9, 10] rfl rfl
  have hp' : Rp (pk (ws_Le_addSplit cI cJ cZ q_this q_asked q_table q_hypothesis q_representatives q_asked_entries q_table_prefixes q_table_suffixes q_table_known q_table_bits q_table_prefixes_words q_table_suffixes_words q_hypothesis_moves q_hypothesis_finals q_o3 q_o3_machine q_o3_lies q_o3_machine_moves q_o3_machine_finals v_mode v_budget v_formed v_counterexample v_corrections v_deceived v_asked_size v_asked_entries v_table_letters v_table_prefixes_size v_table_prefixes_longest v_table_prefixes_words v_table_suffixes_size v_table_suffixes_longest v_table_suffixes_words v_hypothesis_size v_hypothesis_letters v_hypothesis_moves v_representatives v_o3_lieCount v_o3_machine_size v_o3_machine_letters v_o3_machine_moves v_o3_machine_finals v_o3_lies) [3, 4, 5, 6, 7, 8, 9, 10] ++ (ws_Le_askAbout cI cJ cZ q_this q_asked q_table q_hypothesis q_representatives q_asked_entries q_o3 q_o3_machine q_o3_lies q_o3_machine_moves q_o3_machine_finals v_mode v_budget v_formed v_counterexample v_corrections v_deceived v_asked_size_1 v_asked_entries_1 v_o3_lieCount v_o3_machine_size v_o3_machine_letters v_o3_machine_moves v_o3_machine_finals v_o3_lies)) (ws_Le_addSplit cI cJ cZ q_this q_asked q_table q_hypothesis q_representatives q_asked_entries q_table_prefixes q_table_suffixes q_table_known q_table_bits q_table_prefixes_words q_table_suffixes_words q_hypothesis_moves q_hypothesis_finals q_o3 q_o3_machine q_o3_lies q_o3_machine_moves q_o3_machine_finals v_mode v_budget v_formed v_counterexample v_corrections v_deceived v_asked_size_1 v_asked_entries_1 v_table_letters v_table_prefixes_size v_table_prefixes_longest v_table_prefixes_words v_table_suffixes_size v_table_suffixes_longest v_table_suffixes_words v_hypothesis_size v_hypothesis_letters v_hypothesis_moves v_representatives v_o3_lieCount v_o3_machine_size v_o3_machine_letters v_o3_machine_moves v_o3_machine_finals v_o3_lies) := ⟨[8, 9, 10, 0, 1, 2, 3, 4, 5, 6, 7, 11, 12, 13, 14, 15], rfl, rfl⟩
  refine r_VI (r := r_1) (As := [.long x1, .ref q_o3]) (rest := []) (wc' := (ws_Le_askAbout cI cJ cZ q_this q_asked q_table q_hypothesis q_representatives q_asked_entries q_o3 q_o3_machine q_o3_lies q_o3_machine_moves q_o3_machine_finals v_mode v_budget v_formed v_counterexample v_corrections v_deceived v_asked_size_1 v_asked_entries_1 v_o3_lieCount v_o3_machine_size v_o3_machine_letters v_o3_machine_moves v_o3_machine_finals v_o3_lies)) (ws' := (ws_Le_addSplit cI cJ cZ q_this q_asked q_table q_hypothesis q_representatives q_asked_entries q_table_prefixes q_table_suffixes q_table_known q_table_bits q_table_prefixes_words q_table_suffixes_words q_hypothesis_moves q_hypothesis_finals q_o3 q_o3_machine q_o3_lies q_o3_machine_moves q_o3_machine_finals v_mode v_budget v_formed v_counterexample v_corrections v_deceived v_asked_size_1 v_asked_entries_1 v_table_letters v_table_prefixes_size v_table_prefixes_longest v_table_prefixes_words v_table_suffixes_size v_table_suffixes_longest v_table_suffixes_words v_hypothesis_size v_hypothesis_letters v_hypothesis_moves v_representatives v_o3_lieCount v_o3_machine_size v_o3_machine_letters v_o3_machine_moves v_o3_machine_finals v_o3_lies)) C0 w (c_Le_askAbout hcall) hp hp' lm_RX1_87 mv_Le_askAbout ⟨rfl, rfl⟩ ⟨by decide, by decide⟩ ⟨Nat.zero_le _, Nat.zero_le _⟩ (q0 := 0) rfl rfl rfl rfl hl rfl (Nat.le_of_ble_eq_true rfl) dX1_addSplit_12 (fun H locs w => ?_)
  refine lv_istore (lv' := [(6, .int r_1), (5, .int r), (4, .int (0 : Int32)), (0, .ref q_this), (1, .long x1), (3, .ref q_o3)]) hx hb dX1_addSplit_15 hl (by decide) rfl (fun ls hl => ?_)
  refine lv_iload hx hb dX1_addSplit_17 (lv_at hl 0 rfl) ?_
  refine lv_bipush (v := (-4 : Int32)) hx hb dX1_addSplit_19 (by decide) ?_
  refine lv_icmp_ne (tgt := 27) hx hb dX1_addSplit_21 (by decide) (fun hc => ?_) (fun hc => ?_)
  · have h := nf_h hc h
    refine lv_iconst (v := (0 : Int32)) hx hb dX1_addSplit_27 (by decide) ?_
    refine lv_istore (lv' := [(7, .int (0 : Int32)), (6, .int r_1), (5, .int r), (4, .int (0 : Int32)), (0, .ref q_this), (1, .long x1), (3, .ref q_o3)]) hx hb dX1_addSplit_28 hl (by decide) rfl (fun ls hl => ?_)
    refine wl_Le_addSplit_L30 C0 hQ (fun x4 x5 x7 v_asked_entries_2 v_asked_size_2 H locs ls h w hl => ?_) _ _ _ _ _ _ _ _ _ h w (lv_sub hl [4, 5, 6, 3, 2, 1, 0] rfl)
    refine lv_aload_n hx hb dX1_addSplit_119 rfl (lv_at hl 0 rfl) ?_
    refine lv_iconst (v := (1 : Int32)) hx hb dX1_addSplit_120 (by decide) ?_
    refine lv_lload_n hx hb dX1_addSplit_121 rfl (lv_at hl 1 rfl) ?_
    refine lv_iload hx hb dX1_addSplit_122 (lv_at hl 2 rfl) ?_
    obtain ⟨r_2, hcall, h⟩ := bd1_h h
    obtain ⟨wr, hp, hp'⟩ := rd_of (ws := (ws_Le_addSplit cI cJ cZ q_this q_asked q_table q_hypothesis q_representatives q_asked_entries q_table_prefixes q_table_suffixes q_table_known q_table_bits q_table_prefixes_words q_table_suffixes_words q_hypothesis_moves q_hypothesis_finals q_o3 q_o3_machine q_o3_lies q_o3_machine_moves q_o3_machine_finals v_mode v_budget v_formed v_counterexample v_corrections v_deceived v_asked_size_2 v_asked_entries_2 v_table_letters v_table_prefixes_size v_table_prefixes_longest v_table_prefixes_words v_table_suffixes_size v_table_suffixes_longest v_table_suffixes_words v_hypothesis_size v_hypothesis_letters v_hypothesis_moves v_representatives v_o3_lieCount v_o3_machine_size v_o3_machine_letters v_o3_machine_moves v_o3_machine_finals v_o3_lies)) (wc := (ws_Ws_tailFrom cI cJ cZ)) [] rfl rfl
    refine r_SJ (r := r_2) (As := [.long x1, .int x5]) (rest := [.int (1 : Int32), .ref q_this]) (wc' := (ws_Ws_tailFrom cI cJ cZ)) (ws' := (ws_Le_addSplit cI cJ cZ q_this q_asked q_table q_hypothesis q_representatives q_asked_entries q_table_prefixes q_table_suffixes q_table_known q_table_bits q_table_prefixes_words q_table_suffixes_words q_hypothesis_moves q_hypothesis_finals q_o3 q_o3_machine q_o3_lies q_o3_machine_moves q_o3_machine_finals v_mode v_budget v_formed v_counterexample v_corrections v_deceived v_asked_size_2 v_asked_entries_2 v_table_letters v_table_prefixes_size v_table_prefixes_longest v_table_prefixes_words v_table_suffixes_size v_table_suffixes_longest v_table_suffixes_words v_hypothesis_size v_hypothesis_letters v_hypothesis_moves v_representatives v_o3_lieCount v_o3_machine_size v_o3_machine_letters v_o3_machine_moves v_o3_machine_finals v_o3_lies)) C0 w (c_Ws_tailFrom hcall) hp hp' lm_RX1_186 ms_Ws_tailFrom ⟨rfl, rfl⟩ ⟨by decide, by decide⟩ ⟨Nat.zero_le _, Nat.zero_le _⟩ rfl hl rfl (Nat.le_of_ble_eq_true rfl) dX1_addSplit_124 (fun H locs w => ?_)
    obtain ⟨r_3, v_table_prefixes_words_1, v_table_prefixes_size_1, v_table_prefixes_longest_1, v_table_suffixes_words_1, v_table_suffixes_size_1, v_table_suffixes_longest_1, v_formed_1, hcall, h⟩ := bd8_h h
    have hp := sp_of (ws := (ws_Le_addSplit cI cJ cZ q_this q_asked q_table q_hypothesis q_representatives q_asked_entries q_table_prefixes q_table_suffixes q_table_known q_table_bits q_table_prefixes_words q_table_suffixes_words q_hypothesis_moves q_hypothesis_finals q_o3 q_o3_machine q_o3_lies q_o3_machine_moves q_o3_machine_finals v_mode v_budget v_formed v_counterexample v_corrections v_deceived v_asked_size_2 v_asked_entries_2 v_table_letters v_table_prefixes_size v_table_prefixes_longest v_table_prefixes_words v_table_suffixes_size v_table_suffixes_longest v_table_suffixes_words v_hypothesis_size v_hypothesis_letters v_hypothesis_moves v_representatives v_o3_lieCount v_o3_machine_size v_o3_machine_letters v_o3_machine_moves v_o3_machine_finals v_o3_lies)) (wc := (ws_Le_addWord cI cJ cZ q_this q_asked q_table q_hypothesis q_representatives q_table_prefixes q_table_suffixes q_table_known q_table_bits q_table_prefixes_words q_table_suffixes_words v_mode v_budget v_formed v_counterexample v_corrections v_deceived v_table_letters v_table_prefixes_size v_table_prefixes_longest v_table_prefixes_words v_table_suffixes_size v_table_suffixes_longest v_table_suffixes_words)) [0, 3, 4, 5, 6, 7] [1, 2, 8, 9, 10, 11, 12, 13, 14, 15] rfl rfl
    have hp' : Rp (pk (ws_Le_addSplit cI cJ cZ q_this q_asked q_table q_hypothesis q_representatives q_asked_entries q_table_prefixes q_table_suffixes q_table_known q_table_bits q_table_prefixes_words q_table_suffixes_words q_hypothesis_moves q_hypothesis_finals q_o3 q_o3_machine q_o3_lies q_o3_machine_moves q_o3_machine_finals v_mode v_budget v_formed v_counterexample v_corrections v_deceived v_asked_size_2 v_asked_entries_2 v_table_letters v_table_prefixes_size v_table_prefixes_longest v_table_prefixes_words v_table_suffixes_size v_table_suffixes_longest v_table_suffixes_words v_hypothesis_size v_hypothesis_letters v_hypothesis_moves v_representatives v_o3_lieCount v_o3_machine_size v_o3_machine_letters v_o3_machine_moves v_o3_machine_finals v_o3_lies) [1, 2, 8, 9, 10, 11, 12, 13, 14, 15] ++ (ws_Le_addWord cI cJ cZ q_this q_asked q_table q_hypothesis q_representatives q_table_prefixes q_table_suffixes q_table_known q_table_bits q_table_prefixes_words q_table_suffixes_words v_mode v_budget v_formed_1 v_counterexample v_corrections v_deceived v_table_letters v_table_prefixes_size_1 v_table_prefixes_longest_1 v_table_prefixes_words_1 v_table_suffixes_size_1 v_table_suffixes_longest_1 v_table_suffixes_words_1)) (ws_Le_addSplit cI cJ cZ q_this q_asked q_table q_hypothesis q_representatives q_asked_entries q_table_prefixes q_table_suffixes q_table_known q_table_bits q_table_prefixes_words q_table_suffixes_words q_hypothesis_moves q_hypothesis_finals q_o3 q_o3_machine q_o3_lies q_o3_machine_moves q_o3_machine_finals v_mode v_budget v_formed_1 v_counterexample v_corrections v_deceived v_asked_size_2 v_asked_entries_2 v_table_letters v_table_prefixes_size_1 v_table_prefixes_longest_1 v_table_prefixes_words_1 v_table_suffixes_size_1 v_table_suffixes_longest_1 v_table_suffixes_words_1 v_hypothesis_size v_hypothesis_letters v_hypothesis_moves v_representatives v_o3_lieCount v_o3_machine_size v_o3_machine_letters v_o3_machine_moves v_o3_machine_finals v_o3_lies) := ⟨[10, 0, 1, 11, 12, 13, 14, 15, 2, 3, 4, 5, 6, 7, 8, 9], rfl, rfl⟩
    refine r_VI (r := r_3) (As := [.int (1 : Int32), .long r_2]) (rest := []) (wc' := (ws_Le_addWord cI cJ cZ q_this q_asked q_table q_hypothesis q_representatives q_table_prefixes q_table_suffixes q_table_known q_table_bits q_table_prefixes_words q_table_suffixes_words v_mode v_budget v_formed_1 v_counterexample v_corrections v_deceived v_table_letters v_table_prefixes_size_1 v_table_prefixes_longest_1 v_table_prefixes_words_1 v_table_suffixes_size_1 v_table_suffixes_longest_1 v_table_suffixes_words_1)) (ws' := (ws_Le_addSplit cI cJ cZ q_this q_asked q_table q_hypothesis q_representatives q_asked_entries q_table_prefixes q_table_suffixes q_table_known q_table_bits q_table_prefixes_words q_table_suffixes_words q_hypothesis_moves q_hypothesis_finals q_o3 q_o3_machine q_o3_lies q_o3_machine_moves q_o3_machine_finals v_mode v_budget v_formed_1 v_counterexample v_corrections v_deceived v_asked_size_2 v_asked_entries_2 v_table_letters v_table_prefixes_size_1 v_table_prefixes_longest_1 v_table_prefixes_words_1 v_table_suffixes_size_1 v_table_suffixes_longest_1 v_table_suffixes_words_1 v_hypothesis_size v_hypothesis_letters v_hypothesis_moves v_representatives v_o3_lieCount v_o3_machine_size v_o3_machine_letters v_o3_machine_moves v_o3_machine_finals v_o3_lies)) C0 w (c_Le_addWord hcall) hp hp' lm_RX1_95 mv_Le_addWord ⟨rfl, rfl⟩ ⟨by decide, by decide⟩ ⟨Nat.zero_le _, Nat.zero_le _⟩ (q0 := 0) rfl rfl rfl rfl hl rfl (Nat.le_of_ble_eq_true rfl) dX1_addSplit_127 (fun H locs w => ?_)
    cases h
    exact hQ _ _ _ _ dX1_addSplit_130 rfl w
  · have h := if_h hc h
    refine lv_bipush (v := (-4 : Int32)) hx hb dX1_addSplit_24 (by decide) ?_
    cases h
    exact hQ _ _ _ _ dX1_addSplit_26 rfl w
theorem dX1_finishCorrection_0 : decode cX1_finishCorrection 0 = .ok (.aload_n 0, 1) := by decide +kernel
theorem dX1_finishCorrection_1 : decode cX1_finishCorrection 1 = .ok (.lload_n 1, 1) := by decide +kernel
theorem dX1_finishCorrection_2 : decode cX1_finishCorrection 2 = .ok (.putfield 51, 3) := by decide +kernel
theorem dX1_finishCorrection_5 : decode cX1_finishCorrection 5 = .ok (.aload_n 0, 1) := by decide +kernel
theorem dX1_finishCorrection_6 : decode cX1_finishCorrection 6 = .ok (.dup, 1) := by decide +kernel
theorem dX1_finishCorrection_7 : decode cX1_finishCorrection 7 = .ok (.getfield 55, 3) := by decide +kernel
theorem dX1_finishCorrection_10 : decode cX1_finishCorrection 10 = .ok (.iconst 1, 1) := by decide +kernel
theorem dX1_finishCorrection_11 : decode cX1_finishCorrection 11 = .ok (.iadd, 1) := by decide +kernel
theorem dX1_finishCorrection_12 : decode cX1_finishCorrection 12 = .ok (.putfield 55, 3) := by decide +kernel
theorem dX1_finishCorrection_15 : decode cX1_finishCorrection 15 = .ok (.aload_n 0, 1) := by decide +kernel
theorem dX1_finishCorrection_16 : decode cX1_finishCorrection 16 = .ok (.iload_n 3, 1) := by decide +kernel
theorem dX1_finishCorrection_17 : decode cX1_finishCorrection 17 = .ok (.ifCond .ne 7, 3) := by decide +kernel
theorem dX1_finishCorrection_20 : decode cX1_finishCorrection 20 = .ok (.iconst 1, 1) := by decide +kernel
theorem dX1_finishCorrection_21 : decode cX1_finishCorrection 21 = .ok (.goto 4, 3) := by decide +kernel
theorem dX1_finishCorrection_24 : decode cX1_finishCorrection 24 = .ok (.iconst 0, 1) := by decide +kernel
theorem dX1_finishCorrection_25 : decode cX1_finishCorrection 25 = .ok (.putfield 58, 3) := by decide +kernel
theorem dX1_finishCorrection_28 : decode cX1_finishCorrection 28 = .ok (.aload_n 0, 1) := by decide +kernel
theorem dX1_finishCorrection_29 : decode cX1_finishCorrection 29 = .ok (.getfield 58, 3) := by decide +kernel
theorem dX1_finishCorrection_32 : decode cX1_finishCorrection 32 = .ok (.ifCond .eq 8, 3) := by decide +kernel
theorem dX1_finishCorrection_35 : decode cX1_finishCorrection 35 = .ok (.bipush 7, 2) := by decide +kernel
theorem dX1_finishCorrection_37 : decode cX1_finishCorrection 37 = .ok (.goto 4, 3) := by decide +kernel
theorem dX1_finishCorrection_40 : decode cX1_finishCorrection 40 = .ok (.iconst 5, 1) := by decide +kernel
theorem dX1_finishCorrection_41 : decode cX1_finishCorrection 41 = .ok (.ireturn, 1) := by decide +kernel
set_option maxRecDepth 100000 in
theorem c_Le_finishCorrection {l : Launch} {D : va_G} {cI cJ cZ cO : ClassId} {q_this q_asked q_table q_hypothesis q_representatives : Nat} {x1 : Int64} {x3 : Int32} {v_mode : Int32} {v_budget : Int32} {v_formed : Int32} {v_counterexample : Int64} {v_corrections : Int32} {v_deceived : Int32} {x : Int32 × Int64 × Int32 × Int32} (h : f_Le_finishCorrection x1 x3 v_corrections = some x) : ctI l D cI cJ cZ cO yX1_finishCorrection cX1_finishCorrection 4 .int rm_Le_finishCorrection [.ref q_this, .long x1, .int x3] (ws_Le_finishCorrection cI cJ cZ q_this q_asked q_table q_hypothesis q_representatives v_mode v_budget v_formed v_counterexample v_corrections v_deceived) (ws_Le_finishCorrection cI cJ cZ q_this q_asked q_table q_hypothesis q_representatives v_mode v_budget v_formed x.2.1 x.2.2.1 x.2.2.2) x.1 := by
  refine ctI_of (by decide) (Nat.le_of_ble_eq_true rfl) ?_
  intro p e s m below meth c Q A ls C0 hQ w hl
  have hl : lv_has ls 4 [(0, .ref q_this), (1, .long x1), (3, .int x3)] := hl
  generalize List.toArray (α := Value) [.ref q_this, .long x1, .int x3] = args at C0 hQ ⊢
  obtain ⟨hx, hb, hml, hown, hts, -, -⟩ := id C0
  unfold f_Le_finishCorrection at h
  refine lv_aload_n hx hb dX1_finishCorrection_0 rfl (lv_at hl 0 rfl) ?_
  refine lv_lload_n hx hb dX1_finishCorrection_1 rfl (lv_at hl 1 rfl) ?_
  refine r_put C0 w 0 rfl kf_Le 7 (by decide) lf_RX1_51 rfl rfl rfl (Nat.le_of_ble_eq_true rfl) dX1_finishCorrection_2 (ws' := (ws_Le_finishCorrection cI cJ cZ q_this q_asked q_table q_hypothesis q_representatives v_mode v_budget v_formed x1 v_corrections v_deceived)) rfl (fun H locs w => ?_)
  refine lv_aload_n hx hb dX1_finishCorrection_5 rfl (lv_at hl 0 rfl) ?_
  refine lv_dup hx hb dX1_finishCorrection_6 rfl ?_
  refine r_get C0 w 0 rfl kf_Le 8 (by decide) lf_RX1_55 rfl dX1_finishCorrection_7 ?_
  refine lv_iconst (v := (1 : Int32)) hx hb dX1_finishCorrection_10 (by decide) ?_
  refine lv_iadd hx hb dX1_finishCorrection_11 ?_
  refine lv_topi (fun v_corrections_1 ev_corrections_1 => ?_)
  have h := bnd_at ev_corrections_1 h
  refine r_put C0 w 0 rfl kf_Le 8 (by decide) lf_RX1_55 rfl rfl rfl (Nat.le_of_ble_eq_true rfl) dX1_finishCorrection_12 (ws' := (ws_Le_finishCorrection cI cJ cZ q_this q_asked q_table q_hypothesis q_representatives v_mode v_budget v_formed x1 v_corrections_1 v_deceived)) rfl (fun H locs w => ?_)
  refine lv_aload_n hx hb dX1_finishCorrection_15 rfl (lv_at hl 0 rfl) ?_
  refine lv_iload_n hx hb dX1_finishCorrection_16 rfl (lv_at hl 2 rfl) ?_
  obtain ⟨t, et⟩ : ∃ y : Int32, y = (if x3 = 0 then (1 : Int32) else (0 : Int32)) := ⟨_, rfl⟩
  have h := bnd_at et h
  have J : W p l e rm_Le_finishCorrection s m args below meth c H locs 0 0 Q (F0 m 25 ls [.int t, .ref q_this]) := by
    obtain ⟨hg, h⟩ := gB_h h
    refine r_put C0 w 0 rfl kf_Le 9 (by decide) lf_RX1_58 rfl (gB_n hg) (gB_f hg) (Nat.le_of_ble_eq_true rfl) dX1_finishCorrection_25 (ws' := (ws_Le_finishCorrection cI cJ cZ q_this q_asked q_table q_hypothesis q_representatives v_mode v_budget v_formed x1 v_corrections_1 t)) rfl (fun H locs w => ?_)
    refine lv_aload_n hx hb dX1_finishCorrection_28 rfl (lv_at hl 0 rfl) ?_
    refine r_get C0 w 0 rfl kf_Le 9 (by decide) lf_RX1_58 rfl dX1_finishCorrection_29 ?_
    obtain ⟨t_1, et_1⟩ : ∃ y : Int32, y = (if t = 0 then (5 : Int32) else (7 : Int32)) := ⟨_, rfl⟩
    have h := bnd_at et_1 h
    have J : W p l e rm_Le_finishCorrection s m args below meth c H locs 0 0 Q (F0 m 41 ls [.int t_1]) := by
      cases h
      exact hQ _ _ _ _ dX1_finishCorrection_41 rfl w
    refine lv_if_eq (tgt := 40) hx hb dX1_finishCorrection_32 (by decide) (fun hc => ?_) (fun hc => ?_)
    · refine lv_iconst (v := (5 : Int32)) hx hb dX1_finishCorrection_40 (by decide) ?_
      exact r_eqi (et_1.trans (if_pos hc)) J
    · refine lv_bipush (v := (7 : Int32)) hx hb dX1_finishCorrection_35 (by decide) ?_
      refine lv_goto (tgt := 41) hx hb dX1_finishCorrection_37 (by decide) ?_
      exact r_eqi (et_1.trans (if_neg hc)) J
  refine lv_if_ne (tgt := 24) hx hb dX1_finishCorrection_17 (by decide) (fun hc => ?_) (fun hc => ?_)
  · refine lv_iconst (v := (0 : Int32)) hx hb dX1_finishCorrection_24 (by decide) ?_
    exact r_eqi (et.trans (if_neg hc)) J
  · refine lv_iconst (v := (1 : Int32)) hx hb dX1_finishCorrection_20 (by decide) ?_
    refine lv_goto (tgt := 25) hx hb dX1_finishCorrection_21 (by decide) ?_
    exact r_eqi (et.trans (if_pos hc)) J
theorem dX4_prefixRow_0 : decode cX4_prefixRow 0 = .ok (.iload_n 0, 1) := by decide +kernel
theorem dX4_prefixRow_1 : decode cX4_prefixRow 1 = .ok (.iconst 4, 1) := by decide +kernel
theorem dX4_prefixRow_2 : decode cX4_prefixRow 2 = .ok (.imul, 1) := by decide +kernel
theorem dX4_prefixRow_3 : decode cX4_prefixRow 3 = .ok (.ireturn, 1) := by decide +kernel
set_option maxRecDepth 100000 in
theorem c_Ta_prefixRow {l : Launch} {D : va_G} {cI cJ cZ cO : ClassId} {x0 : Int32} {x : Int32} (h : f_Ta_prefixRow x0 = some x) : ctI l D cI cJ cZ cO yX4_prefixRow cX4_prefixRow 1 .int rm_Ta_prefixRow [.int x0] (ws_Ta_prefixRow cI cJ cZ) (ws_Ta_prefixRow cI cJ cZ) x := by
  refine ctI_of (by decide) (Nat.le_of_ble_eq_true rfl) ?_
  intro p e s m below meth c Q A ls C0 hQ w hl
  have hl : lv_has ls 1 [(0, .int x0)] := hl
  generalize List.toArray (α := Value) [.int x0] = args at C0 hQ ⊢
  obtain ⟨hx, hb, hml, hown, hts, -, -⟩ := id C0
  unfold f_Ta_prefixRow at h
  refine lv_iload_n hx hb dX4_prefixRow_0 rfl (lv_at hl 0 rfl) ?_
  refine lv_iconst (v := (4 : Int32)) hx hb dX4_prefixRow_1 (by decide) ?_
  refine lv_imul hx hb dX4_prefixRow_2 ?_
  cases h
  exact hQ _ _ _ _ dX4_prefixRow_3 rfl w
theorem dX1_stateWithRow_0 : decode cX1_stateWithRow 0 = .ok (.iconst 0, 1) := by decide +kernel
theorem dX1_stateWithRow_1 : decode cX1_stateWithRow 1 = .ok (.istore_n 2, 1) := by decide +kernel
theorem dX1_stateWithRow_2 : decode cX1_stateWithRow 2 = .ok (.iload_n 2, 1) := by decide +kernel
theorem dX1_stateWithRow_3 : decode cX1_stateWithRow 3 = .ok (.aload_n 0, 1) := by decide +kernel
theorem dX1_stateWithRow_4 : decode cX1_stateWithRow 4 = .ok (.getfield 30, 3) := by decide +kernel
theorem dX1_stateWithRow_7 : decode cX1_stateWithRow 7 = .ok (.getfield 71, 3) := by decide +kernel
theorem dX1_stateWithRow_10 : decode cX1_stateWithRow 10 = .ok (.if_icmp .ge 32, 3) := by decide +kernel
theorem dX1_stateWithRow_13 : decode cX1_stateWithRow 13 = .ok (.aload_n 0, 1) := by decide +kernel
theorem dX1_stateWithRow_14 : decode cX1_stateWithRow 14 = .ok (.getfield 21, 3) := by decide +kernel
theorem dX1_stateWithRow_17 : decode cX1_stateWithRow 17 = .ok (.getfield 140, 3) := by decide +kernel
theorem dX1_stateWithRow_20 : decode cX1_stateWithRow 20 = .ok (.aload_n 0, 1) := by decide +kernel
theorem dX1_stateWithRow_21 : decode cX1_stateWithRow 21 = .ok (.getfield 34, 3) := by decide +kernel
theorem dX1_stateWithRow_24 : decode cX1_stateWithRow 24 = .ok (.iload_n 2, 1) := by decide +kernel
theorem dX1_stateWithRow_25 : decode cX1_stateWithRow 25 = .ok (.iaload, 1) := by decide +kernel
theorem dX1_stateWithRow_26 : decode cX1_stateWithRow 26 = .ok (.invokestatic 143, 3) := by decide +kernel
theorem dX1_stateWithRow_29 : decode cX1_stateWithRow 29 = .ok (.iaload, 1) := by decide +kernel
theorem dX1_stateWithRow_30 : decode cX1_stateWithRow 30 = .ok (.iload_n 1, 1) := by decide +kernel
theorem dX1_stateWithRow_31 : decode cX1_stateWithRow 31 = .ok (.if_icmp .ne 5, 3) := by decide +kernel
theorem dX1_stateWithRow_34 : decode cX1_stateWithRow 34 = .ok (.iload_n 2, 1) := by decide +kernel
theorem dX1_stateWithRow_35 : decode cX1_stateWithRow 35 = .ok (.ireturn, 1) := by decide +kernel
theorem dX1_stateWithRow_36 : decode cX1_stateWithRow 36 = .ok (.iinc 2 1, 3) := by decide +kernel
theorem dX1_stateWithRow_39 : decode cX1_stateWithRow 39 = .ok (.goto (-37), 3) := by decide +kernel
theorem dX1_stateWithRow_42 : decode cX1_stateWithRow 42 = .ok (.iconst (-1), 1) := by decide +kernel
theorem dX1_stateWithRow_43 : decode cX1_stateWithRow 43 = .ok (.ireturn, 1) := by decide +kernel
set_option maxRecDepth 100000 in
theorem w_Le_stateWithRow_L2 {p : Program} {l : Launch} {e : Env} {s : State} {m : MethodId} {args : Array Value} {below : List Frame} {meth : Method} {c : Code} {Q : State → Prop} {A : Nat → Prop} {D : va_G} {cI cJ cZ cO : ClassId} {q_this q_asked q_table q_hypothesis q_representatives q_table_prefixes q_table_suffixes q_table_known q_table_bits q_hypothesis_moves q_hypothesis_finals : Nat} {v_mode : Int32} {v_budget : Int32} {v_formed : Int32} {v_counterexample : Int64} {v_corrections : Int32} {v_deceived : Int32} {v_table_letters : Int32} {v_table_bits : (Nat → Int32)} {v_hypothesis_size : Int32} {v_hypothesis_letters : Int32} {v_representatives : (Nat → Int32)} {x1 : Int32} {x : Int32} (C0 : Cx p s m args c A D cI cJ cZ cO cX1_stateWithRow 3 RX1) (hQ : RtI p l e rm_Le_stateWithRow s m args below meth c Q A D cX1_stateWithRow .int (ws_Le_stateWithRow cI cJ cZ q_this q_asked q_table q_hypothesis q_representatives q_table_prefixes q_table_suffixes q_table_known q_table_bits q_hypothesis_moves q_hypothesis_finals v_mode v_budget v_formed v_counterexample v_corrections v_deceived v_table_letters v_table_bits v_hypothesis_size v_hypothesis_letters v_representatives) x) {K : Int32 → Option (Int32)} (hK : ∀ (x2 : Int32) (H : Heap) (locs : List Loc) (ls : Array Slot), K x2 = some x → Wd s A D (ws_Le_stateWithRow cI cJ cZ q_this q_asked q_table q_hypothesis q_representatives q_table_prefixes q_table_suffixes q_table_known q_table_bits q_hypothesis_moves q_hypothesis_finals v_mode v_budget v_formed v_counterexample v_corrections v_deceived v_table_letters v_table_bits v_hypothesis_size v_hypothesis_letters v_representatives) H locs → lv_has ls 3 [] → W p l e rm_Le_stateWithRow s m args below meth c H locs 0 0 Q (F0 m 42 ls [])) {rec : Int32 → Option (Int32)} (hrec : ∀ (x2 : Int32) (H : Heap) (locs : List Loc) (ls : Array Slot), rec x2 = some x → Wd s A D (ws_Le_stateWithRow cI cJ cZ q_this q_asked q_table q_hypothesis q_representatives q_table_prefixes q_table_suffixes q_table_known q_table_bits q_hypothesis_moves q_hypothesis_finals v_mode v_budget v_formed v_counterexample v_corrections v_deceived v_table_letters v_table_bits v_hypothesis_size v_hypothesis_letters v_representatives) H locs → lv_has ls 3 [(0, .ref q_this), (1, .int x1), (2, .int x2)] → W p l e rm_Le_stateWithRow s m args below meth c H locs 0 0 Q (F0 m 2 ls [])) (x2 : Int32) {H : Heap} {locs : List Loc} {ls : Array Slot} (h : f_Le_stateWithRow_L2 v_table_bits v_hypothesis_size v_representatives x1 K rec x2 = some x) (w : Wd s A D (ws_Le_stateWithRow cI cJ cZ q_this q_asked q_table q_hypothesis q_representatives q_table_prefixes q_table_suffixes q_table_known q_table_bits q_hypothesis_moves q_hypothesis_finals v_mode v_budget v_formed v_counterexample v_corrections v_deceived v_table_letters v_table_bits v_hypothesis_size v_hypothesis_letters v_representatives) H locs) (hl : lv_has ls 3 [(0, .ref q_this), (1, .int x1), (2, .int x2)]) : W p l e rm_Le_stateWithRow s m args below meth c H locs 0 0 Q (F0 m 2 ls []) := by
  obtain ⟨hx, hb, hml, hown, hts, -, -⟩ := id C0
  unfold f_Le_stateWithRow_L2 at h
  refine lv_iload_n hx hb dX1_stateWithRow_2 rfl (lv_at hl 2 rfl) ?_
  refine lv_aload_n hx hb dX1_stateWithRow_3 rfl (lv_at hl 0 rfl) ?_
  refine r_get C0 w 0 rfl kf_Le 2 (by decide) lf_RX1_30 rfl dX1_stateWithRow_4 ?_
  refine r_get C0 w 3 rfl kf_Au 2 (by decide) lf_RX1_71 rfl dX1_stateWithRow_7 ?_
  refine lv_icmp_ge (tgt := 42) hx hb dX1_stateWithRow_10 (by decide) (fun hc => ?_) (fun hc => ?_)
  · have h := if_h hc h
    exact hK _ _ _ _ h w (lv_sub hl [] rfl)
  · have h := nf_h hc h
    refine lv_aload_n hx hb dX1_stateWithRow_13 rfl (lv_at hl 0 rfl) ?_
    refine r_get C0 w 0 rfl kf_Le 1 (by decide) lf_RX1_21 rfl dX1_stateWithRow_14 ?_
    refine r_get C0 w 1 rfl kf_Ta 3 (by decide) lf_RX1_140 rfl dX1_stateWithRow_17 ?_
    refine lv_aload_n hx hb dX1_stateWithRow_20 rfl (lv_at hl 0 rfl) ?_
    refine r_get C0 w 0 rfl kf_Le 3 (by decide) lf_RX1_34 rfl dX1_stateWithRow_21 ?_
    refine lv_iload_n hx hb dX1_stateWithRow_24 rfl (lv_at hl 2 rfl) ?_
    obtain ⟨hi, h⟩ := gIn_h h
    refine r_iald C0 w 4 rfl rfl hi dX1_stateWithRow_25 ?_
    obtain ⟨r, hcall, h⟩ := bd1_h h
    obtain ⟨wr, hp, hp'⟩ := rd_of (ws := (ws_Le_stateWithRow cI cJ cZ q_this q_asked q_table q_hypothesis q_representatives q_table_prefixes q_table_suffixes q_table_known q_table_bits q_hypothesis_moves q_hypothesis_finals v_mode v_budget v_formed v_counterexample v_corrections v_deceived v_table_letters v_table_bits v_hypothesis_size v_hypothesis_letters v_representatives)) (wc := (ws_Ta_prefixRow cI cJ cZ)) [] rfl rfl
    refine r_SI (r := r) (As := [.int (v_representatives x2.toNatClampNeg)]) (rest := [.ref q_table_bits]) (wc' := (ws_Ta_prefixRow cI cJ cZ)) (ws' := (ws_Le_stateWithRow cI cJ cZ q_this q_asked q_table q_hypothesis q_representatives q_table_prefixes q_table_suffixes q_table_known q_table_bits q_hypothesis_moves q_hypothesis_finals v_mode v_budget v_formed v_counterexample v_corrections v_deceived v_table_letters v_table_bits v_hypothesis_size v_hypothesis_letters v_representatives)) C0 w (c_Ta_prefixRow hcall) hp hp' lm_RX1_143 ms_Ta_prefixRow ⟨rfl, rfl⟩ ⟨by decide, by decide⟩ ⟨Nat.zero_le _, Nat.zero_le _⟩ rfl hl rfl (Nat.le_of_ble_eq_true rfl) dX1_stateWithRow_26 (fun H locs w => ?_)
    obtain ⟨hi, h⟩ := gIn_h h
    refine r_iald C0 w 2 rfl rfl hi dX1_stateWithRow_29 ?_
    refine lv_iload_n hx hb dX1_stateWithRow_30 rfl (lv_at hl 1 rfl) ?_
    refine lv_icmp_ne (tgt := 36) hx hb dX1_stateWithRow_31 (by decide) (fun hc => ?_) (fun hc => ?_)
    · have h := nf_h hc h
      obtain ⟨x2_1, ex2_1⟩ : ∃ y : Int32, y = (x2 + 1) := ⟨_, rfl⟩
      have h := bnd_at ex2_1 h
      refine lv_iinc (v := x2_1) (lv' := [(2, .int x2_1), (0, .ref q_this), (1, .int x1)]) hx hb dX1_stateWithRow_36 hl (k := 2) rfl (by rw [ex2_1]; rfl) (by decide) rfl (fun ls hl => ?_)
      refine lv_goto (tgt := 2) hx hb dX1_stateWithRow_39 (by decide) ?_
      exact hrec _ _ _ _ h w (lv_sub hl [1, 2, 0] rfl)
    · have h := if_h hc h
      refine lv_iload_n hx hb dX1_stateWithRow_34 rfl (lv_at hl 2 rfl) ?_
      cases h
      exact hQ _ _ _ _ dX1_stateWithRow_35 rfl w
set_option maxRecDepth 100000 in
theorem wl_Le_stateWithRow_L2 {p : Program} {l : Launch} {e : Env} {s : State} {m : MethodId} {args : Array Value} {below : List Frame} {meth : Method} {c : Code} {Q : State → Prop} {A : Nat → Prop} {D : va_G} {cI cJ cZ cO : ClassId} {q_this q_asked q_table q_hypothesis q_representatives q_table_prefixes q_table_suffixes q_table_known q_table_bits q_hypothesis_moves q_hypothesis_finals : Nat} {v_mode : Int32} {v_budget : Int32} {v_formed : Int32} {v_counterexample : Int64} {v_corrections : Int32} {v_deceived : Int32} {v_table_letters : Int32} {v_table_bits : (Nat → Int32)} {v_hypothesis_size : Int32} {v_hypothesis_letters : Int32} {v_representatives : (Nat → Int32)} {x1 : Int32} {x : Int32} (C0 : Cx p s m args c A D cI cJ cZ cO cX1_stateWithRow 3 RX1) (hQ : RtI p l e rm_Le_stateWithRow s m args below meth c Q A D cX1_stateWithRow .int (ws_Le_stateWithRow cI cJ cZ q_this q_asked q_table q_hypothesis q_representatives q_table_prefixes q_table_suffixes q_table_known q_table_bits q_hypothesis_moves q_hypothesis_finals v_mode v_budget v_formed v_counterexample v_corrections v_deceived v_table_letters v_table_bits v_hypothesis_size v_hypothesis_letters v_representatives) x) {K : Int32 → Option (Int32)} (hK : ∀ (x2 : Int32) (H : Heap) (locs : List Loc) (ls : Array Slot), K x2 = some x → Wd s A D (ws_Le_stateWithRow cI cJ cZ q_this q_asked q_table q_hypothesis q_representatives q_table_prefixes q_table_suffixes q_table_known q_table_bits q_hypothesis_moves q_hypothesis_finals v_mode v_budget v_formed v_counterexample v_corrections v_deceived v_table_letters v_table_bits v_hypothesis_size v_hypothesis_letters v_representatives) H locs → lv_has ls 3 [] → W p l e rm_Le_stateWithRow s m args below meth c H locs 0 0 Q (F0 m 42 ls [])) : ∀ (n : Nat) (x2 : Int32) (H : Heap) (locs : List Loc) (ls : Array Slot), itr (fun _ => none) (f_Le_stateWithRow_L2 v_table_bits v_hypothesis_size v_representatives x1 K) n x2 = some x → Wd s A D (ws_Le_stateWithRow cI cJ cZ q_this q_asked q_table q_hypothesis q_representatives q_table_prefixes q_table_suffixes q_table_known q_table_bits q_hypothesis_moves q_hypothesis_finals v_mode v_budget v_formed v_counterexample v_corrections v_deceived v_table_letters v_table_bits v_hypothesis_size v_hypothesis_letters v_representatives) H locs → lv_has ls 3 [(0, .ref q_this), (1, .int x1), (2, .int x2)] → W p l e rm_Le_stateWithRow s m args below meth c H locs 0 0 Q (F0 m 2 ls []) := by
  intro n
  induction n with
  | zero => intro _ _ _ _ h; cases (show none = some _ from h)
  | succ n ih => intro _ _ _ _ h w hl; exact w_Le_stateWithRow_L2 C0 hQ hK ih _ h w hl
set_option maxRecDepth 100000 in
theorem c_Le_stateWithRow {l : Launch} {D : va_G} {cI cJ cZ cO : ClassId} {q_this q_asked q_table q_hypothesis q_representatives q_table_prefixes q_table_suffixes q_table_known q_table_bits q_hypothesis_moves q_hypothesis_finals : Nat} {x1 : Int32} {v_mode : Int32} {v_budget : Int32} {v_formed : Int32} {v_counterexample : Int64} {v_corrections : Int32} {v_deceived : Int32} {v_table_letters : Int32} {v_table_bits : (Nat → Int32)} {v_hypothesis_size : Int32} {v_hypothesis_letters : Int32} {v_representatives : (Nat → Int32)} {x : Int32} (h : f_Le_stateWithRow x1 v_table_bits v_hypothesis_size v_representatives = some x) : ctI l D cI cJ cZ cO yX1_stateWithRow cX1_stateWithRow 3 .int rm_Le_stateWithRow [.ref q_this, .int x1] (ws_Le_stateWithRow cI cJ cZ q_this q_asked q_table q_hypothesis q_representatives q_table_prefixes q_table_suffixes q_table_known q_table_bits q_hypothesis_moves q_hypothesis_finals v_mode v_budget v_formed v_counterexample v_corrections v_deceived v_table_letters v_table_bits v_hypothesis_size v_hypothesis_letters v_representatives) (ws_Le_stateWithRow cI cJ cZ q_this q_asked q_table q_hypothesis q_representatives q_table_prefixes q_table_suffixes q_table_known q_table_bits q_hypothesis_moves q_hypothesis_finals v_mode v_budget v_formed v_counterexample v_corrections v_deceived v_table_letters v_table_bits v_hypothesis_size v_hypothesis_letters v_representatives) x := by
  refine ctI_of (by decide) (Nat.le_of_ble_eq_true rfl) ?_
  intro p e s m below meth c Q A ls C0 hQ w hl
  have hl : lv_has ls 3 [(0, .ref q_this), (1, .int x1)] := hl
  generalize List.toArray (α := Value) [.ref q_this, .int x1] = args at C0 hQ ⊢
  obtain ⟨hx, hb, hml, hown, hts, -, -⟩ := id C0
  unfold f_Le_stateWithRow at h
  refine lv_iconst (v := (0 : Int32)) hx hb dX1_stateWithRow_0 (by decide) ?_
  refine lv_istore_n (lv' := [(2, .int (0 : Int32)), (0, .ref q_this), (1, .int x1)]) hx hb dX1_stateWithRow_1 rfl hl (by decide) rfl (fun ls hl => ?_)
  refine wl_Le_stateWithRow_L2 C0 hQ (fun x2 H locs ls h w hl => ?_) _ _ _ _ _ h w (lv_sub hl [1, 2, 0] rfl)
  refine lv_iconst (v := (-1 : Int32)) hx hb dX1_stateWithRow_42 (by decide) ?_
  cases h
  exact hQ _ _ _ _ dX1_stateWithRow_43 rfl w
theorem dX4_extensionRow_0 : decode cX4_extensionRow 0 = .ok (.iload_n 0, 1) := by decide +kernel
theorem dX4_extensionRow_1 : decode cX4_extensionRow 1 = .ok (.iconst 4, 1) := by decide +kernel
theorem dX4_extensionRow_2 : decode cX4_extensionRow 2 = .ok (.imul, 1) := by decide +kernel
theorem dX4_extensionRow_3 : decode cX4_extensionRow 3 = .ok (.iconst 1, 1) := by decide +kernel
theorem dX4_extensionRow_4 : decode cX4_extensionRow 4 = .ok (.iadd, 1) := by decide +kernel
theorem dX4_extensionRow_5 : decode cX4_extensionRow 5 = .ok (.iload_n 1, 1) := by decide +kernel
theorem dX4_extensionRow_6 : decode cX4_extensionRow 6 = .ok (.iadd, 1) := by decide +kernel
theorem dX4_extensionRow_7 : decode cX4_extensionRow 7 = .ok (.ireturn, 1) := by decide +kernel
set_option maxRecDepth 100000 in
theorem c_Ta_extensionRow {l : Launch} {D : va_G} {cI cJ cZ cO : ClassId} {x0 : Int32} {x1 : Int32} {x : Int32} (h : f_Ta_extensionRow x0 x1 = some x) : ctI l D cI cJ cZ cO yX4_extensionRow cX4_extensionRow 2 .int rm_Ta_extensionRow [.int x0, .int x1] (ws_Ta_extensionRow cI cJ cZ) (ws_Ta_extensionRow cI cJ cZ) x := by
  refine ctI_of (by decide) (Nat.le_of_ble_eq_true rfl) ?_
  intro p e s m below meth c Q A ls C0 hQ w hl
  have hl : lv_has ls 2 [(0, .int x0), (1, .int x1)] := hl
  generalize List.toArray (α := Value) [.int x0, .int x1] = args at C0 hQ ⊢
  obtain ⟨hx, hb, hml, hown, hts, -, -⟩ := id C0
  unfold f_Ta_extensionRow at h
  refine lv_iload_n hx hb dX4_extensionRow_0 rfl (lv_at hl 0 rfl) ?_
  refine lv_iconst (v := (4 : Int32)) hx hb dX4_extensionRow_1 (by decide) ?_
  refine lv_imul hx hb dX4_extensionRow_2 ?_
  refine lv_iconst (v := (1 : Int32)) hx hb dX4_extensionRow_3 (by decide) ?_
  refine lv_iadd hx hb dX4_extensionRow_4 ?_
  refine lv_iload_n hx hb dX4_extensionRow_5 rfl (lv_at hl 1 rfl) ?_
  refine lv_iadd hx hb dX4_extensionRow_6 ?_
  cases h
  exact hQ _ _ _ _ dX4_extensionRow_7 rfl w

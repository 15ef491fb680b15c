theorem dX1_formHypothesis_0 : decode cX1_formHypothesis 0 = .ok (.aload_n 0, 1) := by decide +kernel
theorem dX1_formHypothesis_1 : decode cX1_formHypothesis 1 = .ok (.getfield 30, 3) := by decide +kernel
theorem dX1_formHypothesis_4 : decode cX1_formHypothesis 4 = .ok (.iconst 0, 1) := by decide +kernel
theorem dX1_formHypothesis_5 : decode cX1_formHypothesis 5 = .ok (.aload_n 0, 1) := by decide +kernel
theorem dX1_formHypothesis_6 : decode cX1_formHypothesis 6 = .ok (.getfield 21, 3) := by decide +kernel
theorem dX1_formHypothesis_9 : decode cX1_formHypothesis 9 = .ok (.getfield 130, 3) := by decide +kernel
theorem dX1_formHypothesis_12 : decode cX1_formHypothesis 12 = .ok (.invokevirtual 67, 3) := by decide +kernel
theorem dX1_formHypothesis_15 : decode cX1_formHypothesis 15 = .ok (.iconst 0, 1) := by decide +kernel
theorem dX1_formHypothesis_16 : decode cX1_formHypothesis 16 = .ok (.istore_n 1, 1) := by decide +kernel
theorem dX1_formHypothesis_17 : decode cX1_formHypothesis 17 = .ok (.iload_n 1, 1) := by decide +kernel
theorem dX1_formHypothesis_18 : decode cX1_formHypothesis 18 = .ok (.aload_n 0, 1) := by decide +kernel
theorem dX1_formHypothesis_19 : decode cX1_formHypothesis 19 = .ok (.getfield 21, 3) := by decide +kernel
theorem dX1_formHypothesis_22 : decode cX1_formHypothesis 22 = .ok (.getfield 133, 3) := by decide +kernel
theorem dX1_formHypothesis_25 : decode cX1_formHypothesis 25 = .ok (.getfield 137, 3) := by decide +kernel
theorem dX1_formHypothesis_28 : decode cX1_formHypothesis 28 = .ok (.if_icmp .ge 75, 3) := by decide +kernel
theorem dX1_formHypothesis_31 : decode cX1_formHypothesis 31 = .ok (.aload_n 0, 1) := by decide +kernel
theorem dX1_formHypothesis_32 : decode cX1_formHypothesis 32 = .ok (.getfield 21, 3) := by decide +kernel
theorem dX1_formHypothesis_35 : decode cX1_formHypothesis 35 = .ok (.getfield 140, 3) := by decide +kernel
theorem dX1_formHypothesis_38 : decode cX1_formHypothesis 38 = .ok (.iload_n 1, 1) := by decide +kernel
theorem dX1_formHypothesis_39 : decode cX1_formHypothesis 39 = .ok (.invokestatic 143, 3) := by decide +kernel
theorem dX1_formHypothesis_42 : decode cX1_formHypothesis 42 = .ok (.iaload, 1) := by decide +kernel
theorem dX1_formHypothesis_43 : decode cX1_formHypothesis 43 = .ok (.istore_n 2, 1) := by decide +kernel
theorem dX1_formHypothesis_44 : decode cX1_formHypothesis 44 = .ok (.aload_n 0, 1) := by decide +kernel
theorem dX1_formHypothesis_45 : decode cX1_formHypothesis 45 = .ok (.iload_n 2, 1) := by decide +kernel
theorem dX1_formHypothesis_46 : decode cX1_formHypothesis 46 = .ok (.invokevirtual 147, 3) := by decide +kernel
theorem dX1_formHypothesis_49 : decode cX1_formHypothesis 49 = .ok (.iconst (-1), 1) := by decide +kernel
theorem dX1_formHypothesis_50 : decode cX1_formHypothesis 50 = .ok (.if_icmp .ne 47, 3) := by decide +kernel
theorem dX1_formHypothesis_53 : decode cX1_formHypothesis 53 = .ok (.aload_n 0, 1) := by decide +kernel
theorem dX1_formHypothesis_54 : decode cX1_formHypothesis 54 = .ok (.getfield 34, 3) := by decide +kernel
theorem dX1_formHypothesis_57 : decode cX1_formHypothesis 57 = .ok (.aload_n 0, 1) := by decide +kernel
theorem dX1_formHypothesis_58 : decode cX1_formHypothesis 58 = .ok (.getfield 30, 3) := by decide +kernel
theorem dX1_formHypothesis_61 : decode cX1_formHypothesis 61 = .ok (.getfield 71, 3) := by decide +kernel
theorem dX1_formHypothesis_64 : decode cX1_formHypothesis 64 = .ok (.iload_n 1, 1) := by decide +kernel
theorem dX1_formHypothesis_65 : decode cX1_formHypothesis 65 = .ok (.iastore, 1) := by decide +kernel
theorem dX1_formHypothesis_66 : decode cX1_formHypothesis 66 = .ok (.aload_n 0, 1) := by decide +kernel
theorem dX1_formHypothesis_67 : decode cX1_formHypothesis 67 = .ok (.getfield 30, 3) := by decide +kernel
theorem dX1_formHypothesis_70 : decode cX1_formHypothesis 70 = .ok (.getfield 150, 3) := by decide +kernel
theorem dX1_formHypothesis_73 : decode cX1_formHypothesis 73 = .ok (.aload_n 0, 1) := by decide +kernel
theorem dX1_formHypothesis_74 : decode cX1_formHypothesis 74 = .ok (.getfield 30, 3) := by decide +kernel
theorem dX1_formHypothesis_77 : decode cX1_formHypothesis 77 = .ok (.getfield 71, 3) := by decide +kernel
theorem dX1_formHypothesis_80 : decode cX1_formHypothesis 80 = .ok (.iload_n 2, 1) := by decide +kernel
theorem dX1_formHypothesis_81 : decode cX1_formHypothesis 81 = .ok (.iconst 1, 1) := by decide +kernel
theorem dX1_formHypothesis_82 : decode cX1_formHypothesis 82 = .ok (.iand, 1) := by decide +kernel
theorem dX1_formHypothesis_83 : decode cX1_formHypothesis 83 = .ok (.iastore, 1) := by decide +kernel
theorem dX1_formHypothesis_84 : decode cX1_formHypothesis 84 = .ok (.aload_n 0, 1) := by decide +kernel
theorem dX1_formHypothesis_85 : decode cX1_formHypothesis 85 = .ok (.getfield 30, 3) := by decide +kernel
theorem dX1_formHypothesis_88 : decode cX1_formHypothesis 88 = .ok (.dup, 1) := by decide +kernel
theorem dX1_formHypothesis_89 : decode cX1_formHypothesis 89 = .ok (.getfield 71, 3) := by decide +kernel
theorem dX1_formHypothesis_92 : decode cX1_formHypothesis 92 = .ok (.iconst 1, 1) := by decide +kernel
theorem dX1_formHypothesis_93 : decode cX1_formHypothesis 93 = .ok (.iadd, 1) := by decide +kernel
theorem dX1_formHypothesis_94 : decode cX1_formHypothesis 94 = .ok (.putfield 71, 3) := by decide +kernel
theorem dX1_formHypothesis_97 : decode cX1_formHypothesis 97 = .ok (.iinc 1 1, 3) := by decide +kernel
theorem dX1_formHypothesis_100 : decode cX1_formHypothesis 100 = .ok (.goto (-83), 3) := by decide +kernel
theorem dX1_formHypothesis_103 : decode cX1_formHypothesis 103 = .ok (.iconst 0, 1) := by decide +kernel
theorem dX1_formHypothesis_104 : decode cX1_formHypothesis 104 = .ok (.istore_n 1, 1) := by decide +kernel
theorem dX1_formHypothesis_105 : decode cX1_formHypothesis 105 = .ok (.iload_n 1, 1) := by decide +kernel
theorem dX1_formHypothesis_106 : decode cX1_formHypothesis 106 = .ok (.aload_n 0, 1) := by decide +kernel
theorem dX1_formHypothesis_107 : decode cX1_formHypothesis 107 = .ok (.getfield 30, 3) := by decide +kernel
theorem dX1_formHypothesis_110 : decode cX1_formHypothesis 110 = .ok (.getfield 71, 3) := by decide +kernel
theorem dX1_formHypothesis_113 : decode cX1_formHypothesis 113 = .ok (.if_icmp .ge 65, 3) := by decide +kernel
theorem dX1_formHypothesis_116 : decode cX1_formHypothesis 116 = .ok (.iconst 0, 1) := by decide +kernel
theorem dX1_formHypothesis_117 : decode cX1_formHypothesis 117 = .ok (.istore_n 2, 1) := by decide +kernel
theorem dX1_formHypothesis_118 : decode cX1_formHypothesis 118 = .ok (.iload_n 2, 1) := by decide +kernel
theorem dX1_formHypothesis_119 : decode cX1_formHypothesis 119 = .ok (.aload_n 0, 1) := by decide +kernel
theorem dX1_formHypothesis_120 : decode cX1_formHypothesis 120 = .ok (.getfield 21, 3) := by decide +kernel
theorem dX1_formHypothesis_123 : decode cX1_formHypothesis 123 = .ok (.getfield 130, 3) := by decide +kernel
theorem dX1_formHypothesis_126 : decode cX1_formHypothesis 126 = .ok (.if_icmp .ge 46, 3) := by decide +kernel
theorem dX1_formHypothesis_129 : decode cX1_formHypothesis 129 = .ok (.aload_n 0, 1) := by decide +kernel
theorem dX1_formHypothesis_130 : decode cX1_formHypothesis 130 = .ok (.getfield 21, 3) := by decide +kernel
theorem dX1_formHypothesis_133 : decode cX1_formHypothesis 133 = .ok (.getfield 140, 3) := by decide +kernel
theorem dX1_formHypothesis_136 : decode cX1_formHypothesis 136 = .ok (.aload_n 0, 1) := by decide +kernel
theorem dX1_formHypothesis_137 : decode cX1_formHypothesis 137 = .ok (.getfield 34, 3) := by decide +kernel
theorem dX1_formHypothesis_140 : decode cX1_formHypothesis 140 = .ok (.iload_n 1, 1) := by decide +kernel
theorem dX1_formHypothesis_141 : decode cX1_formHypothesis 141 = .ok (.iaload, 1) := by decide +kernel
theorem dX1_formHypothesis_142 : decode cX1_formHypothesis 142 = .ok (.iload_n 2, 1) := by decide +kernel
theorem dX1_formHypothesis_143 : decode cX1_formHypothesis 143 = .ok (.invokestatic 153, 3) := by decide +kernel
theorem dX1_formHypothesis_146 : decode cX1_formHypothesis 146 = .ok (.iaload, 1) := by decide +kernel
theorem dX1_formHypothesis_147 : decode cX1_formHypothesis 147 = .ok (.istore_n 3, 1) := by decide +kernel
theorem dX1_formHypothesis_148 : decode cX1_formHypothesis 148 = .ok (.aload_n 0, 1) := by decide +kernel
theorem dX1_formHypothesis_149 : decode cX1_formHypothesis 149 = .ok (.getfield 30, 3) := by decide +kernel
theorem dX1_formHypothesis_152 : decode cX1_formHypothesis 152 = .ok (.iload_n 1, 1) := by decide +kernel
theorem dX1_formHypothesis_153 : decode cX1_formHypothesis 153 = .ok (.iload_n 2, 1) := by decide +kernel
theorem dX1_formHypothesis_154 : decode cX1_formHypothesis 154 = .ok (.iconst 0, 1) := by decide +kernel
theorem dX1_formHypothesis_155 : decode cX1_formHypothesis 155 = .ok (.aload_n 0, 1) := by decide +kernel
theorem dX1_formHypothesis_156 : decode cX1_formHypothesis 156 = .ok (.iload_n 3, 1) := by decide +kernel
theorem dX1_formHypothesis_157 : decode cX1_formHypothesis 157 = .ok (.invokevirtual 147, 3) := by decide +kernel
theorem dX1_formHypothesis_160 : decode cX1_formHypothesis 160 = .ok (.invokestatic 157, 3) := by decide +kernel
theorem dX1_formHypothesis_163 : decode cX1_formHypothesis 163 = .ok (.invokevirtual 162, 3) := by decide +kernel
theorem dX1_formHypothesis_166 : decode cX1_formHypothesis 166 = .ok (.iinc 2 1, 3) := by decide +kernel
theorem dX1_formHypothesis_169 : decode cX1_formHypothesis 169 = .ok (.goto (-51), 3) := by decide +kernel
theorem dX1_formHypothesis_172 : decode cX1_formHypothesis 172 = .ok (.iinc 1 1, 3) := by decide +kernel
theorem dX1_formHypothesis_175 : decode cX1_formHypothesis 175 = .ok (.goto (-70), 3) := by decide +kernel
theorem dX1_formHypothesis_178 : decode cX1_formHypothesis 178 = .ok (.aload_n 0, 1) := by decide +kernel
theorem dX1_formHypothesis_179 : decode cX1_formHypothesis 179 = .ok (.iconst 1, 1) := by decide +kernel
theorem dX1_formHypothesis_180 : decode cX1_formHypothesis 180 = .ok (.putfield 45, 3) := by decide +kernel
theorem dX1_formHypothesis_183 : decode cX1_formHypothesis 183 = .ok (.return_, 1) := by decide +kernel
set_option maxRecDepth 100000 in
theorem w_Le_formHypothesis_J97 {p : Program} {l : Launch} {e : Env} {s : State} {m : MethodId} {args : Array Value} {below : List Frame} {meth : Method} {c : Code} {Q : State → Prop} {A : Nat → Prop} {D : va_G} {cI cJ cZ cO : ClassId} {q_this q_asked q_table q_hypothesis q_representatives q_table_prefixes q_table_suffixes q_table_known q_table_bits q_table_prefixes_words q_hypothesis_moves q_hypothesis_finals : Nat} {v_mode : Int32} {v_budget : Int32} {v_formed : Int32} {v_counterexample : Int64} {v_corrections : Int32} {v_deceived : Int32} {v_table_letters : Int32} {v_table_prefixes_size : Int32} {v_table_prefixes_longest : Int32} {v_table_bits : (Nat → Int32)} {v_hypothesis_size : Int32} {v_hypothesis_letters : Int32} {v_hypothesis_moves : (Nat → Int32)} {v_hypothesis_finals : (Nat → Int32)} {v_representatives : (Nat → Int32)} {x : (Nat → Int32) × (Nat → Int32) × Int32 × Int32 × (Nat → Int32) × Int32} {x1 : Int32} (C0 : Cx p s m args c A D cI cJ cZ cO cX1_formHypothesis 4 RX1) (hQ : RtV p l e rm_Le_formHypothesis s m args below meth c Q A D cX1_formHypothesis (ws_Le_formHypothesis cI cJ cZ q_this q_asked q_table q_hypothesis q_representatives q_table_prefixes q_table_suffixes q_table_known q_table_bits q_table_prefixes_words q_hypothesis_moves q_hypothesis_finals v_mode v_budget x.2.2.2.2.2 v_counterexample v_corrections v_deceived v_table_letters v_table_prefixes_size v_table_prefixes_longest v_table_bits x.2.2.1 x.2.2.2.1 x.1 x.2.1 x.2.2.2.2.1)) {K : Int32 → (Nat → Int32) → Int32 → (Nat → Int32) → Option ((Nat → Int32) × (Nat → Int32) × Int32 × Int32 × (Nat → Int32) × Int32)} (hK : ∀ (y1 : Int32) (u_hypothesis_finals : (Nat → Int32)) (u_hypothesis_size : Int32) (u_representatives : (Nat → Int32)) (H : Heap) (locs : List Loc) (ls : Array Slot), K y1 u_hypothesis_finals u_hypothesis_size u_representatives = some x → Wd s A D (ws_Le_formHypothesis cI cJ cZ q_this q_asked q_table q_hypothesis q_representatives q_table_prefixes q_table_suffixes q_table_known q_table_bits q_table_prefixes_words q_hypothesis_moves q_hypothesis_finals v_mode v_budget v_formed v_counterexample v_corrections v_deceived v_table_letters v_table_prefixes_size v_table_prefixes_longest v_table_bits u_hypothesis_size v_hypothesis_letters v_hypothesis_moves u_hypothesis_finals u_representatives) H locs → lv_has ls 4 [(0, .ref q_this)] → W p l e rm_Le_formHypothesis s m args below meth c H locs 0 0 Q (F0 m 103 ls [])) {rec : Int32 → (Nat → Int32) → Int32 → (Nat → Int32) → Option ((Nat → Int32) × (Nat → Int32) × Int32 × Int32 × (Nat → Int32) × Int32)} (hrec : ∀ (y1 : Int32) (u_hypothesis_finals : (Nat → Int32)) (u_hypothesis_size : Int32) (u_representatives : (Nat → Int32)) (H : Heap) (locs : List Loc) (ls : Array Slot), rec y1 u_hypothesis_finals u_hypothesis_size u_representatives = some x → Wd s A D (ws_Le_formHypothesis cI cJ cZ q_this q_asked q_table q_hypothesis q_representatives q_table_prefixes q_table_suffixes q_table_known q_table_bits q_table_prefixes_words q_hypothesis_moves q_hypothesis_finals v_mode v_budget v_formed v_counterexample v_corrections v_deceived v_table_letters v_table_prefixes_size v_table_prefixes_longest v_table_bits u_hypothesis_size v_hypothesis_letters v_hypothesis_moves u_hypothesis_finals u_representatives) H locs → lv_has ls 4 [(0, .ref q_this), (1, .int y1)] → W p l e rm_Le_formHypothesis s m args below meth c H locs 0 0 Q (F0 m 17 ls [])) {H : Heap} {locs : List Loc} {ls : Array Slot} (h : f_Le_formHypothesis_J97 rec x1 v_hypothesis_size v_hypothesis_finals v_representatives = some x) (w : Wd s A D (ws_Le_formHypothesis cI cJ cZ q_this q_asked q_table q_hypothesis q_representatives q_table_prefixes q_table_suffixes q_table_known q_table_bits q_table_prefixes_words q_hypothesis_moves q_hypothesis_finals v_mode v_budget v_formed v_counterexample v_corrections v_deceived v_table_letters v_table_prefixes_size v_table_prefixes_longest v_table_bits v_hypothesis_size v_hypothesis_letters v_hypothesis_moves v_hypothesis_finals v_representatives) H locs) (hl : lv_has ls 4 [(0, .ref q_this), (1, .int x1)]) : W p l e rm_Le_formHypothesis s m args below meth c H locs 0 0 Q (F0 m 97 ls []) := by
  obtain ⟨hx, hb, hml, hown, hts, -, -⟩ := id C0
  unfold f_Le_formHypothesis_J97 at h
  obtain ⟨x1_1, ex1_1⟩ : ∃ y : Int32, y = (x1 + 1) := ⟨_, rfl⟩
  have h := bnd_at ex1_1 h
  refine lv_iinc (v := x1_1) (lv' := [(1, .int x1_1), (0, .ref q_this)]) hx hb dX1_formHypothesis_97 hl (k := 1) rfl (by rw [ex1_1]; rfl) (by decide) rfl (fun ls hl => ?_)
  refine lv_goto (tgt := 17) hx hb dX1_formHypothesis_100 (by decide) ?_
  exact hrec _ _ _ _ _ _ _ h w (lv_sub hl [1, 0] rfl)
set_option maxRecDepth 100000 in
theorem w_Le_formHypothesis_L17 {p : Program} {l : Launch} {e : Env} {s : State} {m : MethodId} {args : Array Value} {below : List Frame} {meth : Method} {c : Code} {Q : State → Prop} {A : Nat → Prop} {D : va_G} {cI cJ cZ cO : ClassId} {q_this q_asked q_table q_hypothesis q_representatives q_table_prefixes q_table_suffixes q_table_known q_table_bits q_table_prefixes_words q_hypothesis_moves q_hypothesis_finals : Nat} {v_mode : Int32} {v_budget : Int32} {v_formed : Int32} {v_counterexample : Int64} {v_corrections : Int32} {v_deceived : Int32} {v_table_letters : Int32} {v_table_prefixes_size : Int32} {v_table_prefixes_longest : Int32} {v_table_bits : (Nat → Int32)} {v_hypothesis_letters : Int32} {v_hypothesis_moves : (Nat → Int32)} {x : (Nat → Int32) × (Nat → Int32) × Int32 × Int32 × (Nat → Int32) × Int32} (C0 : Cx p s m args c A D cI cJ cZ cO cX1_formHypothesis 4 RX1) (hQ : RtV p l e rm_Le_formHypothesis s m args below meth c Q A D cX1_formHypothesis (ws_Le_formHypothesis cI cJ cZ q_this q_asked q_table q_hypothesis q_representatives q_table_prefixes q_table_suffixes q_table_known q_table_bits q_table_prefixes_words q_hypothesis_moves q_hypothesis_finals v_mode v_budget x.2.2.2.2.2 v_counterexample v_corrections v_deceived v_table_letters v_table_prefixes_size v_table_prefixes_longest v_table_bits x.2.2.1 x.2.2.2.1 x.1 x.2.1 x.2.2.2.2.1)) {K : Int32 → (Nat → Int32) → Int32 → (Nat → Int32) → Option ((Nat → Int32) × (Nat → Int32) × Int32 × Int32 × (Nat → Int32) × Int32)} (hK : ∀ (x1 : Int32) (v_hypothesis_finals : (Nat → Int32)) (v_hypothesis_size : Int32) (v_representatives : (Nat → Int32)) (H : Heap) (locs : List Loc) (ls : Array Slot), K x1 v_hypothesis_finals v_hypothesis_size v_representatives = some x → Wd s A D (ws_Le_formHypothesis cI cJ cZ q_this q_asked q_table q_hypothesis q_representatives q_table_prefixes q_table_suffixes q_table_known q_table_bits q_table_prefixes_words q_hypothesis_moves q_hypothesis_finals v_mode v_budget v_formed v_counterexample v_corrections v_deceived v_table_letters v_table_prefixes_size v_table_prefixes_longest v_table_bits v_hypothesis_size v_hypothesis_letters v_hypothesis_moves v_hypothesis_finals v_representatives) H locs → lv_has ls 4 [(0, .ref q_this)] → W p l e rm_Le_formHypothesis s m args below meth c H locs 0 0 Q (F0 m 103 ls [])) {rec : Int32 → (Nat → Int32) → Int32 → (Nat → Int32) → Option ((Nat → Int32) × (Nat → Int32) × Int32 × Int32 × (Nat → Int32) × Int32)} (hrec : ∀ (x1 : Int32) (v_hypothesis_finals : (Nat → Int32)) (v_hypothesis_size : Int32) (v_representatives : (Nat → Int32)) (H : Heap) (locs : List Loc) (ls : Array Slot), rec x1 v_hypothesis_finals v_hypothesis_size v_representatives = some x → Wd s A D (ws_Le_formHypothesis cI cJ cZ q_this q_asked q_table q_hypothesis q_representatives q_table_prefixes q_table_suffixes q_table_known q_table_bits q_table_prefixes_words q_hypothesis_moves q_hypothesis_finals v_mode v_budget v_formed v_counterexample v_corrections v_deceived v_table_letters v_table_prefixes_size v_table_prefixes_longest v_table_bits v_hypothesis_size v_hypothesis_letters v_hypothesis_moves v_hypothesis_finals v_representatives) H locs → lv_has ls 4 [(0, .ref q_this), (1, .int x1)] → W p l e rm_Le_formHypothesis s m args below meth c H locs 0 0 Q (F0 m 17 ls [])) (x1 : Int32) (v_hypothesis_finals : (Nat → Int32)) (v_hypothesis_size : Int32) (v_representatives : (Nat → Int32)) {H : Heap} {locs : List Loc} {ls : Array Slot} (h : f_Le_formHypothesis_L17 v_table_prefixes_size v_table_bits K rec x1 v_hypothesis_finals v_hypothesis_size v_representatives = some x) (w : Wd s A D (ws_Le_formHypothesis cI cJ cZ q_this q_asked q_table q_hypothesis q_representatives q_table_prefixes q_table_suffixes q_table_known q_table_bits q_table_prefixes_words q_hypothesis_moves q_hypothesis_finals v_mode v_budget v_formed v_counterexample v_corrections v_deceived v_table_letters v_table_prefixes_size v_table_prefixes_longest v_table_bits v_hypothesis_size v_hypothesis_letters v_hypothesis_moves v_hypothesis_finals v_representatives) H locs) (hl : lv_has ls 4 [(0, .ref q_this), (1, .int x1)]) : W p l e rm_Le_formHypothesis s m args below meth c H locs 0 0 Q (F0 m 17 ls []) := by
  obtain ⟨hx, hb, hml, hown, hts, -, -⟩ := id C0
  unfold f_Le_formHypothesis_L17 at h
  refine lv_iload_n hx hb dX1_formHypothesis_17 rfl (lv_at hl 1 rfl) ?_
  refine lv_aload_n hx hb dX1_formHypothesis_18 rfl (lv_at hl 0 rfl) ?_
  refine r_get C0 w 0 rfl kf_Le 1 (by decide) lf_RX1_21 rfl dX1_formHypothesis_19 ?_
  refine r_get C0 w 1 rfl kf_Ta 0 (by decide) lf_RX1_133 rfl dX1_formHypothesis_22 ?_
  refine r_get C0 w 2 rfl kf_WL 1 (by decide) lf_RX1_137 rfl dX1_formHypothesis_25 ?_
  refine lv_icmp_ge (tgt := 103) hx hb dX1_formHypothesis_28 (by decide) (fun hc => ?_) (fun hc => ?_)
  · have h := if_h hc h
    exact hK _ _ _ _ _ _ _ h w (lv_sub hl [0] rfl)
  · have h := nf_h hc h
    refine lv_aload_n hx hb dX1_formHypothesis_31 rfl (lv_at hl 0 rfl) ?_
    refine r_get C0 w 0 rfl kf_Le 1 (by decide) lf_RX1_21 rfl dX1_formHypothesis_32 ?_
    refine r_get C0 w 1 rfl kf_Ta 3 (by decide) lf_RX1_140 rfl dX1_formHypothesis_35 ?_
    refine lv_iload_n hx hb dX1_formHypothesis_38 rfl (lv_at hl 1 rfl) ?_
    obtain ⟨r, hcall, h⟩ := bd1_h h
    obtain ⟨wr, hp, hp'⟩ := rd_of (ws := (ws_Le_formHypothesis cI cJ cZ q_this q_asked q_table q_hypothesis q_representatives q_table_prefixes q_table_suffixes q_table_known q_table_bits q_table_prefixes_words q_hypothesis_moves q_hypothesis_finals v_mode v_budget v_formed v_counterexample v_corrections v_deceived v_table_letters v_table_prefixes_size v_table_prefixes_longest v_table_bits v_hypothesis_size v_hypothesis_letters v_hypothesis_moves v_hypothesis_finals v_representatives)) (wc := (ws_Ta_prefixRow cI cJ cZ)) [] rfl rfl
    refine r_SI (r := r) (As := [.int x1]) (rest := [.ref q_table_bits]) (wc' := (ws_Ta_prefixRow cI cJ cZ)) (ws' := (ws_Le_formHypothesis cI cJ cZ q_this q_asked q_table q_hypothesis q_representatives q_table_prefixes q_table_suffixes q_table_known q_table_bits q_table_prefixes_words q_hypothesis_moves q_hypothesis_finals v_mode v_budget v_formed v_counterexample v_corrections v_deceived v_table_letters v_table_prefixes_size v_table_prefixes_longest v_table_bits v_hypothesis_size v_hypothesis_letters v_hypothesis_moves v_hypothesis_finals v_representatives)) C0 w (c_Ta_prefixRow hcall) hp hp' lm_RX1_143 ms_Ta_prefixRow ⟨rfl, rfl⟩ ⟨by decide, by decide⟩ ⟨Nat.zero_le _, Nat.zero_le _⟩ rfl hl rfl (Nat.le_of_ble_eq_true rfl) dX1_formHypothesis_39 (fun H locs w => ?_)
    obtain ⟨hi, h⟩ := gIn_h h
    refine r_iald C0 w 3 rfl rfl hi dX1_formHypothesis_42 ?_
    refine lv_topi (fun x2 ex2 => ?_)
    have h := bnd_at ex2 h
    refine lv_istore_n (lv' := [(2, .int x2), (0, .ref q_this), (1, .int x1)]) hx hb dX1_formHypothesis_43 rfl hl (by decide) rfl (fun ls hl => ?_)
    refine lv_aload_n hx hb dX1_formHypothesis_44 rfl (lv_at hl 1 rfl) ?_
    refine lv_iload_n hx hb dX1_formHypothesis_45 rfl (lv_at hl 0 rfl) ?_
    obtain ⟨r_1, hcall, h⟩ := bd1_h h
    obtain ⟨wr, hp, hp'⟩ := rd_of (ws := (ws_Le_formHypothesis cI cJ cZ q_this q_asked q_table q_hypothesis q_representatives q_table_prefixes q_table_suffixes q_table_known q_table_bits q_table_prefixes_words q_hypothesis_moves q_hypothesis_finals v_mode v_budget v_formed v_counterexample v_corrections v_deceived v_table_letters v_table_prefixes_size v_table_prefixes_longest v_table_bits v_hypothesis_size v_hypothesis_letters v_hypothesis_moves v_hypothesis_finals v_representatives)) (wc := (ws_Le_stateWithRow cI cJ cZ q_this q_asked q_table q_hypothesis q_representatives q_table_prefixes q_table_suffixes q_table_known q_table_bits q_hypothesis_moves q_hypothesis_finals v_mode v_budget v_formed v_counterexample v_corrections v_deceived v_table_letters v_table_bits v_hypothesis_size v_hypothesis_letters v_representatives)) [0, 1, 3, 4, 7] rfl rfl
    refine r_VI (r := r_1) (As := [.int x2]) (rest := []) (wc' := (ws_Le_stateWithRow cI cJ cZ q_this q_asked q_table q_hypothesis q_representatives q_table_prefixes q_table_suffixes q_table_known q_table_bits q_hypothesis_moves q_hypothesis_finals v_mode v_budget v_formed v_counterexample v_corrections v_deceived v_table_letters v_table_bits v_hypothesis_size v_hypothesis_letters v_representatives)) (ws' := (ws_Le_formHypothesis cI cJ cZ q_this q_asked q_table q_hypothesis q_representatives q_table_prefixes q_table_suffixes q_table_known q_table_bits q_table_prefixes_words q_hypothesis_moves q_hypothesis_finals v_mode v_budget v_formed v_counterexample v_corrections v_deceived v_table_letters v_table_prefixes_size v_table_prefixes_longest v_table_bits v_hypothesis_size v_hypothesis_letters v_hypothesis_moves v_hypothesis_finals v_representatives)) C0 w (c_Le_stateWithRow hcall) hp hp' lm_RX1_147 mv_Le_stateWithRow ⟨rfl, rfl⟩ ⟨by decide, by decide⟩ ⟨Nat.zero_le _, Nat.zero_le _⟩ (q0 := 0) rfl rfl rfl rfl hl rfl (Nat.le_of_ble_eq_true rfl) dX1_formHypothesis_46 (fun H locs w => ?_)
    refine lv_iconst (v := (-1 : Int32)) hx hb dX1_formHypothesis_49 (by decide) ?_
    refine lv_icmp_ne (tgt := 97) hx hb dX1_formHypothesis_50 (by decide) (fun hc => ?_) (fun hc => ?_)
    · have h := nf_h hc h
      exact w_Le_formHypothesis_J97 C0 hQ hK hrec h w (lv_sub hl [1, 2] rfl)
    · have h := if_h hc h
      refine lv_aload_n hx hb dX1_formHypothesis_53 rfl (lv_at hl 1 rfl) ?_
      refine r_get C0 w 0 rfl kf_Le 3 (by decide) lf_RX1_34 rfl dX1_formHypothesis_54 ?_
      refine lv_aload_n hx hb dX1_formHypothesis_57 rfl (lv_at hl 1 rfl) ?_
      refine r_get C0 w 0 rfl kf_Le 2 (by decide) lf_RX1_30 rfl dX1_formHypothesis_58 ?_
      refine r_get C0 w 4 rfl kf_Au 2 (by decide) lf_RX1_71 rfl dX1_formHypothesis_61 ?_
      refine lv_iload_n hx hb dX1_formHypothesis_64 rfl (lv_at hl 2 rfl) ?_
      obtain ⟨hi, h⟩ := gIn_h h
      obtain ⟨v_representatives_1, ev_representatives_1⟩ : ∃ y, y = (upd v_representatives v_hypothesis_size.toNatClampNeg x1) := ⟨_, rfl⟩
      have h := bnd_at ev_representatives_1 h
      refine r_iast C0 w 7 rfl (f' := v_representatives_1) rfl hi ev_representatives_1 dX1_formHypothesis_65 (ws' := (ws_Le_formHypothesis cI cJ cZ q_this q_asked q_table q_hypothesis q_representatives q_table_prefixes q_table_suffixes q_table_known q_table_bits q_table_prefixes_words q_hypothesis_moves q_hypothesis_finals v_mode v_budget v_formed v_counterexample v_corrections v_deceived v_table_letters v_table_prefixes_size v_table_prefixes_longest v_table_bits v_hypothesis_size v_hypothesis_letters v_hypothesis_moves v_hypothesis_finals v_representatives_1)) rfl (fun H locs w => ?_)
      refine lv_aload_n hx hb dX1_formHypothesis_66 rfl (lv_at hl 1 rfl) ?_
      refine r_get C0 w 0 rfl kf_Le 2 (by decide) lf_RX1_30 rfl dX1_formHypothesis_67 ?_
      refine r_get C0 w 4 rfl kf_Au 1 (by decide) lf_RX1_150 rfl dX1_formHypothesis_70 ?_
      refine lv_aload_n hx hb dX1_formHypothesis_73 rfl (lv_at hl 1 rfl) ?_
      refine r_get C0 w 0 rfl kf_Le 2 (by decide) lf_RX1_30 rfl dX1_formHypothesis_74 ?_
      refine r_get C0 w 4 rfl kf_Au 2 (by decide) lf_RX1_71 rfl dX1_formHypothesis_77 ?_
      refine lv_iload_n hx hb dX1_formHypothesis_80 rfl (lv_at hl 0 rfl) ?_
      refine lv_iconst (v := (1 : Int32)) hx hb dX1_formHypothesis_81 (by decide) ?_
      refine lv_iand hx hb dX1_formHypothesis_82 ?_
      obtain ⟨hi, h⟩ := gIn_h h
      obtain ⟨v_hypothesis_finals_1, ev_hypothesis_finals_1⟩ : ∃ y, y = (upd v_hypothesis_finals v_hypothesis_size.toNatClampNeg (x2 &&& (1 : Int32))) := ⟨_, rfl⟩
      have h := bnd_at ev_hypothesis_finals_1 h
      refine r_iast C0 w 6 rfl (f' := v_hypothesis_finals_1) rfl hi ev_hypothesis_finals_1 dX1_formHypothesis_83 (ws' := (ws_Le_formHypothesis cI cJ cZ q_this q_asked q_table q_hypothesis q_representatives q_table_prefixes q_table_suffixes q_table_known q_table_bits q_table_prefixes_words q_hypothesis_moves q_hypothesis_finals v_mode v_budget v_formed v_counterexample v_corrections v_deceived v_table_letters v_table_prefixes_size v_table_prefixes_longest v_table_bits v_hypothesis_size v_hypothesis_letters v_hypothesis_moves v_hypothesis_finals_1 v_representatives_1)) rfl (fun H locs w => ?_)
      refine lv_aload_n hx hb dX1_formHypothesis_84 rfl (lv_at hl 1 rfl) ?_
      refine r_get C0 w 0 rfl kf_Le 2 (by decide) lf_RX1_30 rfl dX1_formHypothesis_85 ?_
      refine lv_dup hx hb dX1_formHypothesis_88 rfl ?_
      refine r_get C0 w 4 rfl kf_Au 2 (by decide) lf_RX1_71 rfl dX1_formHypothesis_89 ?_
      refine lv_iconst (v := (1 : Int32)) hx hb dX1_formHypothesis_92 (by decide) ?_
      refine lv_iadd hx hb dX1_formHypothesis_93 ?_
      refine lv_topi (fun v_hypothesis_size_1 ev_hypothesis_size_1 => ?_)
      have h := bnd_at ev_hypothesis_size_1 h
      refine r_put C0 w 4 rfl kf_Au 2 (by decide) lf_RX1_71 rfl rfl rfl (Nat.le_of_ble_eq_true rfl) dX1_formHypothesis_94 (ws' := (ws_Le_formHypothesis cI cJ cZ q_this q_asked q_table q_hypothesis q_representatives q_table_prefixes q_table_suffixes q_table_known q_table_bits q_table_prefixes_words q_hypothesis_moves q_hypothesis_finals v_mode v_budget v_formed v_counterexample v_corrections v_deceived v_table_letters v_table_prefixes_size v_table_prefixes_longest v_table_bits v_hypothesis_size_1 v_hypothesis_letters v_hypothesis_moves v_hypothesis_finals_1 v_representatives_1)) rfl (fun H locs w => ?_)
      exact w_Le_formHypothesis_J97 C0 hQ hK hrec h w (lv_sub hl [1, 2] rfl)
set_option maxRecDepth 100000 in
theorem wl_Le_formHypothesis_L17 {p : Program} {l : Launch} {e : Env} {s : State} {m : MethodId} {args : Array Value} {below : List Frame} {meth : Method} {c : Code} {Q : State → Prop} {A : Nat → Prop} {D : va_G} {cI cJ cZ cO : ClassId} {q_this q_asked q_table q_hypothesis q_representatives q_table_prefixes q_table_suffixes q_table_known q_table_bits q_table_prefixes_words q_hypothesis_moves q_hypothesis_finals : Nat} {v_mode : Int32} {v_budget : Int32} {v_formed : Int32} {v_counterexample : Int64} {v_corrections : Int32} {v_deceived : Int32} {v_table_letters : Int32} {v_table_prefixes_size : Int32} {v_table_prefixes_longest : Int32} {v_table_bits : (Nat → Int32)} {v_hypothesis_letters : Int32} {v_hypothesis_moves : (Nat → Int32)} {x : (Nat → Int32) × (Nat → Int32) × Int32 × Int32 × (Nat → Int32) × Int32} (C0 : Cx p s m args c A D cI cJ cZ cO cX1_formHypothesis 4 RX1) (hQ : RtV p l e rm_Le_formHypothesis s m args below meth c Q A D cX1_formHypothesis (ws_Le_formHypothesis cI cJ cZ q_this q_asked q_table q_hypothesis q_representatives q_table_prefixes q_table_suffixes q_table_known q_table_bits q_table_prefixes_words q_hypothesis_moves q_hypothesis_finals v_mode v_budget x.2.2.2.2.2 v_counterexample v_corrections v_deceived v_table_letters v_table_prefixes_size v_table_prefixes_longest v_table_bits x.2.2.1 x.2.2.2.1 x.1 x.2.1 x.2.2.2.2.1)) {K : Int32 → (Nat → Int32) → Int32 → (Nat → Int32) → Option ((Nat → Int32) × (Nat → Int32) × Int32 × Int32 × (Nat → Int32) × Int32)} (hK : ∀ (x1 : Int32) (v_hypothesis_finals : (Nat → Int32)) (v_hypothesis_size : Int32) (v_representatives : (Nat → Int32)) (H : Heap) (locs : List Loc) (ls : Array Slot), K x1 v_hypothesis_finals v_hypothesis_size v_representatives = some x → Wd s A D (ws_Le_formHypothesis cI cJ cZ q_this q_asked q_table q_hypothesis q_representatives q_table_prefixes q_table_suffixes q_table_known q_table_bits q_table_prefixes_words q_hypothesis_moves q_hypothesis_finals v_mode v_budget v_formed v_counterexample v_corrections v_deceived v_table_letters v_table_prefixes_size v_table_prefixes_longest v_table_bits v_hypothesis_size v_hypothesis_letters v_hypothesis_moves v_hypothesis_finals v_representatives) H locs → lv_has ls 4 [(0, .ref q_this)] → W p l e rm_Le_formHypothesis s m args below meth c H locs 0 0 Q (F0 m 103 ls [])) : ∀ (n : Nat) (x1 : Int32) (v_hypothesis_finals : (Nat → Int32)) (v_hypothesis_size : Int32) (v_representatives : (Nat → Int32)) (H : Heap) (locs : List Loc) (ls : Array Slot), itr (fun _ _ _ _ => none) (f_Le_formHypothesis_L17 v_table_prefixes_size v_table_bits K) n x1 v_hypothesis_finals v_hypothesis_size v_representatives = some x → Wd s A D (ws_Le_formHypothesis cI cJ cZ q_this q_asked q_table q_hypothesis q_representatives q_table_prefixes q_table_suffixes q_table_known q_table_bits q_table_prefixes_words q_hypothesis_moves q_hypothesis_finals v_mode v_budget v_formed v_counterexample v_corrections v_deceived v_table_letters v_table_prefixes_size v_table_prefixes_longest v_table_bits v_hypothesis_size v_hypothesis_letters v_hypothesis_moves v_hypothesis_finals v_representatives) H locs → lv_has ls 4 [(0, .ref q_this), (1, .int x1)] → W p l e rm_Le_formHypothesis s m args below meth c H locs 0 0 Q (F0 m 17 ls []) := by
  intro n
  induction n with
  | zero => intro _ _ _ _ _ _ _ h; cases (show none = some _ from h)
  | succ n ih => intro _ _ _ _ _ _ _ h w hl; exact w_Le_formHypothesis_L17 C0 hQ hK ih _ _ _ _ h w hl
set_option maxRecDepth 100000 in
theorem w_Le_formHypothesis_L118 {p : Program} {l : Launch} {e : Env} {s : State} {m : MethodId} {args : Array Value} {below : List Frame} {meth : Method} {c : Code} {Q : State → Prop} {A : Nat → Prop} {D : va_G} {cI cJ cZ cO : ClassId} {q_this q_asked q_table q_hypothesis q_representatives q_table_prefixes q_table_suffixes q_table_known q_table_bits q_table_prefixes_words q_hypothesis_moves q_hypothesis_finals : Nat} {v_mode : Int32} {v_budget : Int32} {v_formed : Int32} {v_counterexample : Int64} {v_corrections : Int32} {v_deceived : Int32} {v_table_letters : Int32} {v_table_prefixes_size : Int32} {v_table_prefixes_longest : Int32} {v_table_bits : (Nat → Int32)} {v_hypothesis_size : Int32} {v_hypothesis_letters : Int32} {v_hypothesis_finals : (Nat → Int32)} {v_representatives : (Nat → Int32)} {x1 : Int32} {x : (Nat → Int32) × (Nat → Int32) × Int32 × Int32 × (Nat → Int32) × Int32} (C0 : Cx p s m args c A D cI cJ cZ cO cX1_formHypothesis 4 RX1) (hQ : RtV p l e rm_Le_formHypothesis s m args below meth c Q A D cX1_formHypothesis (ws_Le_formHypothesis cI cJ cZ q_this q_asked q_table q_hypothesis q_representatives q_table_prefixes q_table_suffixes q_table_known q_table_bits q_table_prefixes_words q_hypothesis_moves q_hypothesis_finals v_mode v_budget x.2.2.2.2.2 v_counterexample v_corrections v_deceived v_table_letters v_table_prefixes_size v_table_prefixes_longest v_table_bits x.2.2.1 x.2.2.2.1 x.1 x.2.1 x.2.2.2.2.1)) {K : Int32 → (Nat → Int32) → Option ((Nat → Int32) × (Nat → Int32) × Int32 × Int32 × (Nat → Int32) × Int32)} (hK : ∀ (x2 : Int32) (v_hypothesis_moves : (Nat → Int32)) (H : Heap) (locs : List Loc) (ls : Array Slot), K x2 v_hypothesis_moves = some x → Wd s A D (ws_Le_formHypothesis cI cJ cZ q_this q_asked q_table q_hypothesis q_representatives q_table_prefixes q_table_suffixes q_table_known q_table_bits q_table_prefixes_words q_hypothesis_moves q_hypothesis_finals v_mode v_budget v_formed v_counterexample v_corrections v_deceived v_table_letters v_table_prefixes_size v_table_prefixes_longest v_table_bits v_hypothesis_size v_hypothesis_letters v_hypothesis_moves v_hypothesis_finals v_representatives) H locs → lv_has ls 4 [(0, .ref q_this), (1, .int x1)] → W p l e rm_Le_formHypothesis s m args below meth c H locs 0 0 Q (F0 m 172 ls [])) {rec : Int32 → (Nat → Int32) → Option ((Nat → Int32) × (Nat → Int32) × Int32 × Int32 × (Nat → Int32) × Int32)} (hrec : ∀ (x2 : Int32) (v_hypothesis_moves : (Nat → Int32)) (H : Heap) (locs : List Loc) (ls : Array Slot), rec x2 v_hypothesis_moves = some x → Wd s A D (ws_Le_formHypothesis cI cJ cZ q_this q_asked q_table q_hypothesis q_representatives q_table_prefixes q_table_suffixes q_table_known q_table_bits q_table_prefixes_words q_hypothesis_moves q_hypothesis_finals v_mode v_budget v_formed v_counterexample v_corrections v_deceived v_table_letters v_table_prefixes_size v_table_prefixes_longest v_table_bits v_hypothesis_size v_hypothesis_letters v_hypothesis_moves v_hypothesis_finals v_representatives) H locs → lv_has ls 4 [(0, .ref q_this), (1, .int x1), (2, .int x2)] → W p l e rm_Le_formHypothesis s m args below meth c H locs 0 0 Q (F0 m 118 ls [])) (x2 : Int32) (v_hypothesis_moves : (Nat → Int32)) {H : Heap} {locs : List Loc} {ls : Array Slot} (h : f_Le_formHypothesis_L118 v_table_letters v_table_bits v_hypothesis_size v_representatives x1 K rec x2 v_hypothesis_moves = some x) (w : Wd s A D (ws_Le_formHypothesis cI cJ cZ q_this q_asked q_table q_hypothesis q_representatives q_table_prefixes q_table_suffixes q_table_known q_table_bits q_table_prefixes_words q_hypothesis_moves q_hypothesis_finals v_mode v_budget v_formed v_counterexample v_corrections v_deceived v_table_letters v_table_prefixes_size v_table_prefixes_longest v_table_bits v_hypothesis_size v_hypothesis_letters v_hypothesis_moves v_hypothesis_finals v_representatives) H locs) (hl : lv_has ls 4 [(0, .ref q_this), (1, .int x1), (2, .int x2)]) : W p l e rm_Le_formHypothesis s m args below meth c H locs 0 0 Q (F0 m 118 ls []) := by
  obtain ⟨hx, hb, hml, hown, hts, -, -⟩ := id C0
  unfold f_Le_formHypothesis_L118 at h
  refine lv_iload_n hx hb dX1_formHypothesis_118 rfl (lv_at hl 2 rfl) ?_
  refine lv_aload_n hx hb dX1_formHypothesis_119 rfl (lv_at hl 0 rfl) ?_
  refine r_get C0 w 0 rfl kf_Le 1 (by decide) lf_RX1_21 rfl dX1_formHypothesis_120 ?_
  refine r_get C0 w 1 rfl kf_Ta 4 (by decide) lf_RX1_130 rfl dX1_formHypothesis_123 ?_
  refine lv_icmp_ge (tgt := 172) hx hb dX1_formHypothesis_126 (by decide) (fun hc => ?_) (fun hc => ?_)
  · have h := if_h hc h
    exact hK _ _ _ _ _ h w (lv_sub hl [0, 1] rfl)
  · have h := nf_h hc h
    refine lv_aload_n hx hb dX1_formHypothesis_129 rfl (lv_at hl 0 rfl) ?_
    refine r_get C0 w 0 rfl kf_Le 1 (by decide) lf_RX1_21 rfl dX1_formHypothesis_130 ?_
    refine r_get C0 w 1 rfl kf_Ta 3 (by decide) lf_RX1_140 rfl dX1_formHypothesis_133 ?_
    refine lv_aload_n hx hb dX1_formHypothesis_136 rfl (lv_at hl 0 rfl) ?_
    refine r_get C0 w 0 rfl kf_Le 3 (by decide) lf_RX1_34 rfl dX1_formHypothesis_137 ?_
    refine lv_iload_n hx hb dX1_formHypothesis_140 rfl (lv_at hl 1 rfl) ?_
    obtain ⟨hi, h⟩ := gIn_h h
    refine r_iald C0 w 7 rfl rfl hi dX1_formHypothesis_141 ?_
    refine lv_iload_n hx hb dX1_formHypothesis_142 rfl (lv_at hl 2 rfl) ?_
    obtain ⟨r, hcall, h⟩ := bd1_h h
    obtain ⟨wr, hp, hp'⟩ := rd_of (ws := (ws_Le_formHypothesis cI cJ cZ q_this q_asked q_table q_hypothesis q_representatives q_table_prefixes q_table_suffixes q_table_known q_table_bits q_table_prefixes_words q_hypothesis_moves q_hypothesis_finals v_mode v_budget v_formed v_counterexample v_corrections v_deceived v_table_letters v_table_prefixes_size v_table_prefixes_longest v_table_bits v_hypothesis_size v_hypothesis_letters v_hypothesis_moves v_hypothesis_finals v_representatives)) (wc := (ws_Ta_extensionRow cI cJ cZ)) [] rfl rfl
    refine r_SI (r := r) (As := [.int (v_representatives x1.toNatClampNeg), .int x2]) (rest := [.ref q_table_bits]) (wc' := (ws_Ta_extensionRow cI cJ cZ)) (ws' := (ws_Le_formHypothesis cI cJ cZ q_this q_asked q_table q_hypothesis q_representatives q_table_prefixes q_table_suffixes q_table_known q_table_bits q_table_prefixes_words q_hypothesis_moves q_hypothesis_finals v_mode v_budget v_formed v_counterexample v_corrections v_deceived v_table_letters v_table_prefixes_size v_table_prefixes_longest v_table_bits v_hypothesis_size v_hypothesis_letters v_hypothesis_moves v_hypothesis_finals v_representatives)) C0 w (c_Ta_extensionRow hcall) hp hp' lm_RX1_153 ms_Ta_extensionRow ⟨rfl, rfl⟩ ⟨by decide, by decide⟩ ⟨Nat.zero_le _, Nat.zero_le _⟩ rfl hl rfl (Nat.le_of_ble_eq_true rfl) dX1_formHypothesis_143 (fun H locs w => ?_)
    obtain ⟨hi, h⟩ := gIn_h h
    refine r_iald C0 w 3 rfl rfl hi dX1_formHypothesis_146 ?_
    refine lv_topi (fun x3 ex3 => ?_)
    have h := bnd_at ex3 h
    refine lv_istore_n (lv' := [(3, .int x3), (0, .ref q_this), (1, .int x1), (2, .int x2)]) hx hb dX1_formHypothesis_147 rfl hl (by decide) rfl (fun ls hl => ?_)
    refine lv_aload_n hx hb dX1_formHypothesis_148 rfl (lv_at hl 1 rfl) ?_
    refine r_get C0 w 0 rfl kf_Le 2 (by decide) lf_RX1_30 rfl dX1_formHypothesis_149 ?_
    refine lv_iload_n hx hb dX1_formHypothesis_152 rfl (lv_at hl 2 rfl) ?_
    refine lv_iload_n hx hb dX1_formHypothesis_153 rfl (lv_at hl 3 rfl) ?_
    refine lv_iconst (v := (0 : Int32)) hx hb dX1_formHypothesis_154 (by decide) ?_
    refine lv_aload_n hx hb dX1_formHypothesis_155 rfl (lv_at hl 1 rfl) ?_
    refine lv_iload_n hx hb dX1_formHypothesis_156 rfl (lv_at hl 0 rfl) ?_
    obtain ⟨r_1, hcall, h⟩ := bd1_h h
    obtain ⟨wr, hp, hp'⟩ := rd_of (ws := (ws_Le_formHypothesis cI cJ cZ q_this q_asked q_table q_hypothesis q_representatives q_table_prefixes q_table_suffixes q_table_known q_table_bits q_table_prefixes_words q_hypothesis_moves q_hypothesis_finals v_mode v_budget v_formed v_counterexample v_corrections v_deceived v_table_letters v_table_prefixes_size v_table_prefixes_longest v_table_bits v_hypothesis_size v_hypothesis_letters v_hypothesis_moves v_hypothesis_finals v_representatives)) (wc := (ws_Le_stateWithRow cI cJ cZ q_this q_asked q_table q_hypothesis q_representatives q_table_prefixes q_table_suffixes q_table_known q_table_bits q_hypothesis_moves q_hypothesis_finals v_mode v_budget v_formed v_counterexample v_corrections v_deceived v_table_letters v_table_bits v_hypothesis_size v_hypothesis_letters v_representatives)) [0, 1, 3, 4, 7] rfl rfl
    refine r_VI (r := r_1) (As := [.int x3]) (rest := [.int (0 : Int32), .int x2, .int x1, .ref q_hypothesis]) (wc' := (ws_Le_stateWithRow cI cJ cZ q_this q_asked q_table q_hypothesis q_representatives q_table_prefixes q_table_suffixes q_table_known q_table_bits q_hypothesis_moves q_hypothesis_finals v_mode v_budget v_formed v_counterexample v_corrections v_deceived v_table_letters v_table_bits v_hypothesis_size v_hypothesis_letters v_representatives)) (ws' := (ws_Le_formHypothesis cI cJ cZ q_this q_asked q_table q_hypothesis q_representatives q_table_prefixes q_table_suffixes q_table_known q_table_bits q_table_prefixes_words q_hypothesis_moves q_hypothesis_finals v_mode v_budget v_formed v_counterexample v_corrections v_deceived v_table_letters v_table_prefixes_size v_table_prefixes_longest v_table_bits v_hypothesis_size v_hypothesis_letters v_hypothesis_moves v_hypothesis_finals v_representatives)) C0 w (c_Le_stateWithRow hcall) hp hp' lm_RX1_147 mv_Le_stateWithRow ⟨rfl, rfl⟩ ⟨by decide, by decide⟩ ⟨Nat.zero_le _, Nat.zero_le _⟩ (q0 := 0) rfl rfl rfl rfl hl rfl (Nat.le_of_ble_eq_true rfl) dX1_formHypothesis_157 (fun H locs w => ?_)
    refine r_max C0 hl lm_RX1_157 mx_st mx_in mx_co ⟨by decide, by decide⟩ (Nat.le_of_ble_eq_true rfl) ⟨Nat.zero_le _, Nat.zero_le _⟩ dX1_formHypothesis_160 ?_
    obtain ⟨v_hypothesis_moves_1, hcall, h⟩ := bd1_h h
    have hp := sp_of (ws := (ws_Le_formHypothesis cI cJ cZ q_this q_asked q_table q_hypothesis q_representatives q_table_prefixes q_table_suffixes q_table_known q_table_bits q_table_prefixes_words q_hypothesis_moves q_hypothesis_finals v_mode v_budget v_formed v_counterexample v_corrections v_deceived v_table_letters v_table_prefixes_size v_table_prefixes_longest v_table_bits v_hypothesis_size v_hypothesis_letters v_hypothesis_moves v_hypothesis_finals v_representatives)) (wc := (ws_Au_lead cI cJ cZ q_hypothesis q_hypothesis_moves q_hypothesis_finals 120 v_hypothesis_size v_hypothesis_letters v_hypothesis_moves)) [4, 5] [0, 1, 2, 3, 6, 7] rfl rfl
    have hp' : Rp (pk (ws_Le_formHypothesis cI cJ cZ q_this q_asked q_table q_hypothesis q_representatives q_table_prefixes q_table_suffixes q_table_known q_table_bits q_table_prefixes_words q_hypothesis_moves q_hypothesis_finals v_mode v_budget v_formed v_counterexample v_corrections v_deceived v_table_letters v_table_prefixes_size v_table_prefixes_longest v_table_bits v_hypothesis_size v_hypothesis_letters v_hypothesis_moves v_hypothesis_finals v_representatives) [0, 1, 2, 3, 6, 7] ++ (ws_Au_lead cI cJ cZ q_hypothesis q_hypothesis_moves q_hypothesis_finals 120 v_hypothesis_size v_hypothesis_letters v_hypothesis_moves_1)) (ws_Le_formHypothesis cI cJ cZ q_this q_asked q_table q_hypothesis q_representatives q_table_prefixes q_table_suffixes q_table_known q_table_bits q_table_prefixes_words q_hypothesis_moves q_hypothesis_finals v_mode v_budget v_formed v_counterexample v_corrections v_deceived v_table_letters v_table_prefixes_size v_table_prefixes_longest v_table_bits v_hypothesis_size v_hypothesis_letters v_hypothesis_moves_1 v_hypothesis_finals v_representatives) := ⟨[0, 1, 2, 3, 6, 7, 4, 5], rfl, rfl⟩
    refine r_VV (As := [.int x1, .int x2, .int (if (0 : Int32) < r_1 then r_1 else (0 : Int32))]) (rest := []) (wc' := (ws_Au_lead cI cJ cZ q_hypothesis q_hypothesis_moves q_hypothesis_finals 120 v_hypothesis_size v_hypothesis_letters v_hypothesis_moves_1)) (ws' := (ws_Le_formHypothesis cI cJ cZ q_this q_asked q_table q_hypothesis q_representatives q_table_prefixes q_table_suffixes q_table_known q_table_bits q_table_prefixes_words q_hypothesis_moves q_hypothesis_finals v_mode v_budget v_formed v_counterexample v_corrections v_deceived v_table_letters v_table_prefixes_size v_table_prefixes_longest v_table_bits v_hypothesis_size v_hypothesis_letters v_hypothesis_moves_1 v_hypothesis_finals v_representatives)) C0 w (c_Au_lead hcall) hp hp' lm_RX1_162 mv_Au_lead ⟨rfl, rfl⟩ ⟨by decide, by decide⟩ ⟨Nat.zero_le _, Nat.zero_le _⟩ (q0 := 4) rfl rfl rfl rfl hl rfl (Nat.le_of_ble_eq_true rfl) dX1_formHypothesis_163 (fun H locs w => ?_)
    obtain ⟨x2_1, ex2_1⟩ : ∃ y : Int32, y = (x2 + 1) := ⟨_, rfl⟩
    have h := bnd_at ex2_1 h
    refine lv_iinc (v := x2_1) (lv' := [(2, .int x2_1), (3, .int x3), (0, .ref q_this), (1, .int x1)]) hx hb dX1_formHypothesis_166 hl (k := 3) rfl (by rw [ex2_1]; rfl) (by decide) rfl (fun ls hl => ?_)
    refine lv_goto (tgt := 118) hx hb dX1_formHypothesis_169 (by decide) ?_
    exact hrec _ _ _ _ _ h w (lv_sub hl [2, 3, 0] rfl)
set_option maxRecDepth 100000 in
theorem wl_Le_formHypothesis_L118 {p : Program} {l : Launch} {e : Env} {s : State} {m : MethodId} {args : Array Value} {below : List Frame} {meth : Method} {c : Code} {Q : State → Prop} {A : Nat → Prop} {D : va_G} {cI cJ cZ cO : ClassId} {q_this q_asked q_table q_hypothesis q_representatives q_table_prefixes q_table_suffixes q_table_known q_table_bits q_table_prefixes_words q_hypothesis_moves q_hypothesis_finals : Nat} {v_mode : Int32} {v_budget : Int32} {v_formed : Int32} {v_counterexample : Int64} {v_corrections : Int32} {v_deceived : Int32} {v_table_letters : Int32} {v_table_prefixes_size : Int32} {v_table_prefixes_longest : Int32} {v_table_bits : (Nat → Int32)} {v_hypothesis_size : Int32} {v_hypothesis_letters : Int32} {v_hypothesis_finals : (Nat → Int32)} {v_representatives : (Nat → Int32)} {x1 : Int32} {x : (Nat → Int32) × (Nat → Int32) × Int32 × Int32 × (Nat → Int32) × Int32} (C0 : Cx p s m args c A D cI cJ cZ cO cX1_formHypothesis 4 RX1) (hQ : RtV p l e rm_Le_formHypothesis s m args below meth c Q A D cX1_formHypothesis (ws_Le_formHypothesis cI cJ cZ q_this q_asked q_table q_hypothesis q_representatives q_table_prefixes q_table_suffixes q_table_known q_table_bits q_table_prefixes_words q_hypothesis_moves q_hypothesis_finals v_mode v_budget x.2.2.2.2.2 v_counterexample v_corrections v_deceived v_table_letters v_table_prefixes_size v_table_prefixes_longest v_table_bits x.2.2.1 x.2.2.2.1 x.1 x.2.1 x.2.2.2.2.1)) {K : Int32 → (Nat → Int32) → Option ((Nat → Int32) × (Nat → Int32) × Int32 × Int32 × (Nat → Int32) × Int32)} (hK : ∀ (x2 : Int32) (v_hypothesis_moves : (Nat → Int32)) (H : Heap) (locs : List Loc) (ls : Array Slot), K x2 v_hypothesis_moves = some x → Wd s A D (ws_Le_formHypothesis cI cJ cZ q_this q_asked q_table q_hypothesis q_representatives q_table_prefixes q_table_suffixes q_table_known q_table_bits q_table_prefixes_words q_hypothesis_moves q_hypothesis_finals v_mode v_budget v_formed v_counterexample v_corrections v_deceived v_table_letters v_table_prefixes_size v_table_prefixes_longest v_table_bits v_hypothesis_size v_hypothesis_letters v_hypothesis_moves v_hypothesis_finals v_representatives) H locs → lv_has ls 4 [(0, .ref q_this), (1, .int x1)] → W p l e rm_Le_formHypothesis s m args below meth c H locs 0 0 Q (F0 m 172 ls [])) : ∀ (n : Nat) (x2 : Int32) (v_hypothesis_moves : (Nat → Int32)) (H : Heap) (locs : List Loc) (ls : Array Slot), itr (fun _ _ => none) (f_Le_formHypothesis_L118 v_table_letters v_table_bits v_hypothesis_size v_representatives x1 K) n x2 v_hypothesis_moves = some x → Wd s A D (ws_Le_formHypothesis cI cJ cZ q_this q_asked q_table q_hypothesis q_representatives q_table_prefixes q_table_suffixes q_table_known q_table_bits q_table_prefixes_words q_hypothesis_moves q_hypothesis_finals v_mode v_budget v_formed v_counterexample v_corrections v_deceived v_table_letters v_table_prefixes_size v_table_prefixes_longest v_table_bits v_hypothesis_size v_hypothesis_letters v_hypothesis_moves v_hypothesis_finals v_representatives) H locs → lv_has ls 4 [(0, .ref q_this), (1, .int x1), (2, .int x2)] → W p l e rm_Le_formHypothesis s m args below meth c H locs 0 0 Q (F0 m 118 ls []) := by
  intro n
  induction n with
  | zero => intro _ _ _ _ _ h; cases (show none = some _ from h)
  | succ n ih => intro _ _ _ _ _ h w hl; exact w_Le_formHypothesis_L118 C0 hQ hK ih _ _ h w hl
set_option maxRecDepth 100000 in
theorem w_Le_formHypothesis_L105 {p : Program} {l : Launch} {e : Env} {s : State} {m : MethodId} {args : Array Value} {below : List Frame} {meth : Method} {c : Code} {Q : State → Prop} {A : Nat → Prop} {D : va_G} {cI cJ cZ cO : ClassId} {q_this q_asked q_table q_hypothesis q_representatives q_table_prefixes q_table_suffixes q_table_known q_table_bits q_table_prefixes_words q_hypothesis_moves q_hypothesis_finals : Nat} {v_mode : Int32} {v_budget : Int32} {v_formed : Int32} {v_counterexample : Int64} {v_corrections : Int32} {v_deceived : Int32} {v_table_letters : Int32} {v_table_prefixes_size : Int32} {v_table_prefixes_longest : Int32} {v_table_bits : (Nat → Int32)} {v_hypothesis_size : Int32} {v_hypothesis_letters : Int32} {v_hypothesis_finals : (Nat → Int32)} {v_representatives : (Nat → Int32)} {x : (Nat → Int32) × (Nat → Int32) × Int32 × Int32 × (Nat → Int32) × Int32} (C0 : Cx p s m args c A D cI cJ cZ cO cX1_formHypothesis 4 RX1) (hQ : RtV p l e rm_Le_formHypothesis s m args below meth c Q A D cX1_formHypothesis (ws_Le_formHypothesis cI cJ cZ q_this q_asked q_table q_hypothesis q_representatives q_table_prefixes q_table_suffixes q_table_known q_table_bits q_table_prefixes_words q_hypothesis_moves q_hypothesis_finals v_mode v_budget x.2.2.2.2.2 v_counterexample v_corrections v_deceived v_table_letters v_table_prefixes_size v_table_prefixes_longest v_table_bits x.2.2.1 x.2.2.2.1 x.1 x.2.1 x.2.2.2.2.1)) {K : Int32 → (Nat → Int32) → Option ((Nat → Int32) × (Nat → Int32) × Int32 × Int32 × (Nat → Int32) × Int32)} (hK : ∀ (x1 : Int32) (v_hypothesis_moves : (Nat → Int32)) (H : Heap) (locs : List Loc) (ls : Array Slot), K x1 v_hypothesis_moves = some x → Wd s A D (ws_Le_formHypothesis cI cJ cZ q_this q_asked q_table q_hypothesis q_representatives q_table_prefixes q_table_suffixes q_table_known q_table_bits q_table_prefixes_words q_hypothesis_moves q_hypothesis_finals v_mode v_budget v_formed v_counterexample v_corrections v_deceived v_table_letters v_table_prefixes_size v_table_prefixes_longest v_table_bits v_hypothesis_size v_hypothesis_letters v_hypothesis_moves v_hypothesis_finals v_representatives) H locs → lv_has ls 4 [(0, .ref q_this)] → W p l e rm_Le_formHypothesis s m args below meth c H locs 0 0 Q (F0 m 178 ls [])) {rec : Int32 → (Nat → Int32) → Option ((Nat → Int32) × (Nat → Int32) × Int32 × Int32 × (Nat → Int32) × Int32)} (hrec : ∀ (x1 : Int32) (v_hypothesis_moves : (Nat → Int32)) (H : Heap) (locs : List Loc) (ls : Array Slot), rec x1 v_hypothesis_moves = some x → Wd s A D (ws_Le_formHypothesis cI cJ cZ q_this q_asked q_table q_hypothesis q_representatives q_table_prefixes q_table_suffixes q_table_known q_table_bits q_table_prefixes_words q_hypothesis_moves q_hypothesis_finals v_mode v_budget v_formed v_counterexample v_corrections v_deceived v_table_letters v_table_prefixes_size v_table_prefixes_longest v_table_bits v_hypothesis_size v_hypothesis_letters v_hypothesis_moves v_hypothesis_finals v_representatives) H locs → lv_has ls 4 [(0, .ref q_this), (1, .int x1)] → W p l e rm_Le_formHypothesis s m args below meth c H locs 0 0 Q (F0 m 105 ls [])) (x1 : Int32) (v_hypothesis_moves : (Nat → Int32)) {H : Heap} {locs : List Loc} {ls : Array Slot} (h : f_Le_formHypothesis_L105 v_table_letters v_table_bits v_hypothesis_size v_representatives K rec x1 v_hypothesis_moves = some x) (w : Wd s A D (ws_Le_formHypothesis cI cJ cZ q_this q_asked q_table q_hypothesis q_representatives q_table_prefixes q_table_suffixes q_table_known q_table_bits q_table_prefixes_words q_hypothesis_moves q_hypothesis_finals v_mode v_budget v_formed v_counterexample v_corrections v_deceived v_table_letters v_table_prefixes_size v_table_prefixes_longest v_table_bits v_hypothesis_size v_hypothesis_letters v_hypothesis_moves v_hypothesis_finals v_representatives) H locs) (hl : lv_has ls 4 [(0, .ref q_this), (1, .int x1)]) : W p l e rm_Le_formHypothesis s m args below meth c H locs 0 0 Q (F0 m 105 ls []) := by
  obtain ⟨hx, hb, hml, hown, hts, -, -⟩ := id C0
  unfold f_Le_formHypothesis_L105 at h
  refine lv_iload_n hx hb dX1_formHypothesis_105 rfl (lv_at hl 1 rfl) ?_
  refine lv_aload_n hx hb dX1_formHypothesis_106 rfl (lv_at hl 0 rfl) ?_
  refine r_get C0 w 0 rfl kf_Le 2 (by decide) lf_RX1_30 rfl dX1_formHypothesis_107 ?_
  refine r_get C0 w 4 rfl kf_Au 2 (by decide) lf_RX1_71 rfl dX1_formHypothesis_110 ?_
  refine lv_icmp_ge (tgt := 178) hx hb dX1_formHypothesis_113 (by decide) (fun hc => ?_) (fun hc => ?_)
  · have h := if_h hc h
    exact hK _ _ _ _ _ h w (lv_sub hl [0] rfl)
  · have h := nf_h hc h
    refine lv_iconst (v := (0 : Int32)) hx hb dX1_formHypothesis_116 (by decide) ?_
    refine lv_istore_n (lv' := [(2, .int (0 : Int32)), (0, .ref q_this), (1, .int x1)]) hx hb dX1_formHypothesis_117 rfl hl (by decide) rfl (fun ls hl => ?_)
    refine wl_Le_formHypothesis_L118 C0 hQ (fun x2 v_hypothesis_moves_1 H locs ls h w hl => ?_) _ _ _ _ _ _ h w (lv_sub hl [1, 2, 0] rfl)
    obtain ⟨x1_1, ex1_1⟩ : ∃ y : Int32, y = (x1 + 1) := ⟨_, rfl⟩
    have h := bnd_at ex1_1 h
    refine lv_iinc (v := x1_1) (lv' := [(1, .int x1_1), (0, .ref q_this)]) hx hb dX1_formHypothesis_172 hl (k := 1) rfl (by rw [ex1_1]; rfl) (by decide) rfl (fun ls hl => ?_)
    refine lv_goto (tgt := 105) hx hb dX1_formHypothesis_175 (by decide) ?_
    exact hrec _ _ _ _ _ h w (lv_sub hl [1, 0] rfl)
set_option maxRecDepth 100000 in
theorem wl_Le_formHypothesis_L105 {p : Program} {l : Launch} {e : Env} {s : State} {m : MethodId} {args : Array Value} {below : List Frame} {meth : Method} {c : Code} {Q : State → Prop} {A : Nat → Prop} {D : va_G} {cI cJ cZ cO : ClassId} {q_this q_asked q_table q_hypothesis q_representatives q_table_prefixes q_table_suffixes q_table_known q_table_bits q_table_prefixes_words q_hypothesis_moves q_hypothesis_finals : Nat} {v_mode : Int32} {v_budget : Int32} {v_formed : Int32} {v_counterexample : Int64} {v_corrections : Int32} {v_deceived : Int32} {v_table_letters : Int32} {v_table_prefixes_size : Int32} {v_table_prefixes_longest : Int32} {v_table_bits : (Nat → Int32)} {v_hypothesis_size : Int32} {v_hypothesis_letters : Int32} {v_hypothesis_finals : (Nat → Int32)} {v_representatives : (Nat → Int32)} {x : (Nat → Int32) × (Nat → Int32) × Int32 × Int32 × (Nat → Int32) × Int32} (C0 : Cx p s m args c A D cI cJ cZ cO cX1_formHypothesis 4 RX1) (hQ : RtV p l e rm_Le_formHypothesis s m args below meth c Q A D cX1_formHypothesis (ws_Le_formHypothesis cI cJ cZ q_this q_asked q_table q_hypothesis q_representatives q_table_prefixes q_table_suffixes q_table_known q_table_bits q_table_prefixes_words q_hypothesis_moves q_hypothesis_finals v_mode v_budget x.2.2.2.2.2 v_counterexample v_corrections v_deceived v_table_letters v_table_prefixes_size v_table_prefixes_longest v_table_bits x.2.2.1 x.2.2.2.1 x.1 x.2.1 x.2.2.2.2.1)) {K : Int32 → (Nat → Int32) → Option ((Nat → Int32) × (Nat → Int32) × Int32 × Int32 × (Nat → Int32) × Int32)} (hK : ∀ (x1 : Int32) (v_hypothesis_moves : (Nat → Int32)) (H : Heap) (locs : List Loc) (ls : Array Slot), K x1 v_hypothesis_moves = some x → Wd s A D (ws_Le_formHypothesis cI cJ cZ q_this q_asked q_table q_hypothesis q_representatives q_table_prefixes q_table_suffixes q_table_known q_table_bits q_table_prefixes_words q_hypothesis_moves q_hypothesis_finals v_mode v_budget v_formed v_counterexample v_corrections v_deceived v_table_letters v_table_prefixes_size v_table_prefixes_longest v_table_bits v_hypothesis_size v_hypothesis_letters v_hypothesis_moves v_hypothesis_finals v_representatives) H locs → lv_has ls 4 [(0, .ref q_this)] → W p l e rm_Le_formHypothesis s m args below meth c H locs 0 0 Q (F0 m 178 ls [])) : ∀ (n : Nat) (x1 : Int32) (v_hypothesis_moves : (Nat → Int32)) (H : Heap) (locs : List Loc) (ls : Array Slot), itr (fun _ _ => none) (f_Le_formHypothesis_L105 v_table_letters v_table_bits v_hypothesis_size v_representatives K) n x1 v_hypothesis_moves = some x → Wd s A D (ws_Le_formHypothesis cI cJ cZ q_this q_asked q_table q_hypothesis q_representatives q_table_prefixes q_table_suffixes q_table_known q_table_bits q_table_prefixes_words q_hypothesis_moves q_hypothesis_finals v_mode v_budget v_formed v_counterexample v_corrections v_deceived v_table_letters v_table_prefixes_size v_table_prefixes_longest v_table_bits v_hypothesis_size v_hypothesis_letters v_hypothesis_moves v_hypothesis_finals v_representatives) H locs → lv_has ls 4 [(0, .ref q_this), (1, .int x1)] → W p l e rm_Le_formHypothesis s m args below meth c H locs 0 0 Q (F0 m 105 ls []) := by
  intro n
  induction n with
  | zero => intro _ _ _ _ _ h; cases (show none = some _ from h)
  | succ n ih => intro _ _ _ _ _ h w hl; exact w_Le_formHypothesis_L105 C0 hQ hK ih _ _ h w hl
set_option maxRecDepth 100000 in
theorem c_Le_formHypothesis {l : Launch} {D : va_G} {cI cJ cZ cO : ClassId} {q_this q_asked q_table q_hypothesis q_representatives q_table_prefixes q_table_suffixes q_table_known q_table_bits q_table_prefixes_words q_hypothesis_moves q_hypothesis_finals : Nat} {v_mode : Int32} {v_budget : Int32} {v_formed : Int32} {v_counterexample : Int64} {v_corrections : Int32} {v_deceived : Int32} {v_table_letters : Int32} {v_table_prefixes_size : Int32} {v_table_prefixes_longest : Int32} {v_table_bits : (Nat → Int32)} {v_hypothesis_size : Int32} {v_hypothesis_letters : Int32} {v_hypothesis_moves : (Nat → Int32)} {v_hypothesis_finals : (Nat → Int32)} {v_representatives : (Nat → Int32)} {x : (Nat → Int32) × (Nat → Int32) × Int32 × Int32 × (Nat → Int32) × Int32} (h : f_Le_formHypothesis v_table_letters v_table_prefixes_size v_table_bits v_hypothesis_moves v_hypothesis_finals v_representatives = some x) : ctV l D cI cJ cZ cO yX1_formHypothesis cX1_formHypothesis 4 rm_Le_formHypothesis [.ref q_this] (ws_Le_formHypothesis cI cJ cZ q_this q_asked q_table q_hypothesis q_representatives q_table_prefixes q_table_suffixes q_table_known q_table_bits q_table_prefixes_words q_hypothesis_moves q_hypothesis_finals v_mode v_budget v_formed v_counterexample v_corrections v_deceived v_table_letters v_table_prefixes_size v_table_prefixes_longest v_table_bits v_hypothesis_size v_hypothesis_letters v_hypothesis_moves v_hypothesis_finals v_representatives) (ws_Le_formHypothesis cI cJ cZ q_this q_asked q_table q_hypothesis q_representatives q_table_prefixes q_table_suffixes q_table_known q_table_bits q_table_prefixes_words q_hypothesis_moves q_hypothesis_finals v_mode v_budget x.2.2.2.2.2 v_counterexample v_corrections v_deceived v_table_letters v_table_prefixes_size v_table_prefixes_longest v_table_bits x.2.2.1 x.2.2.2.1 x.1 x.2.1 x.2.2.2.2.1) := by
  refine ctV_of (by decide) (Nat.le_of_ble_eq_true rfl) ?_
  intro p e s m below meth c Q A ls C0 hQ w hl
  have hl : lv_has ls 4 [(0, .ref q_this)] := hl
  generalize List.toArray (α := Value) [.ref q_this] = args at C0 hQ ⊢
  obtain ⟨hx, hb, hml, hown, hts, -, -⟩ := id C0
  unfold f_Le_formHypothesis at h
  refine lv_aload_n hx hb dX1_formHypothesis_0 rfl (lv_at hl 0 rfl) ?_
  refine r_get C0 w 0 rfl kf_Le 2 (by decide) lf_RX1_30 rfl dX1_formHypothesis_1 ?_
  refine lv_iconst (v := (0 : Int32)) hx hb dX1_formHypothesis_4 (by decide) ?_
  refine lv_aload_n hx hb dX1_formHypothesis_5 rfl (lv_at hl 0 rfl) ?_
  refine r_get C0 w 0 rfl kf_Le 1 (by decide) lf_RX1_21 rfl dX1_formHypothesis_6 ?_
  refine r_get C0 w 1 rfl kf_Ta 4 (by decide) lf_RX1_130 rfl dX1_formHypothesis_9 ?_
  obtain ⟨v_hypothesis_moves_1, v_hypothesis_finals_1, v_hypothesis_size_1, v_hypothesis_letters_1, hcall, h⟩ := bd4_h h
  have hp := sp_of (ws := (ws_Le_formHypothesis cI cJ cZ q_this q_asked q_table q_hypothesis q_representatives q_table_prefixes q_table_suffixes q_table_known q_table_bits q_table_prefixes_words q_hypothesis_moves q_hypothesis_finals v_mode v_budget v_formed v_counterexample v_corrections v_deceived v_table_letters v_table_prefixes_size v_table_prefixes_longest v_table_bits v_hypothesis_size v_hypothesis_letters v_hypothesis_moves v_hypothesis_finals v_representatives)) (wc := (ws_Au_shape cI cJ cZ q_hypothesis q_hypothesis_moves q_hypothesis_finals 120 40 v_hypothesis_size v_hypothesis_letters v_hypothesis_moves v_hypothesis_finals)) [4, 5, 6] [0, 1, 2, 3, 7] rfl rfl
  have hp' : Rp (pk (ws_Le_formHypothesis cI cJ cZ q_this q_asked q_table q_hypothesis q_representatives q_table_prefixes q_table_suffixes q_table_known q_table_bits q_table_prefixes_words q_hypothesis_moves q_hypothesis_finals v_mode v_budget v_formed v_counterexample v_corrections v_deceived v_table_letters v_table_prefixes_size v_table_prefixes_longest v_table_bits v_hypothesis_size v_hypothesis_letters v_hypothesis_moves v_hypothesis_finals v_representatives) [0, 1, 2, 3, 7] ++ (ws_Au_shape cI cJ cZ q_hypothesis q_hypothesis_moves q_hypothesis_finals 120 40 v_hypothesis_size_1 v_hypothesis_letters_1 v_hypothesis_moves_1 v_hypothesis_finals_1)) (ws_Le_formHypothesis cI cJ cZ q_this q_asked q_table q_hypothesis q_representatives q_table_prefixes q_table_suffixes q_table_known q_table_bits q_table_prefixes_words q_hypothesis_moves q_hypothesis_finals v_mode v_budget v_formed v_counterexample v_corrections v_deceived v_table_letters v_table_prefixes_size v_table_prefixes_longest v_table_bits v_hypothesis_size_1 v_hypothesis_letters_1 v_hypothesis_moves_1 v_hypothesis_finals_1 v_representatives) := ⟨[0, 1, 2, 3, 5, 6, 7, 4], rfl, rfl⟩
  refine r_VV (As := [.int (0 : Int32), .int v_table_letters]) (rest := []) (wc' := (ws_Au_shape cI cJ cZ q_hypothesis q_hypothesis_moves q_hypothesis_finals 120 40 v_hypothesis_size_1 v_hypothesis_letters_1 v_hypothesis_moves_1 v_hypothesis_finals_1)) (ws' := (ws_Le_formHypothesis cI cJ cZ q_this q_asked q_table q_hypothesis q_representatives q_table_prefixes q_table_suffixes q_table_known q_table_bits q_table_prefixes_words q_hypothesis_moves q_hypothesis_finals v_mode v_budget v_formed v_counterexample v_corrections v_deceived v_table_letters v_table_prefixes_size v_table_prefixes_longest v_table_bits v_hypothesis_size_1 v_hypothesis_letters_1 v_hypothesis_moves_1 v_hypothesis_finals_1 v_representatives)) C0 w (c_Au_shape hcall) hp hp' lm_RX1_67 mv_Au_shape ⟨rfl, rfl⟩ ⟨by decide, by decide⟩ ⟨Nat.zero_le _, Nat.zero_le _⟩ (q0 := 4) rfl rfl rfl rfl hl rfl (Nat.le_of_ble_eq_true rfl) dX1_formHypothesis_12 (fun H locs w => ?_)
  refine lv_iconst (v := (0 : Int32)) hx hb dX1_formHypothesis_15 (by decide) ?_
  refine lv_istore_n (lv' := [(1, .int (0 : Int32)), (0, .ref q_this)]) hx hb dX1_formHypothesis_16 rfl hl (by decide) rfl (fun ls hl => ?_)
  refine wl_Le_formHypothesis_L17 C0 hQ (fun x1 v_hypothesis_finals_2 v_hypothesis_size_2 v_representatives_1 H locs ls h w hl => ?_) _ _ _ _ _ _ _ _ h w (lv_sub hl [1, 0] rfl)
  refine lv_iconst (v := (0 : Int32)) hx hb dX1_formHypothesis_103 (by decide) ?_
  refine lv_istore_n (lv' := [(1, .int (0 : Int32)), (0, .ref q_this)]) hx hb dX1_formHypothesis_104 rfl hl (by decide) rfl (fun ls hl => ?_)
  refine wl_Le_formHypothesis_L105 C0 hQ (fun x1_1 v_hypothesis_moves_2 H locs ls h w hl => ?_) _ _ _ _ _ _ h w (lv_sub hl [1, 0] rfl)
  refine lv_aload_n hx hb dX1_formHypothesis_178 rfl (lv_at hl 0 rfl) ?_
  refine lv_iconst (v := (1 : Int32)) hx hb dX1_formHypothesis_179 (by decide) ?_
  refine r_put C0 w 0 rfl kf_Le 6 (by decide) lf_RX1_45 rfl rfl rfl (Nat.le_of_ble_eq_true rfl) dX1_formHypothesis_180 (ws' := (ws_Le_formHypothesis cI cJ cZ q_this q_asked q_table q_hypothesis q_representatives q_table_prefixes q_table_suffixes q_table_known q_table_bits q_table_prefixes_words q_hypothesis_moves q_hypothesis_finals v_mode v_budget (1 : Int32) v_counterexample v_corrections v_deceived v_table_letters v_table_prefixes_size v_table_prefixes_longest v_table_bits v_hypothesis_size_2 v_hypothesis_letters_1 v_hypothesis_moves_2 v_hypothesis_finals_2 v_representatives_1)) rfl (fun H locs w => ?_)
  cases h
  exact hQ _ _ _ _ dX1_formHypothesis_183 w
theorem dX3_foundWord_0 : decode cX3_foundWord 0 = .ok (.lconst 1, 1) := by decide +kernel
theorem dX3_foundWord_1 : decode cX3_foundWord 1 = .ok (.lstore_n 1, 1) := by decide +kernel
theorem dX3_foundWord_2 : decode cX3_foundWord 2 = .ok (.iconst 0, 1) := by decide +kernel
theorem dX3_foundWord_3 : decode cX3_foundWord 3 = .ok (.istore_n 3, 1) := by decide +kernel
theorem dX3_foundWord_4 : decode cX3_foundWord 4 = .ok (.iload_n 3, 1) := by decide +kernel
theorem dX3_foundWord_5 : decode cX3_foundWord 5 = .ok (.aload_n 0, 1) := by decide +kernel
theorem dX3_foundWord_6 : decode cX3_foundWord 6 = .ok (.getfield 27, 3) := by decide +kernel
theorem dX3_foundWord_9 : decode cX3_foundWord 9 = .ok (.if_icmp .ge 26, 3) := by decide +kernel
theorem dX3_foundWord_12 : decode cX3_foundWord 12 = .ok (.iload_n 3, 1) := by decide +kernel
theorem dX3_foundWord_13 : decode cX3_foundWord 13 = .ok (.bipush 16, 2) := by decide +kernel
theorem dX3_foundWord_15 : decode cX3_foundWord 15 = .ok (.if_icmp .ge 20, 3) := by decide +kernel
theorem dX3_foundWord_18 : decode cX3_foundWord 18 = .ok (.lload_n 1, 1) := by decide +kernel
theorem dX3_foundWord_19 : decode cX3_foundWord 19 = .ok (.aload_n 0, 1) := by decide +kernel
theorem dX3_foundWord_20 : decode cX3_foundWord 20 = .ok (.getfield 24, 3) := by decide +kernel
theorem dX3_foundWord_23 : decode cX3_foundWord 23 = .ok (.iload_n 3, 1) := by decide +kernel
theorem dX3_foundWord_24 : decode cX3_foundWord 24 = .ok (.iaload, 1) := by decide +kernel
theorem dX3_foundWord_25 : decode cX3_foundWord 25 = .ok (.invokestatic 61, 3) := by decide +kernel
theorem dX3_foundWord_28 : decode cX3_foundWord 28 = .ok (.lstore_n 1, 1) := by decide +kernel
theorem dX3_foundWord_29 : decode cX3_foundWord 29 = .ok (.iinc 3 1, 3) := by decide +kernel
theorem dX3_foundWord_32 : decode cX3_foundWord 32 = .ok (.goto (-28), 3) := by decide +kernel
theorem dX3_foundWord_35 : decode cX3_foundWord 35 = .ok (.lload_n 1, 1) := by decide +kernel
theorem dX3_foundWord_36 : decode cX3_foundWord 36 = .ok (.lreturn, 1) := by decide +kernel
set_option maxRecDepth 100000 in
theorem w_Se_foundWord_L4 {p : Program} {l : Launch} {e : Env} {s : State} {m : MethodId} {args : Array Value} {below : List Frame} {meth : Method} {c : Code} {Q : State → Prop} {A : Nat → Prop} {D : va_G} {cI cJ cZ cO : ClassId} {q_this q_seen q_queue q_origin q_arrival q_letters : Nat} {v_length : Int32} {v_queued : Int32} {v_letters : (Nat → Int32)} {x : Int64} (C0 : Cx p s m args c A D cI cJ cZ cO cX3_foundWord 4 RX3) (hQ : RtJ p l e rm_Se_foundWord s m args below meth c Q A D cX3_foundWord (ws_Se_foundWord cI cJ cZ q_this q_seen q_queue q_origin q_arrival q_letters v_length v_queued v_letters) x) {K : Int64 → Int32 → Option (Int64)} (hK : ∀ (x1 : Int64) (x3 : Int32) (H : Heap) (locs : List Loc) (ls : Array Slot), K x1 x3 = some x → Wd s A D (ws_Se_foundWord cI cJ cZ q_this q_seen q_queue q_origin q_arrival q_letters v_length v_queued v_letters) H locs → lv_has ls 4 [(1, .long x1)] → W p l e rm_Se_foundWord s m args below meth c H locs 0 0 Q (F0 m 35 ls [])) {rec : Int64 → Int32 → Option (Int64)} (hrec : ∀ (x1 : Int64) (x3 : Int32) (H : Heap) (locs : List Loc) (ls : Array Slot), rec x1 x3 = some x → Wd s A D (ws_Se_foundWord cI cJ cZ q_this q_seen q_queue q_origin q_arrival q_letters v_length v_queued v_letters) H locs → lv_has ls 4 [(0, .ref q_this), (1, .long x1), (3, .int x3)] → W p l e rm_Se_foundWord s m args below meth c H locs 0 0 Q (F0 m 4 ls [])) (x1 : Int64) (x3 : Int32) {H : Heap} {locs : List Loc} {ls : Array Slot} (h : f_Se_foundWord_L4 v_length v_letters K rec x1 x3 = some x) (w : Wd s A D (ws_Se_foundWord cI cJ cZ q_this q_seen q_queue q_origin q_arrival q_letters v_length v_queued v_letters) H locs) (hl : lv_has ls 4 [(0, .ref q_this), (1, .long x1), (3, .int x3)]) : W p l e rm_Se_foundWord s m args below meth c H locs 0 0 Q (F0 m 4 ls []) := by
  obtain ⟨hx, hb, hml, hown, hts, -, -⟩ := id C0
  unfold f_Se_foundWord_L4 at h
  refine lv_iload_n hx hb dX3_foundWord_4 rfl (lv_at hl 2 rfl) ?_
  refine lv_aload_n hx hb dX3_foundWord_5 rfl (lv_at hl 0 rfl) ?_
  refine r_get C0 w 0 rfl kf_Se 5 (by decide) lf_RX3_27 rfl dX3_foundWord_6 ?_
  refine lv_icmp_ge (tgt := 35) hx hb dX3_foundWord_9 (by decide) (fun hc => ?_) (fun hc => ?_)
  · have h := if_h hc h
    exact hK _ _ _ _ _ h w (lv_sub hl [1] rfl)
  · have h := nf_h hc h
    refine lv_iload_n hx hb dX3_foundWord_12 rfl (lv_at hl 2 rfl) ?_
    refine lv_bipush (v := (16 : Int32)) hx hb dX3_foundWord_13 (by decide) ?_
    refine lv_icmp_ge (tgt := 35) hx hb dX3_foundWord_15 (by decide) (fun hc => ?_) (fun hc => ?_)
    · have h := if_h hc h
      exact hK _ _ _ _ _ h w (lv_sub hl [1] rfl)
    · have h := nf_h hc h
      refine lv_lload_n hx hb dX3_foundWord_18 rfl (lv_at hl 1 rfl) ?_
      refine lv_aload_n hx hb dX3_foundWord_19 rfl (lv_at hl 0 rfl) ?_
      refine r_get C0 w 0 rfl kf_Se 4 (by decide) lf_RX3_24 rfl dX3_foundWord_20 ?_
      refine lv_iload_n hx hb dX3_foundWord_23 rfl (lv_at hl 2 rfl) ?_
      obtain ⟨hi, h⟩ := gIn_h h
      refine r_iald C0 w 1 rfl rfl hi dX3_foundWord_24 ?_
      obtain ⟨r, hcall, h⟩ := bd1_h h
      obtain ⟨wr, hp, hp'⟩ := rd_of (ws := (ws_Se_foundWord cI cJ cZ q_this q_seen q_queue q_origin q_arrival q_letters v_length v_queued v_letters)) (wc := (ws_Ws_append cI cJ cZ)) [] rfl rfl
      refine r_SJ (r := r) (As := [.long x1, .int (v_letters x3.toNatClampNeg)]) (rest := []) (wc' := (ws_Ws_append cI cJ cZ)) (ws' := (ws_Se_foundWord cI cJ cZ q_this q_seen q_queue q_origin q_arrival q_letters v_length v_queued v_letters)) C0 w (c_Ws_append hcall) hp hp' lm_RX3_61 ms_Ws_append ⟨rfl, rfl⟩ ⟨by decide, by decide⟩ ⟨Nat.zero_le _, Nat.zero_le _⟩ rfl hl rfl (Nat.le_of_ble_eq_true rfl) dX3_foundWord_25 (fun H locs w => ?_)
      refine lv_lstore_n (lv' := [(1, .long r), (0, .ref q_this), (3, .int x3)]) hx hb dX3_foundWord_28 rfl hl (by decide) rfl (fun ls hl => ?_)
      obtain ⟨x3_1, ex3_1⟩ : ∃ y : Int32, y = (x3 + 1) := ⟨_, rfl⟩
      have h := bnd_at ex3_1 h
      refine lv_iinc (v := x3_1) (lv' := [(3, .int x3_1), (1, .long r), (0, .ref q_this)]) hx hb dX3_foundWord_29 hl (k := 2) rfl (by rw [ex3_1]; rfl) (by decide) rfl (fun ls hl => ?_)
      refine lv_goto (tgt := 4) hx hb dX3_foundWord_32 (by decide) ?_
      exact hrec _ _ _ _ _ h w (lv_sub hl [2, 1, 0] rfl)
set_option maxRecDepth 100000 in
theorem wl_Se_foundWord_L4 {p : Program} {l : Launch} {e : Env} {s : State} {m : MethodId} {args : Array Value} {below : List Frame} {meth : Method} {c : Code} {Q : State → Prop} {A : Nat → Prop} {D : va_G} {cI cJ cZ cO : ClassId} {q_this q_seen q_queue q_origin q_arrival q_letters : Nat} {v_length : Int32} {v_queued : Int32} {v_letters : (Nat → Int32)} {x : Int64} (C0 : Cx p s m args c A D cI cJ cZ cO cX3_foundWord 4 RX3) (hQ : RtJ p l e rm_Se_foundWord s m args below meth c Q A D cX3_foundWord (ws_Se_foundWord cI cJ cZ q_this q_seen q_queue q_origin q_arrival q_letters v_length v_queued v_letters) x) {K : Int64 → Int32 → Option (Int64)} (hK : ∀ (x1 : Int64) (x3 : Int32) (H : Heap) (locs : List Loc) (ls : Array Slot), K x1 x3 = some x → Wd s A D (ws_Se_foundWord cI cJ cZ q_this q_seen q_queue q_origin q_arrival q_letters v_length v_queued v_letters) H locs → lv_has ls 4 [(1, .long x1)] → W p l e rm_Se_foundWord s m args below meth c H locs 0 0 Q (F0 m 35 ls [])) : ∀ (n : Nat) (x1 : Int64) (x3 : Int32) (H : Heap) (locs : List Loc) (ls : Array Slot), itr (fun _ _ => none) (f_Se_foundWord_L4 v_length v_letters K) n x1 x3 = some x → Wd s A D (ws_Se_foundWord cI cJ cZ q_this q_seen q_queue q_origin q_arrival q_letters v_length v_queued v_letters) H locs → lv_has ls 4 [(0, .ref q_this), (1, .long x1), (3, .int x3)] → W p l e rm_Se_foundWord s m args below meth c H locs 0 0 Q (F0 m 4 ls []) := by
  intro n
  induction n with
  | zero => intro _ _ _ _ _ h; cases (show none = some _ from h)
  | succ n ih => intro _ _ _ _ _ h w hl; exact w_Se_foundWord_L4 C0 hQ hK ih _ _ h w hl
set_option maxRecDepth 100000 in
theorem c_Se_foundWord {l : Launch} {D : va_G} {cI cJ cZ cO : ClassId} {q_this q_seen q_queue q_origin q_arrival q_letters : Nat} {v_length : Int32} {v_queued : Int32} {v_letters : (Nat → Int32)} {x : Int64} (h : f_Se_foundWord v_length v_letters = some x) : ctJ l D cI cJ cZ cO yX3_foundWord cX3_foundWord 4 rm_Se_foundWord [.ref q_this] (ws_Se_foundWord cI cJ cZ q_this q_seen q_queue q_origin q_arrival q_letters v_length v_queued v_letters) (ws_Se_foundWord cI cJ cZ q_this q_seen q_queue q_origin q_arrival q_letters v_length v_queued v_letters) x := by
  refine ctJ_of (by decide) (Nat.le_of_ble_eq_true rfl) ?_
  intro p e s m below meth c Q A ls C0 hQ w hl
  have hl : lv_has ls 4 [(0, .ref q_this)] := hl
  generalize List.toArray (α := Value) [.ref q_this] = args at C0 hQ ⊢
  obtain ⟨hx, hb, hml, hown, hts, -, -⟩ := id C0
  unfold f_Se_foundWord at h
  refine lv_lconst (v := (1 : Int64)) hx hb dX3_foundWord_0 (by decide) ?_
  refine lv_lstore_n (lv' := [(1, .long (1 : Int64)), (0, .ref q_this)]) hx hb dX3_foundWord_1 rfl hl (by decide) rfl (fun ls hl => ?_)
  refine lv_iconst (v := (0 : Int32)) hx hb dX3_foundWord_2 (by decide) ?_
  refine lv_istore_n (lv' := [(3, .int (0 : Int32)), (1, .long (1 : Int64)), (0, .ref q_this)]) hx hb dX3_foundWord_3 rfl hl (by decide) rfl (fun ls hl => ?_)
  refine wl_Se_foundWord_L4 C0 hQ (fun x1 x3 H locs ls h w hl => ?_) _ _ _ _ _ _ h w (lv_sub hl [2, 1, 0] rfl)
  refine lv_lload_n hx hb dX3_foundWord_35 rfl (lv_at hl 0 rfl) ?_
  cases h
  exact hQ _ _ _ _ dX3_foundWord_36 w
theorem dX4_rowGap_0 : decode cX4_rowGap 0 = .ok (.aload_n 0, 1) := by decide +kernel
theorem dX4_rowGap_1 : decode cX4_rowGap 1 = .ok (.getfield 23, 3) := by decide +kernel
theorem dX4_rowGap_4 : decode cX4_rowGap 4 = .ok (.iload_n 1, 1) := by decide +kernel
theorem dX4_rowGap_5 : decode cX4_rowGap 5 = .ok (.iaload, 1) := by decide +kernel
theorem dX4_rowGap_6 : decode cX4_rowGap 6 = .ok (.istore 5, 2) := by decide +kernel
theorem dX4_rowGap_8 : decode cX4_rowGap 8 = .ok (.iload 5, 2) := by decide +kernel
theorem dX4_rowGap_10 : decode cX4_rowGap 10 = .ok (.aload_n 0, 1) := by decide +kernel
theorem dX4_rowGap_11 : decode cX4_rowGap 11 = .ok (.getfield 20, 3) := by decide +kernel
theorem dX4_rowGap_14 : decode cX4_rowGap 14 = .ok (.getfield 45, 3) := by decide +kernel
theorem dX4_rowGap_17 : decode cX4_rowGap 17 = .ok (.if_icmp .ge 67, 3) := by decide +kernel
theorem dX4_rowGap_20 : decode cX4_rowGap 20 = .ok (.lload_n 2, 1) := by decide +kernel
theorem dX4_rowGap_21 : decode cX4_rowGap 21 = .ok (.aload_n 0, 1) := by decide +kernel
theorem dX4_rowGap_22 : decode cX4_rowGap 22 = .ok (.getfield 20, 3) := by decide +kernel
theorem dX4_rowGap_25 : decode cX4_rowGap 25 = .ok (.getfield 52, 3) := by decide +kernel
theorem dX4_rowGap_28 : decode cX4_rowGap 28 = .ok (.iload 5, 2) := by decide +kernel
theorem dX4_rowGap_30 : decode cX4_rowGap 30 = .ok (.laload, 1) := by decide +kernel
theorem dX4_rowGap_31 : decode cX4_rowGap 31 = .ok (.invokestatic 70, 3) := by decide +kernel
theorem dX4_rowGap_34 : decode cX4_rowGap 34 = .ok (.lstore 6, 2) := by decide +kernel
theorem dX4_rowGap_36 : decode cX4_rowGap 36 = .ok (.aload 4, 2) := by decide +kernel
theorem dX4_rowGap_38 : decode cX4_rowGap 38 = .ok (.lload 6, 2) := by decide +kernel
theorem dX4_rowGap_40 : decode cX4_rowGap 40 = .ok (.invokevirtual 74, 3) := by decide +kernel
theorem dX4_rowGap_43 : decode cX4_rowGap 43 = .ok (.istore 8, 2) := by decide +kernel
theorem dX4_rowGap_45 : decode cX4_rowGap 45 = .ok (.iload 8, 2) := by decide +kernel
theorem dX4_rowGap_47 : decode cX4_rowGap 47 = .ok (.iconst (-1), 1) := by decide +kernel
theorem dX4_rowGap_48 : decode cX4_rowGap 48 = .ok (.if_icmp .ne 6, 3) := by decide +kernel
theorem dX4_rowGap_51 : decode cX4_rowGap 51 = .ok (.lload 6, 2) := by decide +kernel
theorem dX4_rowGap_53 : decode cX4_rowGap 53 = .ok (.lreturn, 1) := by decide +kernel
theorem dX4_rowGap_54 : decode cX4_rowGap 54 = .ok (.aload_n 0, 1) := by decide +kernel
theorem dX4_rowGap_55 : decode cX4_rowGap 55 = .ok (.getfield 27, 3) := by decide +kernel
theorem dX4_rowGap_58 : decode cX4_rowGap 58 = .ok (.iload_n 1, 1) := by decide +kernel
theorem dX4_rowGap_59 : decode cX4_rowGap 59 = .ok (.dup2, 1) := by decide +kernel
theorem dX4_rowGap_60 : decode cX4_rowGap 60 = .ok (.iaload, 1) := by decide +kernel
theorem dX4_rowGap_61 : decode cX4_rowGap 61 = .ok (.iload 8, 2) := by decide +kernel
theorem dX4_rowGap_63 : decode cX4_rowGap 63 = .ok (.iload 5, 2) := by decide +kernel
theorem dX4_rowGap_65 : decode cX4_rowGap 65 = .ok (.ishl, 1) := by decide +kernel
theorem dX4_rowGap_66 : decode cX4_rowGap 66 = .ok (.ior, 1) := by decide +kernel
theorem dX4_rowGap_67 : decode cX4_rowGap 67 = .ok (.iastore, 1) := by decide +kernel
theorem dX4_rowGap_68 : decode cX4_rowGap 68 = .ok (.aload_n 0, 1) := by decide +kernel
theorem dX4_rowGap_69 : decode cX4_rowGap 69 = .ok (.getfield 23, 3) := by decide +kernel
theorem dX4_rowGap_72 : decode cX4_rowGap 72 = .ok (.iload_n 1, 1) := by decide +kernel
theorem dX4_rowGap_73 : decode cX4_rowGap 73 = .ok (.iload 5, 2) := by decide +kernel
theorem dX4_rowGap_75 : decode cX4_rowGap 75 = .ok (.iconst 1, 1) := by decide +kernel
theorem dX4_rowGap_76 : decode cX4_rowGap 76 = .ok (.iadd, 1) := by decide +kernel
theorem dX4_rowGap_77 : decode cX4_rowGap 77 = .ok (.iastore, 1) := by decide +kernel
theorem dX4_rowGap_78 : decode cX4_rowGap 78 = .ok (.iinc 5 1, 3) := by decide +kernel
theorem dX4_rowGap_81 : decode cX4_rowGap 81 = .ok (.goto (-73), 3) := by decide +kernel
theorem dX4_rowGap_84 : decode cX4_rowGap 84 = .ok (.ldc2_w 43, 3) := by decide +kernel
theorem dX4_rowGap_87 : decode cX4_rowGap 87 = .ok (.lreturn, 1) := by decide +kernel
set_option maxRecDepth 100000 in
theorem w_Ta_rowGap_L8 {p : Program} {l : Launch} {e : Env} {s : State} {m : MethodId} {args : Array Value} {below : List Frame} {meth : Method} {c : Code} {Q : State → Prop} {A : Nat → Prop} {D : va_G} {cI cJ cZ cO : ClassId} {q_this q_prefixes q_suffixes q_known q_bits q_suffixes_words q_o4 q_o4_entries : Nat} {v_letters : Int32} {v_suffixes_size : Int32} {v_suffixes_longest : Int32} {v_suffixes_words : (Nat → Int64)} {v_o4_size : Int32} {v_o4_entries : (Nat → Int64)} {x1 : Int32} {x2 : Int64} {x : Int64 × (Nat → Int32) × (Nat → Int32)} (C0 : Cx p s m args c A D cI cJ cZ cO cX4_rowGap 9 RX4) (hQ : RtJ p l e rm_Ta_rowGap s m args below meth c Q A D cX4_rowGap (ws_Ta_rowGap cI cJ cZ q_this q_prefixes q_suffixes q_known q_bits q_suffixes_words q_o4 q_o4_entries v_letters v_suffixes_size v_suffixes_longest v_suffixes_words x.2.1 x.2.2 v_o4_size v_o4_entries) x.1) {K : Int32 → (Nat → Int32) → (Nat → Int32) → Option (Int64 × (Nat → Int32) × (Nat → Int32))} (hK : ∀ (x5 : Int32) (v_known : (Nat → Int32)) (v_bits : (Nat → Int32)) (H : Heap) (locs : List Loc) (ls : Array Slot), K x5 v_known v_bits = some x → Wd s A D (ws_Ta_rowGap cI cJ cZ q_this q_prefixes q_suffixes q_known q_bits q_suffixes_words q_o4 q_o4_entries v_letters v_suffixes_size v_suffixes_longest v_suffixes_words v_known v_bits v_o4_size v_o4_entries) H locs → lv_has ls 9 [] → W p l e rm_Ta_rowGap s m args below meth c H locs 0 0 Q (F0 m 84 ls [])) {rec : Int32 → (Nat → Int32) → (Nat → Int32) → Option (Int64 × (Nat → Int32) × (Nat → Int32))} (hrec : ∀ (x5 : Int32) (v_known : (Nat → Int32)) (v_bits : (Nat → Int32)) (H : Heap) (locs : List Loc) (ls : Array Slot), rec x5 v_known v_bits = some x → Wd s A D (ws_Ta_rowGap cI cJ cZ q_this q_prefixes q_suffixes q_known q_bits q_suffixes_words q_o4 q_o4_entries v_letters v_suffixes_size v_suffixes_longest v_suffixes_words v_known v_bits v_o4_size v_o4_entries) H locs → lv_has ls 9 [(0, .ref q_this), (1, .int x1), (2, .long x2), (4, .ref q_o4), (5, .int x5)] → W p l e rm_Ta_rowGap s m args below meth c H locs 0 0 Q (F0 m 8 ls [])) (x5 : Int32) (v_known : (Nat → Int32)) (v_bits : (Nat → Int32)) {H : Heap} {locs : List Loc} {ls : Array Slot} (h : f_Ta_rowGap_L8 v_suffixes_size v_suffixes_words v_o4_size v_o4_entries x1 x2 K rec x5 v_known v_bits = some x) (w : Wd s A D (ws_Ta_rowGap cI cJ cZ q_this q_prefixes q_suffixes q_known q_bits q_suffixes_words q_o4 q_o4_entries v_letters v_suffixes_size v_suffixes_longest v_suffixes_words v_known v_bits v_o4_size v_o4_entries) H locs) (hl : lv_has ls 9 [(0, .ref q_this), (1, .int x1), (2, .long x2), (4, .ref q_o4), (5, .int x5)]) : W p l e rm_Ta_rowGap s m args below meth c H locs 0 0 Q (F0 m 8 ls []) := by
  obtain ⟨hx, hb, hml, hown, hts, -, -⟩ := id C0
  unfold f_Ta_rowGap_L8 at h
  refine lv_iload hx hb dX4_rowGap_8 (lv_at hl 4 rfl) ?_
  refine lv_aload_n hx hb dX4_rowGap_10 rfl (lv_at hl 0 rfl) ?_
  refine r_get C0 w 0 rfl kf_Ta 1 (by decide) lf_RX4_20 rfl dX4_rowGap_11 ?_
  refine r_get C0 w 1 rfl kf_WL 1 (by decide) lf_RX4_45 rfl dX4_rowGap_14 ?_
  refine lv_icmp_ge (tgt := 84) hx hb dX4_rowGap_17 (by decide) (fun hc => ?_) (fun hc => ?_)
  · have h := if_h hc h
    exact hK _ _ _ _ _ _ h w (lv_sub hl [] rfl)
  · have h := nf_h hc h
    refine lv_lload_n hx hb dX4_rowGap_20 rfl (lv_at hl 2 rfl) ?_
    refine lv_aload_n hx hb dX4_rowGap_21 rfl (lv_at hl 0 rfl) ?_
    refine r_get C0 w 0 rfl kf_Ta 1 (by decide) lf_RX4_20 rfl dX4_rowGap_22 ?_
    refine r_get C0 w 1 rfl kf_WL 0 (by decide) lf_RX4_52 rfl dX4_rowGap_25 ?_
    refine lv_iload hx hb dX4_rowGap_28 (lv_at hl 4 rfl) ?_
    obtain ⟨hi, h⟩ := gIn_h h
    refine r_lald C0 w 2 rfl rfl hi dX4_rowGap_30 ?_
    obtain ⟨r, hcall, h⟩ := bd1_h h
    obtain ⟨wr, hp, hp'⟩ := rd_of (ws := (ws_Ta_rowGap cI cJ cZ q_this q_prefixes q_suffixes q_known q_bits q_suffixes_words q_o4 q_o4_entries v_letters v_suffixes_size v_suffixes_longest v_suffixes_words v_known v_bits v_o4_size v_o4_entries)) (wc := (ws_Ws_join cI cJ cZ)) [] rfl rfl
    refine r_SJ (r := r) (As := [.long x2, .long (v_suffixes_words x5.toNatClampNeg)]) (rest := []) (wc' := (ws_Ws_join cI cJ cZ)) (ws' := (ws_Ta_rowGap cI cJ cZ q_this q_prefixes q_suffixes q_known q_bits q_suffixes_words q_o4 q_o4_entries v_letters v_suffixes_size v_suffixes_longest v_suffixes_words v_known v_bits v_o4_size v_o4_entries)) C0 w (c_Ws_join hcall) hp hp' lm_RX4_70 ms_Ws_join ⟨rfl, rfl⟩ ⟨by decide, by decide⟩ ⟨Nat.zero_le _, Nat.zero_le _⟩ rfl hl rfl (Nat.le_of_ble_eq_true rfl) dX4_rowGap_31 (fun H locs w => ?_)
    refine lv_lstore (lv' := [(6, .long r), (0, .ref q_this), (1, .int x1), (2, .long x2), (4, .ref q_o4), (5, .int x5)]) hx hb dX4_rowGap_34 hl (by decide) rfl (fun ls hl => ?_)
    refine lv_aload hx hb dX4_rowGap_36 (lv_at hl 4 rfl) ?_
    refine lv_lload hx hb dX4_rowGap_38 (lv_at hl 0 rfl) ?_
    obtain ⟨r_1, hcall, h⟩ := bd1_h h
    obtain ⟨wr, hp, hp'⟩ := rd_of (ws := (ws_Ta_rowGap cI cJ cZ q_this q_prefixes q_suffixes q_known q_bits q_suffixes_words q_o4 q_o4_entries v_letters v_suffixes_size v_suffixes_longest v_suffixes_words v_known v_bits v_o4_size v_o4_entries)) (wc := (ws_Qu_answerTo cI cJ cZ q_o4 q_o4_entries v_o4_size v_o4_entries)) [5, 6] rfl rfl
    refine r_VI (r := r_1) (As := [.long r]) (rest := []) (wc' := (ws_Qu_answerTo cI cJ cZ q_o4 q_o4_entries v_o4_size v_o4_entries)) (ws' := (ws_Ta_rowGap cI cJ cZ q_this q_prefixes q_suffixes q_known q_bits q_suffixes_words q_o4 q_o4_entries v_letters v_suffixes_size v_suffixes_longest v_suffixes_words v_known v_bits v_o4_size v_o4_entries)) C0 w (c_Qu_answerTo hcall) hp hp' lm_RX4_74 mv_Qu_answerTo ⟨rfl, rfl⟩ ⟨by decide, by decide⟩ ⟨Nat.zero_le _, Nat.zero_le _⟩ (q0 := 5) rfl rfl rfl rfl hl rfl (Nat.le_of_ble_eq_true rfl) dX4_rowGap_40 (fun H locs w => ?_)
    refine lv_istore (lv' := [(8, .int r_1), (6, .long r), (0, .ref q_this), (1, .int x1), (2, .long x2), (4, .ref q_o4), (5, .int x5)]) hx hb dX4_rowGap_43 hl (by decide) rfl (fun ls hl => ?_)
    refine lv_iload hx hb dX4_rowGap_45 (lv_at hl 0 rfl) ?_
    refine lv_iconst (v := (-1 : Int32)) hx hb dX4_rowGap_47 (by decide) ?_
    refine lv_icmp_ne (tgt := 54) hx hb dX4_rowGap_48 (by decide) (fun hc => ?_) (fun hc => ?_)
    · have h := nf_h hc h
      refine lv_aload_n hx hb dX4_rowGap_54 rfl (lv_at hl 2 rfl) ?_
      refine r_get C0 w 0 rfl kf_Ta 3 (by decide) lf_RX4_27 rfl dX4_rowGap_55 ?_
      refine lv_iload_n hx hb dX4_rowGap_58 rfl (lv_at hl 3 rfl) ?_
      refine lv_dup2_11 hx hb dX4_rowGap_59 rfl rfl ?_
      obtain ⟨hi, h⟩ := gIn_h h
      refine r_iald C0 w 4 rfl rfl hi dX4_rowGap_60 ?_
      refine lv_iload hx hb dX4_rowGap_61 (lv_at hl 0 rfl) ?_
      refine lv_iload hx hb dX4_rowGap_63 (lv_at hl 6 rfl) ?_
      refine lv_ishl hx hb dX4_rowGap_65 ?_
      refine lv_ior hx hb dX4_rowGap_66 ?_
      obtain ⟨hi, h⟩ := gIn_h h
      obtain ⟨v_bits_1, ev_bits_1⟩ : ∃ y, y = (upd v_bits x1.toNatClampNeg ((v_bits x1.toNatClampNeg) ||| (r_1 <<< (x5 &&& 31)))) := ⟨_, rfl⟩
      have h := bnd_at ev_bits_1 h
      refine r_iast C0 w 4 rfl (f' := v_bits_1) rfl hi ev_bits_1 dX4_rowGap_67 (ws' := (ws_Ta_rowGap cI cJ cZ q_this q_prefixes q_suffixes q_known q_bits q_suffixes_words q_o4 q_o4_entries v_letters v_suffixes_size v_suffixes_longest v_suffixes_words v_known v_bits_1 v_o4_size v_o4_entries)) rfl (fun H locs w => ?_)
      refine lv_aload_n hx hb dX4_rowGap_68 rfl (lv_at hl 2 rfl) ?_
      refine r_get C0 w 0 rfl kf_Ta 2 (by decide) lf_RX4_23 rfl dX4_rowGap_69 ?_
      refine lv_iload_n hx hb dX4_rowGap_72 rfl (lv_at hl 3 rfl) ?_
      refine lv_iload hx hb dX4_rowGap_73 (lv_at hl 6 rfl) ?_
      refine lv_iconst (v := (1 : Int32)) hx hb dX4_rowGap_75 (by decide) ?_
      refine lv_iadd hx hb dX4_rowGap_76 ?_
      obtain ⟨hi, h⟩ := gIn_h h
      obtain ⟨v_known_1, ev_known_1⟩ : ∃ y, y = (upd v_known x1.toNatClampNeg (x5 + (1 : Int32))) := ⟨_, rfl⟩
      have h := bnd_at ev_known_1 h
      refine r_iast C0 w 3 rfl (f' := v_known_1) rfl hi ev_known_1 dX4_rowGap_77 (ws' := (ws_Ta_rowGap cI cJ cZ q_this q_prefixes q_suffixes q_known q_bits q_suffixes_words q_o4 q_o4_entries v_letters v_suffixes_size v_suffixes_longest v_suffixes_words v_known_1 v_bits_1 v_o4_size v_o4_entries)) rfl (fun H locs w => ?_)
      obtain ⟨x5_1, ex5_1⟩ : ∃ y : Int32, y = (x5 + 1) := ⟨_, rfl⟩
      have h := bnd_at ex5_1 h
      refine lv_iinc (v := x5_1) (lv' := [(5, .int x5_1), (8, .int r_1), (6, .long r), (0, .ref q_this), (1, .int x1), (2, .long x2), (4, .ref q_o4)]) hx hb dX4_rowGap_78 hl (k := 6) rfl (by rw [ex5_1]; rfl) (by decide) rfl (fun ls hl => ?_)
      refine lv_goto (tgt := 8) hx hb dX4_rowGap_81 (by decide) ?_
      exact hrec _ _ _ _ _ _ h w (lv_sub hl [3, 4, 5, 6, 0] rfl)
    · have h := if_h hc h
      refine lv_lload hx hb dX4_rowGap_51 (lv_at hl 1 rfl) ?_
      cases h
      exact hQ _ _ _ _ dX4_rowGap_53 w
set_option maxRecDepth 100000 in
theorem wl_Ta_rowGap_L8 {p : Program} {l : Launch} {e : Env} {s : State} {m : MethodId} {args : Array Value} {below : List Frame} {meth : Method} {c : Code} {Q : State → Prop} {A : Nat → Prop} {D : va_G} {cI cJ cZ cO : ClassId} {q_this q_prefixes q_suffixes q_known q_bits q_suffixes_words q_o4 q_o4_entries : Nat} {v_letters : Int32} {v_suffixes_size : Int32} {v_suffixes_longest : Int32} {v_suffixes_words : (Nat → Int64)} {v_o4_size : Int32} {v_o4_entries : (Nat → Int64)} {x1 : Int32} {x2 : Int64} {x : Int64 × (Nat → Int32) × (Nat → Int32)} (C0 : Cx p s m args c A D cI cJ cZ cO cX4_rowGap 9 RX4) (hQ : RtJ p l e rm_Ta_rowGap s m args below meth c Q A D cX4_rowGap (ws_Ta_rowGap cI cJ cZ q_this q_prefixes q_suffixes q_known q_bits q_suffixes_words q_o4 q_o4_entries v_letters v_suffixes_size v_suffixes_longest v_suffixes_words x.2.1 x.2.2 v_o4_size v_o4_entries) x.1) {K : Int32 → (Nat → Int32) → (Nat → Int32) → Option (Int64 × (Nat → Int32) × (Nat → Int32))} (hK : ∀ (x5 : Int32) (v_known : (Nat → Int32)) (v_bits : (Nat → Int32)) (H : Heap) (locs : List Loc) (ls : Array Slot), K x5 v_known v_bits = some x → Wd s A D (ws_Ta_rowGap cI cJ cZ q_this q_prefixes q_suffixes q_known q_bits q_suffixes_words q_o4 q_o4_entries v_letters v_suffixes_size v_suffixes_longest v_suffixes_words v_known v_bits v_o4_size v_o4_entries) H locs → lv_has ls 9 [] → W p l e rm_Ta_rowGap s m args below meth c H locs 0 0 Q (F0 m 84 ls [])) : ∀ (n : Nat) (x5 : Int32) (v_known : (Nat → Int32)) (v_bits : (Nat → Int32)) (H : Heap) (locs : List Loc) (ls : Array Slot), itr (fun _ _ _ => none) (f_Ta_rowGap_L8 v_suffixes_size v_suffixes_words v_o4_size v_o4_entries x1 x2 K) n x5 v_known v_bits = some x → Wd s A D (ws_Ta_rowGap cI cJ cZ q_this q_prefixes q_suffixes q_known q_bits q_suffixes_words q_o4 q_o4_entries v_letters v_suffixes_size v_suffixes_longest v_suffixes_words v_known v_bits v_o4_size v_o4_entries) H locs → lv_has ls 9 [(0, .ref q_this), (1, .int x1), (2, .long x2), (4, .ref q_o4), (5, .int x5)] → W p l e rm_Ta_rowGap s m args below meth c H locs 0 0 Q (F0 m 8 ls []) := by
  intro n
  induction n with
  | zero => intro _ _ _ _ _ _ h; cases (show none = some _ from h)
  | succ n ih => intro _ _ _ _ _ _ h w hl; exact w_Ta_rowGap_L8 C0 hQ hK ih _ _ _ h w hl
set_option maxRecDepth 100000 in
theorem c_Ta_rowGap {l : Launch} {D : va_G} {cI cJ cZ cO : ClassId} {q_this q_prefixes q_suffixes q_known q_bits q_suffixes_words q_o4 q_o4_entries : Nat} {x1 : Int32} {x2 : Int64} {v_letters : Int32} {v_suffixes_size : Int32} {v_suffixes_longest : Int32} {v_suffixes_words : (Nat → Int64)} {v_known : (Nat → Int32)} {v_bits : (Nat → Int32)} {v_o4_size : Int32} {v_o4_entries : (Nat → Int64)} {x : Int64 × (Nat → Int32) × (Nat → Int32)} (h : f_Ta_rowGap x1 x2 v_suffixes_size v_suffixes_words v_known v_bits v_o4_size v_o4_entries = some x) : ctJ l D cI cJ cZ cO yX4_rowGap cX4_rowGap 9 rm_Ta_rowGap [.ref q_this, .int x1, .long x2, .ref q_o4] (ws_Ta_rowGap cI cJ cZ q_this q_prefixes q_suffixes q_known q_bits q_suffixes_words q_o4 q_o4_entries v_letters v_suffixes_size v_suffixes_longest v_suffixes_words v_known v_bits v_o4_size v_o4_entries) (ws_Ta_rowGap cI cJ cZ q_this q_prefixes q_suffixes q_known q_bits q_suffixes_words q_o4 q_o4_entries v_letters v_suffixes_size v_suffixes_longest v_suffixes_words x.2.1 x.2.2 v_o4_size v_o4_entries) x.1 := by
  refine ctJ_of (by decide) (Nat.le_of_ble_eq_true rfl) ?_
  intro p e s m below meth c Q A ls C0 hQ w hl
  have hl : lv_has ls 9 [(0, .ref q_this), (1, .int x1), (2, .long x2), (4, .ref q_o4)] := hl
  generalize List.toArray (α := Value) [.ref q_this, .int x1, .long x2, .ref q_o4] = args at C0 hQ ⊢
  obtain ⟨hx, hb, hml, hown, hts, -, -⟩ := id C0
  unfold f_Ta_rowGap at h
  refine lv_aload_n hx hb dX4_rowGap_0 rfl (lv_at hl 0 rfl) ?_
  refine r_get C0 w 0 rfl kf_Ta 2 (by decide) lf_RX4_23 rfl dX4_rowGap_1 ?_
  refine lv_iload_n hx hb dX4_rowGap_4 rfl (lv_at hl 1 rfl) ?_
  obtain ⟨hi, h⟩ := gIn_h h
  refine r_iald C0 w 3 rfl rfl hi dX4_rowGap_5 ?_
  refine lv_topi (fun x5 ex5 => ?_)
  have h := bnd_at ex5 h
  refine lv_istore (lv' := [(5, .int x5), (0, .ref q_this), (1, .int x1), (2, .long x2), (4, .ref q_o4)]) hx hb dX4_rowGap_6 hl (by decide) rfl (fun ls hl => ?_)
  refine wl_Ta_rowGap_L8 C0 hQ (fun x5_1 v_known_1 v_bits_1 H locs ls h w hl => ?_) _ _ _ _ _ _ _ h w (lv_sub hl [1, 2, 3, 4, 0] rfl)
  refine lv_ldc2 (v := (-1 : Int64)) hx hb hown (hts _ ll_RX4_43) dX4_rowGap_84 ?_
  cases h
  exact hQ _ _ _ _ dX4_rowGap_87 w
theorem dX4_firstGap_0 : decode cX4_firstGap 0 = .ok (.ldc2_w 43, 3) := by decide +kernel
theorem dX4_firstGap_3 : decode cX4_firstGap 3 = .ok (.lstore_n 2, 1) := by decide +kernel
theorem dX4_firstGap_4 : decode cX4_firstGap 4 = .ok (.iconst 0, 1) := by decide +kernel
theorem dX4_firstGap_5 : decode cX4_firstGap 5 = .ok (.istore 4, 2) := by decide +kernel
theorem dX4_firstGap_7 : decode cX4_firstGap 7 = .ok (.iload 4, 2) := by decide +kernel
theorem dX4_firstGap_9 : decode cX4_firstGap 9 = .ok (.aload_n 0, 1) := by decide +kernel
theorem dX4_firstGap_10 : decode cX4_firstGap 10 = .ok (.getfield 14, 3) := by decide +kernel
theorem dX4_firstGap_13 : decode cX4_firstGap 13 = .ok (.getfield 45, 3) := by decide +kernel
theorem dX4_firstGap_16 : decode cX4_firstGap 16 = .ok (.if_icmp .ge 38, 3) := by decide +kernel
theorem dX4_firstGap_19 : decode cX4_firstGap 19 = .ok (.lload_n 2, 1) := by decide +kernel
theorem dX4_firstGap_20 : decode cX4_firstGap 20 = .ok (.ldc2_w 43, 3) := by decide +kernel
theorem dX4_firstGap_23 : decode cX4_firstGap 23 = .ok (.lcmp, 1) := by decide +kernel
theorem dX4_firstGap_24 : decode cX4_firstGap 24 = .ok (.ifCond .ne 30, 3) := by decide +kernel
theorem dX4_firstGap_27 : decode cX4_firstGap 27 = .ok (.aload_n 0, 1) := by decide +kernel
theorem dX4_firstGap_28 : decode cX4_firstGap 28 = .ok (.iload 4, 2) := by decide +kernel
theorem dX4_firstGap_30 : decode cX4_firstGap 30 = .ok (.invokestatic 48, 3) := by decide +kernel
theorem dX4_firstGap_33 : decode cX4_firstGap 33 = .ok (.aload_n 0, 1) := by decide +kernel
theorem dX4_firstGap_34 : decode cX4_firstGap 34 = .ok (.getfield 14, 3) := by decide +kernel
theorem dX4_firstGap_37 : decode cX4_firstGap 37 = .ok (.getfield 52, 3) := by decide +kernel
theorem dX4_firstGap_40 : decode cX4_firstGap 40 = .ok (.iload 4, 2) := by decide +kernel
theorem dX4_firstGap_42 : decode cX4_firstGap 42 = .ok (.laload, 1) := by decide +kernel
theorem dX4_firstGap_43 : decode cX4_firstGap 43 = .ok (.aload_n 1, 1) := by decide +kernel
theorem dX4_firstGap_44 : decode cX4_firstGap 44 = .ok (.invokevirtual 56, 3) := by decide +kernel
theorem dX4_firstGap_47 : decode cX4_firstGap 47 = .ok (.lstore_n 2, 1) := by decide +kernel
theorem dX4_firstGap_48 : decode cX4_firstGap 48 = .ok (.iinc 4 1, 3) := by decide +kernel
theorem dX4_firstGap_51 : decode cX4_firstGap 51 = .ok (.goto (-44), 3) := by decide +kernel
theorem dX4_firstGap_54 : decode cX4_firstGap 54 = .ok (.iconst 0, 1) := by decide +kernel
theorem dX4_firstGap_55 : decode cX4_firstGap 55 = .ok (.istore 4, 2) := by decide +kernel
theorem dX4_firstGap_57 : decode cX4_firstGap 57 = .ok (.iload 4, 2) := by decide +kernel
theorem dX4_firstGap_59 : decode cX4_firstGap 59 = .ok (.aload_n 0, 1) := by decide +kernel
theorem dX4_firstGap_60 : decode cX4_firstGap 60 = .ok (.getfield 14, 3) := by decide +kernel
theorem dX4_firstGap_63 : decode cX4_firstGap 63 = .ok (.getfield 45, 3) := by decide +kernel
theorem dX4_firstGap_66 : decode cX4_firstGap 66 = .ok (.if_icmp .ge 92, 3) := by decide +kernel
theorem dX4_firstGap_69 : decode cX4_firstGap 69 = .ok (.lload_n 2, 1) := by decide +kernel
theorem dX4_firstGap_70 : decode cX4_firstGap 70 = .ok (.ldc2_w 43, 3) := by decide +kernel
theorem dX4_firstGap_73 : decode cX4_firstGap 73 = .ok (.lcmp, 1) := by decide +kernel
theorem dX4_firstGap_74 : decode cX4_firstGap 74 = .ok (.ifCond .ne 84, 3) := by decide +kernel
theorem dX4_firstGap_77 : decode cX4_firstGap 77 = .ok (.iconst 0, 1) := by decide +kernel
theorem dX4_firstGap_78 : decode cX4_firstGap 78 = .ok (.istore 5, 2) := by decide +kernel
theorem dX4_firstGap_80 : decode cX4_firstGap 80 = .ok (.iload 5, 2) := by decide +kernel
theorem dX4_firstGap_82 : decode cX4_firstGap 82 = .ok (.aload_n 0, 1) := by decide +kernel
theorem dX4_firstGap_83 : decode cX4_firstGap 83 = .ok (.getfield 30, 3) := by decide +kernel
theorem dX4_firstGap_86 : decode cX4_firstGap 86 = .ok (.if_icmp .ge 66, 3) := by decide +kernel
theorem dX4_firstGap_89 : decode cX4_firstGap 89 = .ok (.lload_n 2, 1) := by decide +kernel
theorem dX4_firstGap_90 : decode cX4_firstGap 90 = .ok (.ldc2_w 43, 3) := by decide +kernel
theorem dX4_firstGap_93 : decode cX4_firstGap 93 = .ok (.lcmp, 1) := by decide +kernel
theorem dX4_firstGap_94 : decode cX4_firstGap 94 = .ok (.ifCond .ne 58, 3) := by decide +kernel
theorem dX4_firstGap_97 : decode cX4_firstGap 97 = .ok (.iload 4, 2) := by decide +kernel
theorem dX4_firstGap_99 : decode cX4_firstGap 99 = .ok (.iload 5, 2) := by decide +kernel
theorem dX4_firstGap_101 : decode cX4_firstGap 101 = .ok (.invokestatic 60, 3) := by decide +kernel
theorem dX4_firstGap_104 : decode cX4_firstGap 104 = .ok (.istore 6, 2) := by decide +kernel
theorem dX4_firstGap_106 : decode cX4_firstGap 106 = .ok (.aload_n 0, 1) := by decide +kernel
theorem dX4_firstGap_107 : decode cX4_firstGap 107 = .ok (.getfield 23, 3) := by decide +kernel
theorem dX4_firstGap_110 : decode cX4_firstGap 110 = .ok (.iload 6, 2) := by decide +kernel
theorem dX4_firstGap_112 : decode cX4_firstGap 112 = .ok (.iaload, 1) := by decide +kernel
theorem dX4_firstGap_113 : decode cX4_firstGap 113 = .ok (.aload_n 0, 1) := by decide +kernel
theorem dX4_firstGap_114 : decode cX4_firstGap 114 = .ok (.getfield 20, 3) := by decide +kernel
theorem dX4_firstGap_117 : decode cX4_firstGap 117 = .ok (.getfield 45, 3) := by decide +kernel
theorem dX4_firstGap_120 : decode cX4_firstGap 120 = .ok (.if_icmp .ge 26, 3) := by decide +kernel
theorem dX4_firstGap_123 : decode cX4_firstGap 123 = .ok (.aload_n 0, 1) := by decide +kernel
theorem dX4_firstGap_124 : decode cX4_firstGap 124 = .ok (.iload 6, 2) := by decide +kernel
theorem dX4_firstGap_126 : decode cX4_firstGap 126 = .ok (.aload_n 0, 1) := by decide +kernel
theorem dX4_firstGap_127 : decode cX4_firstGap 127 = .ok (.getfield 14, 3) := by decide +kernel
theorem dX4_firstGap_130 : decode cX4_firstGap 130 = .ok (.getfield 52, 3) := by decide +kernel
theorem dX4_firstGap_133 : decode cX4_firstGap 133 = .ok (.iload 4, 2) := by decide +kernel
theorem dX4_firstGap_135 : decode cX4_firstGap 135 = .ok (.laload, 1) := by decide +kernel
theorem dX4_firstGap_136 : decode cX4_firstGap 136 = .ok (.iload 5, 2) := by decide +kernel
theorem dX4_firstGap_138 : decode cX4_firstGap 138 = .ok (.invokestatic 64, 3) := by decide +kernel
theorem dX4_firstGap_141 : decode cX4_firstGap 141 = .ok (.aload_n 1, 1) := by decide +kernel
theorem dX4_firstGap_142 : decode cX4_firstGap 142 = .ok (.invokevirtual 56, 3) := by decide +kernel
theorem dX4_firstGap_145 : decode cX4_firstGap 145 = .ok (.lstore_n 2, 1) := by decide +kernel
theorem dX4_firstGap_146 : decode cX4_firstGap 146 = .ok (.iinc 5 1, 3) := by decide +kernel
theorem dX4_firstGap_149 : decode cX4_firstGap 149 = .ok (.goto (-69), 3) := by decide +kernel
theorem dX4_firstGap_152 : decode cX4_firstGap 152 = .ok (.iinc 4 1, 3) := by decide +kernel
theorem dX4_firstGap_155 : decode cX4_firstGap 155 = .ok (.goto (-98), 3) := by decide +kernel
theorem dX4_firstGap_158 : decode cX4_firstGap 158 = .ok (.lload_n 2, 1) := by decide +kernel
theorem dX4_firstGap_159 : decode cX4_firstGap 159 = .ok (.lreturn, 1) := by decide +kernel
set_option maxRecDepth 100000 in
theorem w_Ta_firstGap_L7 {p : Program} {l : Launch} {e : Env} {s : State} {m : MethodId} {args : Array Value} {below : List Frame} {meth : Method} {c : Code} {Q : State → Prop} {A : Nat → Prop} {D : va_G} {cI cJ cZ cO : ClassId} {q_this q_prefixes q_suffixes q_known q_bits q_prefixes_words q_suffixes_words q_o1 q_o1_entries : Nat} {v_letters : Int32} {v_prefixes_size : Int32} {v_prefixes_longest : Int32} {v_prefixes_words : (Nat → Int64)} {v_suffixes_size : Int32} {v_suffixes_longest : Int32} {v_suffixes_words : (Nat → Int64)} {v_o1_size : Int32} {v_o1_entries : (Nat → Int64)} {x : Int64 × (Nat → Int32) × (Nat → Int32)} (C0 : Cx p s m args c A D cI cJ cZ cO cX4_firstGap 7 RX4) (hQ : RtJ p l e rm_Ta_firstGap s m args below meth c Q A D cX4_firstGap (ws_Ta_firstGap cI cJ cZ q_this q_prefixes q_suffixes q_known q_bits q_prefixes_words q_suffixes_words q_o1 q_o1_entries v_letters v_prefixes_size v_prefixes_longest v_prefixes_words v_suffixes_size v_suffixes_longest v_suffixes_words x.2.1 x.2.2 v_o1_size v_o1_entries) x.1) {K : Int64 → Int32 → (Nat → Int32) → (Nat → Int32) → Option (Int64 × (Nat → Int32) × (Nat → Int32))} (hK : ∀ (x2 : Int64) (x4 : Int32) (v_known : (Nat → Int32)) (v_bits : (Nat → Int32)) (H : Heap) (locs : List Loc) (ls : Array Slot), K x2 x4 v_known v_bits = some x → Wd s A D (ws_Ta_firstGap cI cJ cZ q_this q_prefixes q_suffixes q_known q_bits q_prefixes_words q_suffixes_words q_o1 q_o1_entries v_letters v_prefixes_size v_prefixes_longest v_prefixes_words v_suffixes_size v_suffixes_longest v_suffixes_words v_known v_bits v_o1_size v_o1_entries) H locs → lv_has ls 7 [(0, .ref q_this), (1, .ref q_o1), (2, .long x2)] → W p l e rm_Ta_firstGap s m args below meth c H locs 0 0 Q (F0 m 54 ls [])) {rec : Int64 → Int32 → (Nat → Int32) → (Nat → Int32) → Option (Int64 × (Nat → Int32) × (Nat → Int32))} (hrec : ∀ (x2 : Int64) (x4 : Int32) (v_known : (Nat → Int32)) (v_bits : (Nat → Int32)) (H : Heap) (locs : List Loc) (ls : Array Slot), rec x2 x4 v_known v_bits = some x → Wd s A D (ws_Ta_firstGap cI cJ cZ q_this q_prefixes q_suffixes q_known q_bits q_prefixes_words q_suffixes_words q_o1 q_o1_entries v_letters v_prefixes_size v_prefixes_longest v_prefixes_words v_suffixes_size v_suffixes_longest v_suffixes_words v_known v_bits v_o1_size v_o1_entries) H locs → lv_has ls 7 [(0, .ref q_this), (1, .ref q_o1), (2, .long x2), (4, .int x4)] → W p l e rm_Ta_firstGap s m args below meth c H locs 0 0 Q (F0 m 7 ls [])) (x2 : Int64) (x4 : Int32) (v_known : (Nat → Int32)) (v_bits : (Nat → Int32)) {H : Heap} {locs : List Loc} {ls : Array Slot} (h : f_Ta_firstGap_L7 v_prefixes_size v_prefixes_words v_suffixes_size v_suffixes_words v_o1_size v_o1_entries K rec x2 x4 v_known v_bits = some x) (w : Wd s A D (ws_Ta_firstGap cI cJ cZ q_this q_prefixes q_suffixes q_known q_bits q_prefixes_words q_suffixes_words q_o1 q_o1_entries v_letters v_prefixes_size v_prefixes_longest v_prefixes_words v_suffixes_size v_suffixes_longest v_suffixes_words v_known v_bits v_o1_size v_o1_entries) H locs) (hl : lv_has ls 7 [(0, .ref q_this), (1, .ref q_o1), (2, .long x2), (4, .int x4)]) : W p l e rm_Ta_firstGap s m args below meth c H locs 0 0 Q (F0 m 7 ls []) := by
  obtain ⟨hx, hb, hml, hown, hts, -, -⟩ := id C0
  unfold f_Ta_firstGap_L7 at h
  refine lv_iload hx hb dX4_firstGap_7 (lv_at hl 3 rfl) ?_
  refine lv_aload_n hx hb dX4_firstGap_9 rfl (lv_at hl 0 rfl) ?_
  refine r_get C0 w 0 rfl kf_Ta 0 (by decide) lf_RX4_14 rfl dX4_firstGap_10 ?_
  refine r_get C0 w 1 rfl kf_WL 1 (by decide) lf_RX4_45 rfl dX4_firstGap_13 ?_
  refine lv_icmp_ge (tgt := 54) hx hb dX4_firstGap_16 (by decide) (fun hc => ?_) (fun hc => ?_)
  · have h := if_h hc h
    exact hK _ _ _ _ _ _ _ h w (lv_sub hl [0, 1, 2] rfl)
  · have h := nf_h hc h
    refine lv_lload_n hx hb dX4_firstGap_19 rfl (lv_at hl 2 rfl) ?_
    refine lv_ldc2 (v := (-1 : Int64)) hx hb hown (hts _ ll_RX4_43) dX4_firstGap_20 ?_
    refine r_lc_ne (tgt := 54) hx hb dX4_firstGap_23 dX4_firstGap_24 (by decide) (fun hc => ?_) (fun hc => ?_)
    · have h := nf_h hc h
      exact hK _ _ _ _ _ _ _ h w (lv_sub hl [0, 1, 2] rfl)
    · have h := if_h hc h
      refine lv_aload_n hx hb dX4_firstGap_27 rfl (lv_at hl 0 rfl) ?_
      refine lv_iload hx hb dX4_firstGap_28 (lv_at hl 3 rfl) ?_
      obtain ⟨r, hcall, h⟩ := bd1_h h
      obtain ⟨wr, hp, hp'⟩ := rd_of (ws := (ws_Ta_firstGap cI cJ cZ q_this q_prefixes q_suffixes q_known q_bits q_prefixes_words q_suffixes_words q_o1 q_o1_entries v_letters v_prefixes_size v_prefixes_longest v_prefixes_words v_suffixes_size v_suffixes_longest v_suffixes_words v_known v_bits v_o1_size v_o1_entries)) (wc := (ws_Ta_prefixRow cI cJ cZ)) [] rfl rfl
      refine r_SI (r := r) (As := [.int x4]) (rest := [.ref q_this]) (wc' := (ws_Ta_prefixRow cI cJ cZ)) (ws' := (ws_Ta_firstGap cI cJ cZ q_this q_prefixes q_suffixes q_known q_bits q_prefixes_words q_suffixes_words q_o1 q_o1_entries v_letters v_prefixes_size v_prefixes_longest v_prefixes_words v_suffixes_size v_suffixes_longest v_suffixes_words v_known v_bits v_o1_size v_o1_entries)) C0 w (c_Ta_prefixRow hcall) hp hp' lm_RX4_48 ms_Ta_prefixRow ⟨rfl, rfl⟩ ⟨by decide, by decide⟩ ⟨Nat.zero_le _, Nat.zero_le _⟩ rfl hl rfl (Nat.le_of_ble_eq_true rfl) dX4_firstGap_30 (fun H locs w => ?_)
      refine lv_aload_n hx hb dX4_firstGap_33 rfl (lv_at hl 0 rfl) ?_
      refine r_get C0 w 0 rfl kf_Ta 0 (by decide) lf_RX4_14 rfl dX4_firstGap_34 ?_
      refine r_get C0 w 1 rfl kf_WL 0 (by decide) lf_RX4_52 rfl dX4_firstGap_37 ?_
      refine lv_iload hx hb dX4_firstGap_40 (lv_at hl 3 rfl) ?_
      obtain ⟨hi, h⟩ := gIn_h h
      refine r_lald C0 w 2 rfl rfl hi dX4_firstGap_42 ?_
      refine lv_aload_n hx hb dX4_firstGap_43 rfl (lv_at hl 1 rfl) ?_
      obtain ⟨r_1, v_known_1, v_bits_1, hcall, h⟩ := bd3_h h
      have hp := sp_of (ws := (ws_Ta_firstGap cI cJ cZ q_this q_prefixes q_suffixes q_known q_bits q_prefixes_words q_suffixes_words q_o1 q_o1_entries v_letters v_prefixes_size v_prefixes_longest v_prefixes_words v_suffixes_size v_suffixes_longest v_suffixes_words v_known v_bits v_o1_size v_o1_entries)) (wc := (ws_Ta_rowGap cI cJ cZ q_this q_prefixes q_suffixes q_known q_bits q_suffixes_words q_o1 q_o1_entries v_letters v_suffixes_size v_suffixes_longest v_suffixes_words v_known v_bits v_o1_size v_o1_entries)) [0, 3, 4, 5, 6, 7, 8] [1, 2] rfl rfl
      have hp' : Rp (pk (ws_Ta_firstGap cI cJ cZ q_this q_prefixes q_suffixes q_known q_bits q_prefixes_words q_suffixes_words q_o1 q_o1_entries v_letters v_prefixes_size v_prefixes_longest v_prefixes_words v_suffixes_size v_suffixes_longest v_suffixes_words v_known v_bits v_o1_size v_o1_entries) [1, 2] ++ (ws_Ta_rowGap cI cJ cZ q_this q_prefixes q_suffixes q_known q_bits q_suffixes_words q_o1 q_o1_entries v_letters v_suffixes_size v_suffixes_longest v_suffixes_words v_known_1 v_bits_1 v_o1_size v_o1_entries)) (ws_Ta_firstGap cI cJ cZ q_this q_prefixes q_suffixes q_known q_bits q_prefixes_words q_suffixes_words q_o1 q_o1_entries v_letters v_prefixes_size v_prefixes_longest v_prefixes_words v_suffixes_size v_suffixes_longest v_suffixes_words v_known_1 v_bits_1 v_o1_size v_o1_entries) := ⟨[2, 0, 1, 3, 4, 5, 6, 7, 8], rfl, rfl⟩
      refine r_VJ (r := r_1) (As := [.int r, .long (v_prefixes_words x4.toNatClampNeg), .ref q_o1]) (rest := []) (wc' := (ws_Ta_rowGap cI cJ cZ q_this q_prefixes q_suffixes q_known q_bits q_suffixes_words q_o1 q_o1_entries v_letters v_suffixes_size v_suffixes_longest v_suffixes_words v_known_1 v_bits_1 v_o1_size v_o1_entries)) (ws' := (ws_Ta_firstGap cI cJ cZ q_this q_prefixes q_suffixes q_known q_bits q_prefixes_words q_suffixes_words q_o1 q_o1_entries v_letters v_prefixes_size v_prefixes_longest v_prefixes_words v_suffixes_size v_suffixes_longest v_suffixes_words v_known_1 v_bits_1 v_o1_size v_o1_entries)) C0 w (c_Ta_rowGap hcall) hp hp' lm_RX4_56 mv_Ta_rowGap ⟨rfl, rfl⟩ ⟨by decide, by decide⟩ ⟨Nat.zero_le _, Nat.zero_le _⟩ (q0 := 0) rfl rfl rfl rfl hl rfl (Nat.le_of_ble_eq_true rfl) dX4_firstGap_44 (fun H locs w => ?_)
      refine lv_lstore_n (lv' := [(2, .long r_1), (0, .ref q_this), (1, .ref q_o1), (4, .int x4)]) hx hb dX4_firstGap_47 rfl hl (by decide) rfl (fun ls hl => ?_)
      obtain ⟨x4_1, ex4_1⟩ : ∃ y : Int32, y = (x4 + 1) := ⟨_, rfl⟩
      have h := bnd_at ex4_1 h
      refine lv_iinc (v := x4_1) (lv' := [(4, .int x4_1), (2, .long r_1), (0, .ref q_this), (1, .ref q_o1)]) hx hb dX4_firstGap_48 hl (k := 3) rfl (by rw [ex4_1]; rfl) (by decide) rfl (fun ls hl => ?_)
      refine lv_goto (tgt := 7) hx hb dX4_firstGap_51 (by decide) ?_
      exact hrec _ _ _ _ _ _ _ h w (lv_sub hl [2, 3, 1, 0] rfl)
set_option maxRecDepth 100000 in
theorem wl_Ta_firstGap_L7 {p : Program} {l : Launch} {e : Env} {s : State} {m : MethodId} {args : Array Value} {below : List Frame} {meth : Method} {c : Code} {Q : State → Prop} {A : Nat → Prop} {D : va_G} {cI cJ cZ cO : ClassId} {q_this q_prefixes q_suffixes q_known q_bits q_prefixes_words q_suffixes_words q_o1 q_o1_entries : Nat} {v_letters : Int32} {v_prefixes_size : Int32} {v_prefixes_longest : Int32} {v_prefixes_words : (Nat → Int64)} {v_suffixes_size : Int32} {v_suffixes_longest : Int32} {v_suffixes_words : (Nat → Int64)} {v_o1_size : Int32} {v_o1_entries : (Nat → Int64)} {x : Int64 × (Nat → Int32) × (Nat → Int32)} (C0 : Cx p s m args c A D cI cJ cZ cO cX4_firstGap 7 RX4) (hQ : RtJ p l e rm_Ta_firstGap s m args below meth c Q A D cX4_firstGap (ws_Ta_firstGap cI cJ cZ q_this q_prefixes q_suffixes q_known q_bits q_prefixes_words q_suffixes_words q_o1 q_o1_entries v_letters v_prefixes_size v_prefixes_longest v_prefixes_words v_suffixes_size v_suffixes_longest v_suffixes_words x.2.1 x.2.2 v_o1_size v_o1_entries) x.1) {K : Int64 → Int32 → (Nat → Int32) → (Nat → Int32) → Option (Int64 × (Nat → Int32) × (Nat → Int32))} (hK : ∀ (x2 : Int64) (x4 : Int32) (v_known : (Nat → Int32)) (v_bits : (Nat → Int32)) (H : Heap) (locs : List Loc) (ls : Array Slot), K x2 x4 v_known v_bits = some x → Wd s A D (ws_Ta_firstGap cI cJ cZ q_this q_prefixes q_suffixes q_known q_bits q_prefixes_words q_suffixes_words q_o1 q_o1_entries v_letters v_prefixes_size v_prefixes_longest v_prefixes_words v_suffixes_size v_suffixes_longest v_suffixes_words v_known v_bits v_o1_size v_o1_entries) H locs → lv_has ls 7 [(0, .ref q_this), (1, .ref q_o1), (2, .long x2)] → W p l e rm_Ta_firstGap s m args below meth c H locs 0 0 Q (F0 m 54 ls [])) : ∀ (n : Nat) (x2 : Int64) (x4 : Int32) (v_known : (Nat → Int32)) (v_bits : (Nat → Int32)) (H : Heap) (locs : List Loc) (ls : Array Slot), itr (fun _ _ _ _ => none) (f_Ta_firstGap_L7 v_prefixes_size v_prefixes_words v_suffixes_size v_suffixes_words v_o1_size v_o1_entries K) n x2 x4 v_known v_bits = some x → Wd s A D (ws_Ta_firstGap cI cJ cZ q_this q_prefixes q_suffixes q_known q_bits q_prefixes_words q_suffixes_words q_o1 q_o1_entries v_letters v_prefixes_size v_prefixes_longest v_prefixes_words v_suffixes_size v_suffixes_longest v_suffixes_words v_known v_bits v_o1_size v_o1_entries) H locs → lv_has ls 7 [(0, .ref q_this), (1, .ref q_o1), (2, .long x2), (4, .int x4)] → W p l e rm_Ta_firstGap s m args below meth c H locs 0 0 Q (F0 m 7 ls []) := by
  intro n
  induction n with
  | zero => intro _ _ _ _ _ _ _ h; cases (show none = some _ from h)
  | succ n ih => intro _ _ _ _ _ _ _ h w hl; exact w_Ta_firstGap_L7 C0 hQ hK ih _ _ _ _ h w hl
set_option maxRecDepth 100000 in
theorem w_Ta_firstGap_J146 {p : Program} {l : Launch} {e : Env} {s : State} {m : MethodId} {args : Array Value} {below : List Frame} {meth : Method} {c : Code} {Q : State → Prop} {A : Nat → Prop} {D : va_G} {cI cJ cZ cO : ClassId} {q_this q_prefixes q_suffixes q_known q_bits q_prefixes_words q_suffixes_words q_o1 q_o1_entries : Nat} {v_letters : Int32} {v_prefixes_size : Int32} {v_prefixes_longest : Int32} {v_prefixes_words : (Nat → Int64)} {v_suffixes_size : Int32} {v_suffixes_longest : Int32} {v_suffixes_words : (Nat → Int64)} {v_known : (Nat → Int32)} {v_bits : (Nat → Int32)} {v_o1_size : Int32} {v_o1_entries : (Nat → Int64)} {x : Int64 × (Nat → Int32) × (Nat → Int32)} {x2 : Int64} {x4 : Int32} {x5 : Int32} (C0 : Cx p s m args c A D cI cJ cZ cO cX4_firstGap 7 RX4) (hQ : RtJ p l e rm_Ta_firstGap s m args below meth c Q A D cX4_firstGap (ws_Ta_firstGap cI cJ cZ q_this q_prefixes q_suffixes q_known q_bits q_prefixes_words q_suffixes_words q_o1 q_o1_entries v_letters v_prefixes_size v_prefixes_longest v_prefixes_words v_suffixes_size v_suffixes_longest v_suffixes_words x.2.1 x.2.2 v_o1_size v_o1_entries) x.1) {K : Int64 → Int32 → (Nat → Int32) → (Nat → Int32) → Option (Int64 × (Nat → Int32) × (Nat → Int32))} (hK : ∀ (y2 : Int64) (y5 : Int32) (u_known : (Nat → Int32)) (u_bits : (Nat → Int32)) (H : Heap) (locs : List Loc) (ls : Array Slot), K y2 y5 u_known u_bits = some x → Wd s A D (ws_Ta_firstGap cI cJ cZ q_this q_prefixes q_suffixes q_known q_bits q_prefixes_words q_suffixes_words q_o1 q_o1_entries v_letters v_prefixes_size v_prefixes_longest v_prefixes_words v_suffixes_size v_suffixes_longest v_suffixes_words u_known u_bits v_o1_size v_o1_entries) H locs → lv_has ls 7 [(0, .ref q_this), (1, .ref q_o1), (2, .long y2), (4, .int x4)] → W p l e rm_Ta_firstGap s m args below meth c H locs 0 0 Q (F0 m 152 ls [])) {rec : Int64 → Int32 → (Nat → Int32) → (Nat → Int32) → Option (Int64 × (Nat → Int32) × (Nat → Int32))} (hrec : ∀ (y2 : Int64) (y5 : Int32) (u_known : (Nat → Int32)) (u_bits : (Nat → Int32)) (H : Heap) (locs : List Loc) (ls : Array Slot), rec y2 y5 u_known u_bits = some x → Wd s A D (ws_Ta_firstGap cI cJ cZ q_this q_prefixes q_suffixes q_known q_bits q_prefixes_words q_suffixes_words q_o1 q_o1_entries v_letters v_prefixes_size v_prefixes_longest v_prefixes_words v_suffixes_size v_suffixes_longest v_suffixes_words u_known u_bits v_o1_size v_o1_entries) H locs → lv_has ls 7 [(0, .ref q_this), (1, .ref q_o1), (2, .long y2), (4, .int x4), (5, .int y5)] → W p l e rm_Ta_firstGap s m args below meth c H locs 0 0 Q (F0 m 80 ls [])) {H : Heap} {locs : List Loc} {ls : Array Slot} (h : f_Ta_firstGap_J146 rec x2 x5 v_known v_bits = some x) (w : Wd s A D (ws_Ta_firstGap cI cJ cZ q_this q_prefixes q_suffixes q_known q_bits q_prefixes_words q_suffixes_words q_o1 q_o1_entries v_letters v_prefixes_size v_prefixes_longest v_prefixes_words v_suffixes_size v_suffixes_longest v_suffixes_words v_known v_bits v_o1_size v_o1_entries) H locs) (hl : lv_has ls 7 [(0, .ref q_this), (1, .ref q_o1), (2, .long x2), (4, .int x4), (5, .int x5)]) : W p l e rm_Ta_firstGap s m args below meth c H locs 0 0 Q (F0 m 146 ls []) := by
  obtain ⟨hx, hb, hml, hown, hts, -, -⟩ := id C0
  unfold f_Ta_firstGap_J146 at h
  obtain ⟨x5_1, ex5_1⟩ : ∃ y : Int32, y = (x5 + 1) := ⟨_, rfl⟩
  have h := bnd_at ex5_1 h
  refine lv_iinc (v := x5_1) (lv' := [(5, .int x5_1), (0, .ref q_this), (1, .ref q_o1), (2, .long x2), (4, .int x4)]) hx hb dX4_firstGap_146 hl (k := 4) rfl (by rw [ex5_1]; rfl) (by decide) rfl (fun ls hl => ?_)
  refine lv_goto (tgt := 80) hx hb dX4_firstGap_149 (by decide) ?_
  exact hrec _ _ _ _ _ _ _ h w (lv_sub hl [1, 2, 3, 4, 0] rfl)
set_option maxRecDepth 100000 in
theorem w_Ta_firstGap_L80 {p : Program} {l : Launch} {e : Env} {s : State} {m : MethodId} {args : Array Value} {below : List Frame} {meth : Method} {c : Code} {Q : State → Prop} {A : Nat → Prop} {D : va_G} {cI cJ cZ cO : ClassId} {q_this q_prefixes q_suffixes q_known q_bits q_prefixes_words q_suffixes_words q_o1 q_o1_entries : Nat} {v_letters : Int32} {v_prefixes_size : Int32} {v_prefixes_longest : Int32} {v_prefixes_words : (Nat → Int64)} {v_suffixes_size : Int32} {v_suffixes_longest : Int32} {v_suffixes_words : (Nat → Int64)} {v_o1_size : Int32} {v_o1_entries : (Nat → Int64)} {x4 : Int32} {x : Int64 × (Nat → Int32) × (Nat → Int32)} (C0 : Cx p s m args c A D cI cJ cZ cO cX4_firstGap 7 RX4) (hQ : RtJ p l e rm_Ta_firstGap s m args below meth c Q A D cX4_firstGap (ws_Ta_firstGap cI cJ cZ q_this q_prefixes q_suffixes q_known q_bits q_prefixes_words q_suffixes_words q_o1 q_o1_entries v_letters v_prefixes_size v_prefixes_longest v_prefixes_words v_suffixes_size v_suffixes_longest v_suffixes_words x.2.1 x.2.2 v_o1_size v_o1_entries) x.1) {K : Int64 → Int32 → (Nat → Int32) → (Nat → Int32) → Option (Int64 × (Nat → Int32) × (Nat → Int32))} (hK : ∀ (x2 : Int64) (x5 : Int32) (v_known : (Nat → Int32)) (v_bits : (Nat → Int32)) (H : Heap) (locs : List Loc) (ls : Array Slot), K x2 x5 v_known v_bits = some x → Wd s A D (ws_Ta_firstGap cI cJ cZ q_this q_prefixes q_suffixes q_known q_bits q_prefixes_words q_suffixes_words q_o1 q_o1_entries v_letters v_prefixes_size v_prefixes_longest v_prefixes_words v_suffixes_size v_suffixes_longest v_suffixes_words v_known v_bits v_o1_size v_o1_entries) H locs → lv_has ls 7 [(0, .ref q_this), (1, .ref q_o1), (2, .long x2), (4, .int x4)] → W p l e rm_Ta_firstGap s m args below meth c H locs 0 0 Q (F0 m 152 ls [])) {rec : Int64 → Int32 → (Nat → Int32) → (Nat → Int32) → Option (Int64 × (Nat → Int32) × (Nat → Int32))} (hrec : ∀ (x2 : Int64) (x5 : Int32) (v_known : (Nat → Int32)) (v_bits : (Nat → Int32)) (H : Heap) (locs : List Loc) (ls : Array Slot), rec x2 x5 v_known v_bits = some x → Wd s A D (ws_Ta_firstGap cI cJ cZ q_this q_prefixes q_suffixes q_known q_bits q_prefixes_words q_suffixes_words q_o1 q_o1_entries v_letters v_prefixes_size v_prefixes_longest v_prefixes_words v_suffixes_size v_suffixes_longest v_suffixes_words v_known v_bits v_o1_size v_o1_entries) H locs → lv_has ls 7 [(0, .ref q_this), (1, .ref q_o1), (2, .long x2), (4, .int x4), (5, .int x5)] → W p l e rm_Ta_firstGap s m args below meth c H locs 0 0 Q (F0 m 80 ls [])) (x2 : Int64) (x5 : Int32) (v_known : (Nat → Int32)) (v_bits : (Nat → Int32)) {H : Heap} {locs : List Loc} {ls : Array Slot} (h : f_Ta_firstGap_L80 v_letters v_prefixes_words v_suffixes_size v_suffixes_words v_o1_size v_o1_entries x4 K rec x2 x5 v_known v_bits = some x) (w : Wd s A D (ws_Ta_firstGap cI cJ cZ q_this q_prefixes q_suffixes q_known q_bits q_prefixes_words q_suffixes_words q_o1 q_o1_entries v_letters v_prefixes_size v_prefixes_longest v_prefixes_words v_suffixes_size v_suffixes_longest v_suffixes_words v_known v_bits v_o1_size v_o1_entries) H locs) (hl : lv_has ls 7 [(0, .ref q_this), (1, .ref q_o1), (2, .long x2), (4, .int x4), (5, .int x5)]) : W p l e rm_Ta_firstGap s m args below meth c H locs 0 0 Q (F0 m 80 ls []) := by
  obtain ⟨hx, hb, hml, hown, hts, -, -⟩ := id C0
  unfold f_Ta_firstGap_L80 at h
  refine lv_iload hx hb dX4_firstGap_80 (lv_at hl 4 rfl) ?_
  refine lv_aload_n hx hb dX4_firstGap_82 rfl (lv_at hl 0 rfl) ?_
  refine r_get C0 w 0 rfl kf_Ta 4 (by decide) lf_RX4_30 rfl dX4_firstGap_83 ?_
  refine lv_icmp_ge (tgt := 152) hx hb dX4_firstGap_86 (by decide) (fun hc => ?_) (fun hc => ?_)
  · have h := if_h hc h
    exact hK _ _ _ _ _ _ _ h w (lv_sub hl [0, 1, 2, 3] rfl)
  · have h := nf_h hc h
    refine lv_lload_n hx hb dX4_firstGap_89 rfl (lv_at hl 2 rfl) ?_
    refine lv_ldc2 (v := (-1 : Int64)) hx hb hown (hts _ ll_RX4_43) dX4_firstGap_90 ?_
    refine r_lc_ne (tgt := 152) hx hb dX4_firstGap_93 dX4_firstGap_94 (by decide) (fun hc => ?_) (fun hc => ?_)
    · have h := nf_h hc h
      exact hK _ _ _ _ _ _ _ h w (lv_sub hl [0, 1, 2, 3] rfl)
    · have h := if_h hc h
      refine lv_iload hx hb dX4_firstGap_97 (lv_at hl 3 rfl) ?_
      refine lv_iload hx hb dX4_firstGap_99 (lv_at hl 4 rfl) ?_
      obtain ⟨r, hcall, h⟩ := bd1_h h
      obtain ⟨wr, hp, hp'⟩ := rd_of (ws := (ws_Ta_firstGap cI cJ cZ q_this q_prefixes q_suffixes q_known q_bits q_prefixes_words q_suffixes_words q_o1 q_o1_entries v_letters v_prefixes_size v_prefixes_longest v_prefixes_words v_suffixes_size v_suffixes_longest v_suffixes_words v_known v_bits v_o1_size v_o1_entries)) (wc := (ws_Ta_extensionRow cI cJ cZ)) [] rfl rfl
      refine r_SI (r := r) (As := [.int x4, .int x5]) (rest := []) (wc' := (ws_Ta_extensionRow cI cJ cZ)) (ws' := (ws_Ta_firstGap cI cJ cZ q_this q_prefixes q_suffixes q_known q_bits q_prefixes_words q_suffixes_words q_o1 q_o1_entries v_letters v_prefixes_size v_prefixes_longest v_prefixes_words v_suffixes_size v_suffixes_longest v_suffixes_words v_known v_bits v_o1_size v_o1_entries)) C0 w (c_Ta_extensionRow hcall) hp hp' lm_RX4_60 ms_Ta_extensionRow ⟨rfl, rfl⟩ ⟨by decide, by decide⟩ ⟨Nat.zero_le _, Nat.zero_le _⟩ rfl hl rfl (Nat.le_of_ble_eq_true rfl) dX4_firstGap_101 (fun H locs w => ?_)
      refine lv_istore (lv' := [(6, .int r), (0, .ref q_this), (1, .ref q_o1), (2, .long x2), (4, .int x4), (5, .int x5)]) hx hb dX4_firstGap_104 hl (by decide) rfl (fun ls hl => ?_)
      refine lv_aload_n hx hb dX4_firstGap_106 rfl (lv_at hl 1 rfl) ?_
      refine r_get C0 w 0 rfl kf_Ta 2 (by decide) lf_RX4_23 rfl dX4_firstGap_107 ?_
      refine lv_iload hx hb dX4_firstGap_110 (lv_at hl 0 rfl) ?_
      obtain ⟨hi, h⟩ := gIn_h h
      refine r_iald C0 w 5 rfl rfl hi dX4_firstGap_112 ?_
      refine lv_aload_n hx hb dX4_firstGap_113 rfl (lv_at hl 1 rfl) ?_
      refine r_get C0 w 0 rfl kf_Ta 1 (by decide) lf_RX4_20 rfl dX4_firstGap_114 ?_
      refine r_get C0 w 3 rfl kf_WL 1 (by decide) lf_RX4_45 rfl dX4_firstGap_117 ?_
      refine lv_icmp_ge (tgt := 146) hx hb dX4_firstGap_120 (by decide) (fun hc => ?_) (fun hc => ?_)
      · have h := if_h hc h
        exact w_Ta_firstGap_J146 C0 hQ hK hrec h w (lv_sub hl [1, 2, 3, 4, 5] rfl)
      · have h := nf_h hc h
        refine lv_aload_n hx hb dX4_firstGap_123 rfl (lv_at hl 1 rfl) ?_
        refine lv_iload hx hb dX4_firstGap_124 (lv_at hl 0 rfl) ?_
        refine lv_aload_n hx hb dX4_firstGap_126 rfl (lv_at hl 1 rfl) ?_
        refine r_get C0 w 0 rfl kf_Ta 0 (by decide) lf_RX4_14 rfl dX4_firstGap_127 ?_
        refine r_get C0 w 1 rfl kf_WL 0 (by decide) lf_RX4_52 rfl dX4_firstGap_130 ?_
        refine lv_iload hx hb dX4_firstGap_133 (lv_at hl 4 rfl) ?_
        obtain ⟨hi, h⟩ := gIn_h h
        refine r_lald C0 w 2 rfl rfl hi dX4_firstGap_135 ?_
        refine lv_iload hx hb dX4_firstGap_136 (lv_at hl 5 rfl) ?_
        obtain ⟨r_1, hcall, h⟩ := bd1_h h
        obtain ⟨wr, hp, hp'⟩ := rd_of (ws := (ws_Ta_firstGap cI cJ cZ q_this q_prefixes q_suffixes q_known q_bits q_prefixes_words q_suffixes_words q_o1 q_o1_entries v_letters v_prefixes_size v_prefixes_longest v_prefixes_words v_suffixes_size v_suffixes_longest v_suffixes_words v_known v_bits v_o1_size v_o1_entries)) (wc := (ws_Ws_append cI cJ cZ)) [] rfl rfl
        refine r_SJ (r := r_1) (As := [.long (v_prefixes_words x4.toNatClampNeg), .int x5]) (rest := [.int r, .ref q_this]) (wc' := (ws_Ws_append cI cJ cZ)) (ws' := (ws_Ta_firstGap cI cJ cZ q_this q_prefixes q_suffixes q_known q_bits q_prefixes_words q_suffixes_words q_o1 q_o1_entries v_letters v_prefixes_size v_prefixes_longest v_prefixes_words v_suffixes_size v_suffixes_longest v_suffixes_words v_known v_bits v_o1_size v_o1_entries)) C0 w (c_Ws_append hcall) hp hp' lm_RX4_64 ms_Ws_append ⟨rfl, rfl⟩ ⟨by decide, by decide⟩ ⟨Nat.zero_le _, Nat.zero_le _⟩ rfl hl rfl (Nat.le_of_ble_eq_true rfl) dX4_firstGap_138 (fun H locs w => ?_)
        refine lv_aload_n hx hb dX4_firstGap_141 rfl (lv_at hl 2 rfl) ?_
        obtain ⟨r_2, v_known_1, v_bits_1, hcall, h⟩ := bd3_h h
        have hp := sp_of (ws := (ws_Ta_firstGap cI cJ cZ q_this q_prefixes q_suffixes q_known q_bits q_prefixes_words q_suffixes_words q_o1 q_o1_entries v_letters v_prefixes_size v_prefixes_longest v_prefixes_words v_suffixes_size v_suffixes_longest v_suffixes_words v_known v_bits v_o1_size v_o1_entries)) (wc := (ws_Ta_rowGap cI cJ cZ q_this q_prefixes q_suffixes q_known q_bits q_suffixes_words q_o1 q_o1_entries v_letters v_suffixes_size v_suffixes_longest v_suffixes_words v_known v_bits v_o1_size v_o1_entries)) [0, 3, 4, 5, 6, 7, 8] [1, 2] rfl rfl
        have hp' : Rp (pk (ws_Ta_firstGap cI cJ cZ q_this q_prefixes q_suffixes q_known q_bits q_prefixes_words q_suffixes_words q_o1 q_o1_entries v_letters v_prefixes_size v_prefixes_longest v_prefixes_words v_suffixes_size v_suffixes_longest v_suffixes_words v_known v_bits v_o1_size v_o1_entries) [1, 2] ++ (ws_Ta_rowGap cI cJ cZ q_this q_prefixes q_suffixes q_known q_bits q_suffixes_words q_o1 q_o1_entries v_letters v_suffixes_size v_suffixes_longest v_suffixes_words v_known_1 v_bits_1 v_o1_size v_o1_entries)) (ws_Ta_firstGap cI cJ cZ q_this q_prefixes q_suffixes q_known q_bits q_prefixes_words q_suffixes_words q_o1 q_o1_entries v_letters v_prefixes_size v_prefixes_longest v_prefixes_words v_suffixes_size v_suffixes_longest v_suffixes_words v_known_1 v_bits_1 v_o1_size v_o1_entries) := ⟨[2, 0, 1, 3, 4, 5, 6, 7, 8], rfl, rfl⟩
        refine r_VJ (r := r_2) (As := [.int r, .long r_1, .ref q_o1]) (rest := []) (wc' := (ws_Ta_rowGap cI cJ cZ q_this q_prefixes q_suffixes q_known q_bits q_suffixes_words q_o1 q_o1_entries v_letters v_suffixes_size v_suffixes_longest v_suffixes_words v_known_1 v_bits_1 v_o1_size v_o1_entries)) (ws' := (ws_Ta_firstGap cI cJ cZ q_this q_prefixes q_suffixes q_known q_bits q_prefixes_words q_suffixes_words q_o1 q_o1_entries v_letters v_prefixes_size v_prefixes_longest v_prefixes_words v_suffixes_size v_suffixes_longest v_suffixes_words v_known_1 v_bits_1 v_o1_size v_o1_entries)) C0 w (c_Ta_rowGap hcall) hp hp' lm_RX4_56 mv_Ta_rowGap ⟨rfl, rfl⟩ ⟨by decide, by decide⟩ ⟨Nat.zero_le _, Nat.zero_le _⟩ (q0 := 0) rfl rfl rfl rfl hl rfl (Nat.le_of_ble_eq_true rfl) dX4_firstGap_142 (fun H locs w => ?_)
        refine lv_lstore_n (lv' := [(2, .long r_2), (6, .int r), (0, .ref q_this), (1, .ref q_o1), (4, .int x4), (5, .int x5)]) hx hb dX4_firstGap_145 rfl hl (by decide) rfl (fun ls hl => ?_)
        exact w_Ta_firstGap_J146 C0 hQ hK hrec h w (lv_sub hl [2, 3, 0, 4, 5] rfl)
set_option maxRecDepth 100000 in
theorem wl_Ta_firstGap_L80 {p : Program} {l : Launch} {e : Env} {s : State} {m : MethodId} {args : Array Value} {below : List Frame} {meth : Method} {c : Code} {Q : State → Prop} {A : Nat → Prop} {D : va_G} {cI cJ cZ cO : ClassId} {q_this q_prefixes q_suffixes q_known q_bits q_prefixes_words q_suffixes_words q_o1 q_o1_entries : Nat} {v_letters : Int32} {v_prefixes_size : Int32} {v_prefixes_longest : Int32} {v_prefixes_words : (Nat → Int64)} {v_suffixes_size : Int32} {v_suffixes_longest : Int32} {v_suffixes_words : (Nat → Int64)} {v_o1_size : Int32} {v_o1_entries : (Nat → Int64)} {x4 : Int32} {x : Int64 × (Nat → Int32) × (Nat → Int32)} (C0 : Cx p s m args c A D cI cJ cZ cO cX4_firstGap 7 RX4) (hQ : RtJ p l e rm_Ta_firstGap s m args below meth c Q A D cX4_firstGap (ws_Ta_firstGap cI cJ cZ q_this q_prefixes q_suffixes q_known q_bits q_prefixes_words q_suffixes_words q_o1 q_o1_entries v_letters v_prefixes_size v_prefixes_longest v_prefixes_words v_suffixes_size v_suffixes_longest v_suffixes_words x.2.1 x.2.2 v_o1_size v_o1_entries) x.1) {K : Int64 → Int32 → (Nat → Int32) → (Nat → Int32) → Option (Int64 × (Nat → Int32) × (Nat → Int32))} (hK : ∀ (x2 : Int64) (x5 : Int32) (v_known : (Nat → Int32)) (v_bits : (Nat → Int32)) (H : Heap) (locs : List Loc) (ls : Array Slot), K x2 x5 v_known v_bits = some x → Wd s A D (ws_Ta_firstGap cI cJ cZ q_this q_prefixes q_suffixes q_known q_bits q_prefixes_words q_suffixes_words q_o1 q_o1_entries v_letters v_prefixes_size v_prefixes_longest v_prefixes_words v_suffixes_size v_suffixes_longest v_suffixes_words v_known v_bits v_o1_size v_o1_entries) H locs → lv_has ls 7 [(0, .ref q_this), (1, .ref q_o1), (2, .long x2), (4, .int x4)] → W p l e rm_Ta_firstGap s m args below meth c H locs 0 0 Q (F0 m 152 ls [])) : ∀ (n : Nat) (x2 : Int64) (x5 : Int32) (v_known : (Nat → Int32)) (v_bits : (Nat → Int32)) (H : Heap) (locs : List Loc) (ls : Array Slot), itr (fun _ _ _ _ => none) (f_Ta_firstGap_L80 v_letters v_prefixes_words v_suffixes_size v_suffixes_words v_o1_size v_o1_entries x4 K) n x2 x5 v_known v_bits = some x → Wd s A D (ws_Ta_firstGap cI cJ cZ q_this q_prefixes q_suffixes q_known q_bits q_prefixes_words q_suffixes_words q_o1 q_o1_entries v_letters v_prefixes_size v_prefixes_longest v_prefixes_words v_suffixes_size v_suffixes_longest v_suffixes_words v_known v_bits v_o1_size v_o1_entries) H locs → lv_has ls 7 [(0, .ref q_this), (1, .ref q_o1), (2, .long x2), (4, .int x4), (5, .int x5)] → W p l e rm_Ta_firstGap s m args below meth c H locs 0 0 Q (F0 m 80 ls []) := by
  intro n
  induction n with
  | zero => intro _ _ _ _ _ _ _ h; cases (show none = some _ from h)
  | succ n ih => intro _ _ _ _ _ _ _ h w hl; exact w_Ta_firstGap_L80 C0 hQ hK ih _ _ _ _ h w hl
set_option maxRecDepth 100000 in
theorem w_Ta_firstGap_L57 {p : Program} {l : Launch} {e : Env} {s : State} {m : MethodId} {args : Array Value} {below : List Frame} {meth : Method} {c : Code} {Q : State → Prop} {A : Nat → Prop} {D : va_G} {cI cJ cZ cO : ClassId} {q_this q_prefixes q_suffixes q_known q_bits q_prefixes_words q_suffixes_words q_o1 q_o1_entries : Nat} {v_letters : Int32} {v_prefixes_size : Int32} {v_prefixes_longest : Int32} {v_prefixes_words : (Nat → Int64)} {v_suffixes_size : Int32} {v_suffixes_longest : Int32} {v_suffixes_words : (Nat → Int64)} {v_o1_size : Int32} {v_o1_entries : (Nat → Int64)} {x : Int64 × (Nat → Int32) × (Nat → Int32)} (C0 : Cx p s m args c A D cI cJ cZ cO cX4_firstGap 7 RX4) (hQ : RtJ p l e rm_Ta_firstGap s m args below meth c Q A D cX4_firstGap (ws_Ta_firstGap cI cJ cZ q_this q_prefixes q_suffixes q_known q_bits q_prefixes_words q_suffixes_words q_o1 q_o1_entries v_letters v_prefixes_size v_prefixes_longest v_prefixes_words v_suffixes_size v_suffixes_longest v_suffixes_words x.2.1 x.2.2 v_o1_size v_o1_entries) x.1) {K : Int64 → Int32 → (Nat → Int32) → (Nat → Int32) → Option (Int64 × (Nat → Int32) × (Nat → Int32))} (hK : ∀ (x2 : Int64) (x4 : Int32) (v_known : (Nat → Int32)) (v_bits : (Nat → Int32)) (H : Heap) (locs : List Loc) (ls : Array Slot), K x2 x4 v_known v_bits = some x → Wd s A D (ws_Ta_firstGap cI cJ cZ q_this q_prefixes q_suffixes q_known q_bits q_prefixes_words q_suffixes_words q_o1 q_o1_entries v_letters v_prefixes_size v_prefixes_longest v_prefixes_words v_suffixes_size v_suffixes_longest v_suffixes_words v_known v_bits v_o1_size v_o1_entries) H locs → lv_has ls 7 [(2, .long x2)] → W p l e rm_Ta_firstGap s m args below meth c H locs 0 0 Q (F0 m 158 ls [])) {rec : Int64 → Int32 → (Nat → Int32) → (Nat → Int32) → Option (Int64 × (Nat → Int32) × (Nat → Int32))} (hrec : ∀ (x2 : Int64) (x4 : Int32) (v_known : (Nat → Int32)) (v_bits : (Nat → Int32)) (H : Heap) (locs : List Loc) (ls : Array Slot), rec x2 x4 v_known v_bits = some x → Wd s A D (ws_Ta_firstGap cI cJ cZ q_this q_prefixes q_suffixes q_known q_bits q_prefixes_words q_suffixes_words q_o1 q_o1_entries v_letters v_prefixes_size v_prefixes_longest v_prefixes_words v_suffixes_size v_suffixes_longest v_suffixes_words v_known v_bits v_o1_size v_o1_entries) H locs → lv_has ls 7 [(0, .ref q_this), (1, .ref q_o1), (2, .long x2), (4, .int x4)] → W p l e rm_Ta_firstGap s m args below meth c H locs 0 0 Q (F0 m 57 ls [])) (x2 : Int64) (x4 : Int32) (v_known : (Nat → Int32)) (v_bits : (Nat → Int32)) {H : Heap} {locs : List Loc} {ls : Array Slot} (h : f_Ta_firstGap_L57 v_letters v_prefixes_size v_prefixes_words v_suffixes_size v_suffixes_words v_o1_size v_o1_entries K rec x2 x4 v_known v_bits = some x) (w : Wd s A D (ws_Ta_firstGap cI cJ cZ q_this q_prefixes q_suffixes q_known q_bits q_prefixes_words q_suffixes_words q_o1 q_o1_entries v_letters v_prefixes_size v_prefixes_longest v_prefixes_words v_suffixes_size v_suffixes_longest v_suffixes_words v_known v_bits v_o1_size v_o1_entries) H locs) (hl : lv_has ls 7 [(0, .ref q_this), (1, .ref q_o1), (2, .long x2), (4, .int x4)]) : W p l e rm_Ta_firstGap s m args below meth c H locs 0 0 Q (F0 m 57 ls []) := by
  obtain ⟨hx, hb, hml, hown, hts, -, -⟩ := id C0
  unfold f_Ta_firstGap_L57 at h
  refine lv_iload hx hb dX4_firstGap_57 (lv_at hl 3 rfl) ?_
  refine lv_aload_n hx hb dX4_firstGap_59 rfl (lv_at hl 0 rfl) ?_
  refine r_get C0 w 0 rfl kf_Ta 0 (by decide) lf_RX4_14 rfl dX4_firstGap_60 ?_
  refine r_get C0 w 1 rfl kf_WL 1 (by decide) lf_RX4_45 rfl dX4_firstGap_63 ?_
  refine lv_icmp_ge (tgt := 158) hx hb dX4_firstGap_66 (by decide) (fun hc => ?_) (fun hc => ?_)
  · have h := if_h hc h
    exact hK _ _ _ _ _ _ _ h w (lv_sub hl [2] rfl)
  · have h := nf_h hc h
    refine lv_lload_n hx hb dX4_firstGap_69 rfl (lv_at hl 2 rfl) ?_
    refine lv_ldc2 (v := (-1 : Int64)) hx hb hown (hts _ ll_RX4_43) dX4_firstGap_70 ?_
    refine r_lc_ne (tgt := 158) hx hb dX4_firstGap_73 dX4_firstGap_74 (by decide) (fun hc => ?_) (fun hc => ?_)
    · have h := nf_h hc h
      exact hK _ _ _ _ _ _ _ h w (lv_sub hl [2] rfl)
    · have h := if_h hc h
      refine lv_iconst (v := (0 : Int32)) hx hb dX4_firstGap_77 (by decide) ?_
      refine lv_istore (lv' := [(5, .int (0 : Int32)), (0, .ref q_this), (1, .ref q_o1), (2, .long x2), (4, .int x4)]) hx hb dX4_firstGap_78 hl (by decide) rfl (fun ls hl => ?_)
      refine wl_Ta_firstGap_L80 C0 hQ (fun x2_1 x5 v_known_1 v_bits_1 H locs ls h w hl => ?_) _ _ _ _ _ _ _ _ h w (lv_sub hl [1, 2, 3, 4, 0] rfl)
      obtain ⟨x4_1, ex4_1⟩ : ∃ y : Int32, y = (x4 + 1) := ⟨_, rfl⟩
      have h := bnd_at ex4_1 h
      refine lv_iinc (v := x4_1) (lv' := [(4, .int x4_1), (0, .ref q_this), (1, .ref q_o1), (2, .long x2_1)]) hx hb dX4_firstGap_152 hl (k := 3) rfl (by rw [ex4_1]; rfl) (by decide) rfl (fun ls hl => ?_)
      refine lv_goto (tgt := 57) hx hb dX4_firstGap_155 (by decide) ?_
      exact hrec _ _ _ _ _ _ _ h w (lv_sub hl [1, 2, 3, 0] rfl)
set_option maxRecDepth 100000 in
theorem wl_Ta_firstGap_L57 {p : Program} {l : Launch} {e : Env} {s : State} {m : MethodId} {args : Array Value} {below : List Frame} {meth : Method} {c : Code} {Q : State → Prop} {A : Nat → Prop} {D : va_G} {cI cJ cZ cO : ClassId} {q_this q_prefixes q_suffixes q_known q_bits q_prefixes_words q_suffixes_words q_o1 q_o1_entries : Nat} {v_letters : Int32} {v_prefixes_size : Int32} {v_prefixes_longest : Int32} {v_prefixes_words : (Nat → Int64)} {v_suffixes_size : Int32} {v_suffixes_longest : Int32} {v_suffixes_words : (Nat → Int64)} {v_o1_size : Int32} {v_o1_entries : (Nat → Int64)} {x : Int64 × (Nat → Int32) × (Nat → Int32)} (C0 : Cx p s m args c A D cI cJ cZ cO cX4_firstGap 7 RX4) (hQ : RtJ p l e rm_Ta_firstGap s m args below meth c Q A D cX4_firstGap (ws_Ta_firstGap cI cJ cZ q_this q_prefixes q_suffixes q_known q_bits q_prefixes_words q_suffixes_words q_o1 q_o1_entries v_letters v_prefixes_size v_prefixes_longest v_prefixes_words v_suffixes_size v_suffixes_longest v_suffixes_words x.2.1 x.2.2 v_o1_size v_o1_entries) x.1) {K : Int64 → Int32 → (Nat → Int32) → (Nat → Int32) → Option (Int64 × (Nat → Int32) × (Nat → Int32))} (hK : ∀ (x2 : Int64) (x4 : Int32) (v_known : (Nat → Int32)) (v_bits : (Nat → Int32)) (H : Heap) (locs : List Loc) (ls : Array Slot), K x2 x4 v_known v_bits = some x → Wd s A D (ws_Ta_firstGap cI cJ cZ q_this q_prefixes q_suffixes q_known q_bits q_prefixes_words q_suffixes_words q_o1 q_o1_entries v_letters v_prefixes_size v_prefixes_longest v_prefixes_words v_suffixes_size v_suffixes_longest v_suffixes_words v_known v_bits v_o1_size v_o1_entries) H locs → lv_has ls 7 [(2, .long x2)] → W p l e rm_Ta_firstGap s m args below meth c H locs 0 0 Q (F0 m 158 ls [])) : ∀ (n : Nat) (x2 : Int64) (x4 : Int32) (v_known : (Nat → Int32)) (v_bits : (Nat → Int32)) (H : Heap) (locs : List Loc) (ls : Array Slot), itr (fun _ _ _ _ => none) (f_Ta_firstGap_L57 v_letters v_prefixes_size v_prefixes_words v_suffixes_size v_suffixes_words v_o1_size v_o1_entries K) n x2 x4 v_known v_bits = some x → Wd s A D (ws_Ta_firstGap cI cJ cZ q_this q_prefixes q_suffixes q_known q_bits q_prefixes_words q_suffixes_words q_o1 q_o1_entries v_letters v_prefixes_size v_prefixes_longest v_prefixes_words v_suffixes_size v_suffixes_longest v_suffixes_words v_known v_bits v_o1_size v_o1_entries) H locs → lv_has ls 7 [(0, .ref q_this), (1, .ref q_o1), (2, .long x2), (4, .int x4)] → W p l e rm_Ta_firstGap s m args below meth c H locs 0 0 Q (F0 m 57 ls []) := by
  intro n
  induction n with
  | zero => intro _ _ _ _ _ _ _ h; cases (show none = some _ from h)
  | succ n ih => intro _ _ _ _ _ _ _ h w hl; exact w_Ta_firstGap_L57 C0 hQ hK ih _ _ _ _ h w hl
set_option maxRecDepth 100000 in
theorem c_Ta_firstGap {l : Launch} {D : va_G} {cI cJ cZ cO : ClassId} {q_this q_prefixes q_suffixes q_known q_bits q_prefixes_words q_suffixes_words q_o1 q_o1_entries : Nat} {v_letters : Int32} {v_prefixes_size : Int32} {v_prefixes_longest : Int32} {v_prefixes_words : (Nat → Int64)} {v_suffixes_size : Int32} {v_suffixes_longest : Int32} {v_suffixes_words : (Nat → Int64)} {v_known : (Nat → Int32)} {v_bits : (Nat → Int32)} {v_o1_size : Int32} {v_o1_entries : (Nat → Int64)} {x : Int64 × (Nat → Int32) × (Nat → Int32)} (h : f_Ta_firstGap v_letters v_prefixes_size v_prefixes_words v_suffixes_size v_suffixes_words v_known v_bits v_o1_size v_o1_entries = some x) : ctJ l D cI cJ cZ cO yX4_firstGap cX4_firstGap 7 rm_Ta_firstGap [.ref q_this, .ref q_o1] (ws_Ta_firstGap cI cJ cZ q_this q_prefixes q_suffixes q_known q_bits q_prefixes_words q_suffixes_words q_o1 q_o1_entries v_letters v_prefixes_size v_prefixes_longest v_prefixes_words v_suffixes_size v_suffixes_longest v_suffixes_words v_known v_bits v_o1_size v_o1_entries) (ws_Ta_firstGap cI cJ cZ q_this q_prefixes q_suffixes q_known q_bits q_prefixes_words q_suffixes_words q_o1 q_o1_entries v_letters v_prefixes_size v_prefixes_longest v_prefixes_words v_suffixes_size v_suffixes_longest v_suffixes_words x.2.1 x.2.2 v_o1_size v_o1_entries) x.1 := by
  refine ctJ_of (by decide) (Nat.le_of_ble_eq_true rfl) ?_
  intro p e s m below meth c Q A ls C0 hQ w hl
  have hl : lv_has ls 7 [(0, .ref q_this), (1, .ref q_o1)] := hl
  generalize List.toArray (α := Value) [.ref q_this, .ref q_o1] = args at C0 hQ ⊢
  obtain ⟨hx, hb, hml, hown, hts, -, -⟩ := id C0
  unfold f_Ta_firstGap at h
  refine lv_ldc2 (v := (-1 : Int64)) hx hb hown (hts _ ll_RX4_43) dX4_firstGap_0 ?_
  refine lv_lstore_n (lv' := [(2, .long (-1 : Int64)), (0, .ref q_this), (1, .ref q_o1)]) hx hb dX4_firstGap_3 rfl hl (by decide) rfl (fun ls hl => ?_)
  refine lv_iconst (v := (0 : Int32)) hx hb dX4_firstGap_4 (by decide) ?_
  refine lv_istore (lv' := [(4, .int (0 : Int32)), (2, .long (-1 : Int64)), (0, .ref q_this), (1, .ref q_o1)]) hx hb dX4_firstGap_5 hl (by decide) rfl (fun ls hl => ?_)
  refine wl_Ta_firstGap_L7 C0 hQ (fun x2 x4 v_known_1 v_bits_1 H locs ls h w hl => ?_) _ _ _ _ _ _ _ _ h w (lv_sub hl [2, 3, 1, 0] rfl)
  refine lv_iconst (v := (0 : Int32)) hx hb dX4_firstGap_54 (by decide) ?_
  refine lv_istore (lv' := [(4, .int (0 : Int32)), (0, .ref q_this), (1, .ref q_o1), (2, .long x2)]) hx hb dX4_firstGap_55 hl (by decide) rfl (fun ls hl => ?_)
  refine wl_Ta_firstGap_L57 C0 hQ (fun x2_1 x4_1 v_known_2 v_bits_2 H locs ls h w hl => ?_) _ _ _ _ _ _ _ _ h w (lv_sub hl [1, 2, 3, 0] rfl)
  refine lv_lload_n hx hb dX4_firstGap_158 rfl (lv_at hl 0 rfl) ?_
  cases h
  exact hQ _ _ _ _ dX4_firstGap_159 w
theorem dX4_isPrefixRow_0 : decode cX4_isPrefixRow 0 = .ok (.iconst 0, 1) := by decide +kernel
theorem dX4_isPrefixRow_1 : decode cX4_isPrefixRow 1 = .ok (.istore_n 2, 1) := by decide +kernel
theorem dX4_isPrefixRow_2 : decode cX4_isPrefixRow 2 = .ok (.iload_n 2, 1) := by decide +kernel
theorem dX4_isPrefixRow_3 : decode cX4_isPrefixRow 3 = .ok (.aload_n 0, 1) := by decide +kernel
theorem dX4_isPrefixRow_4 : decode cX4_isPrefixRow 4 = .ok (.getfield 14, 3) := by decide +kernel
theorem dX4_isPrefixRow_7 : decode cX4_isPrefixRow 7 = .ok (.getfield 45, 3) := by decide +kernel
theorem dX4_isPrefixRow_10 : decode cX4_isPrefixRow 10 = .ok (.if_icmp .ge 24, 3) := by decide +kernel
theorem dX4_isPrefixRow_13 : decode cX4_isPrefixRow 13 = .ok (.aload_n 0, 1) := by decide +kernel
theorem dX4_isPrefixRow_14 : decode cX4_isPrefixRow 14 = .ok (.getfield 27, 3) := by decide +kernel
theorem dX4_isPrefixRow_17 : decode cX4_isPrefixRow 17 = .ok (.iload_n 2, 1) := by decide +kernel
theorem dX4_isPrefixRow_18 : decode cX4_isPrefixRow 18 = .ok (.invokestatic 48, 3) := by decide +kernel
theorem dX4_isPrefixRow_21 : decode cX4_isPrefixRow 21 = .ok (.iaload, 1) := by decide +kernel
theorem dX4_isPrefixRow_22 : decode cX4_isPrefixRow 22 = .ok (.iload_n 1, 1) := by decide +kernel
theorem dX4_isPrefixRow_23 : decode cX4_isPrefixRow 23 = .ok (.if_icmp .ne 5, 3) := by decide +kernel
theorem dX4_isPrefixRow_26 : decode cX4_isPrefixRow 26 = .ok (.iconst 1, 1) := by decide +kernel
theorem dX4_isPrefixRow_27 : decode cX4_isPrefixRow 27 = .ok (.ireturn, 1) := by decide +kernel
theorem dX4_isPrefixRow_28 : decode cX4_isPrefixRow 28 = .ok (.iinc 2 1, 3) := by decide +kernel
theorem dX4_isPrefixRow_31 : decode cX4_isPrefixRow 31 = .ok (.goto (-29), 3) := by decide +kernel
theorem dX4_isPrefixRow_34 : decode cX4_isPrefixRow 34 = .ok (.iconst 0, 1) := by decide +kernel
theorem dX4_isPrefixRow_35 : decode cX4_isPrefixRow 35 = .ok (.ireturn, 1) := by decide +kernel
set_option maxRecDepth 100000 in
theorem w_Ta_isPrefixRow_L2 {p : Program} {l : Launch} {e : Env} {s : State} {m : MethodId} {args : Array Value} {below : List Frame} {meth : Method} {c : Code} {Q : State → Prop} {A : Nat → Prop} {D : va_G} {cI cJ cZ cO : ClassId} {q_this q_prefixes q_suffixes q_known q_bits q_prefixes_words : Nat} {v_letters : Int32} {v_prefixes_size : Int32} {v_prefixes_longest : Int32} {v_bits : (Nat → Int32)} {x1 : Int32} {x : Int32} (C0 : Cx p s m args c A D cI cJ cZ cO cX4_isPrefixRow 3 RX4) (hQ : RtI p l e rm_Ta_isPrefixRow s m args below meth c Q A D cX4_isPrefixRow .boolean (ws_Ta_isPrefixRow cI cJ cZ q_this q_prefixes q_suffixes q_known q_bits q_prefixes_words v_letters v_prefixes_size v_prefixes_longest v_bits) x) {K : Int32 → Option (Int32)} (hK : ∀ (x2 : Int32) (H : Heap) (locs : List Loc) (ls : Array Slot), K x2 = some x → Wd s A D (ws_Ta_isPrefixRow cI cJ cZ q_this q_prefixes q_suffixes q_known q_bits q_prefixes_words v_letters v_prefixes_size v_prefixes_longest v_bits) H locs → lv_has ls 3 [] → W p l e rm_Ta_isPrefixRow s m args below meth c H locs 0 0 Q (F0 m 34 ls [])) {rec : Int32 → Option (Int32)} (hrec : ∀ (x2 : Int32) (H : Heap) (locs : List Loc) (ls : Array Slot), rec x2 = some x → Wd s A D (ws_Ta_isPrefixRow cI cJ cZ q_this q_prefixes q_suffixes q_known q_bits q_prefixes_words v_letters v_prefixes_size v_prefixes_longest v_bits) H locs → lv_has ls 3 [(0, .ref q_this), (1, .int x1), (2, .int x2)] → W p l e rm_Ta_isPrefixRow s m args below meth c H locs 0 0 Q (F0 m 2 ls [])) (x2 : Int32) {H : Heap} {locs : List Loc} {ls : Array Slot} (h : f_Ta_isPrefixRow_L2 v_prefixes_size v_bits x1 K rec x2 = some x) (w : Wd s A D (ws_Ta_isPrefixRow cI cJ cZ q_this q_prefixes q_suffixes q_known q_bits q_prefixes_words v_letters v_prefixes_size v_prefixes_longest v_bits) H locs) (hl : lv_has ls 3 [(0, .ref q_this), (1, .int x1), (2, .int x2)]) : W p l e rm_Ta_isPrefixRow s m args below meth c H locs 0 0 Q (F0 m 2 ls []) := by
  obtain ⟨hx, hb, hml, hown, hts, -, -⟩ := id C0
  unfold f_Ta_isPrefixRow_L2 at h
  refine lv_iload_n hx hb dX4_isPrefixRow_2 rfl (lv_at hl 2 rfl) ?_
  refine lv_aload_n hx hb dX4_isPrefixRow_3 rfl (lv_at hl 0 rfl) ?_
  refine r_get C0 w 0 rfl kf_Ta 0 (by decide) lf_RX4_14 rfl dX4_isPrefixRow_4 ?_
  refine r_get C0 w 1 rfl kf_WL 1 (by decide) lf_RX4_45 rfl dX4_isPrefixRow_7 ?_
  refine lv_icmp_ge (tgt := 34) hx hb dX4_isPrefixRow_10 (by decide) (fun hc => ?_) (fun hc => ?_)
  · have h := if_h hc h
    exact hK _ _ _ _ h w (lv_sub hl [] rfl)
  · have h := nf_h hc h
    refine lv_aload_n hx hb dX4_isPrefixRow_13 rfl (lv_at hl 0 rfl) ?_
    refine r_get C0 w 0 rfl kf_Ta 3 (by decide) lf_RX4_27 rfl dX4_isPrefixRow_14 ?_
    refine lv_iload_n hx hb dX4_isPrefixRow_17 rfl (lv_at hl 2 rfl) ?_
    obtain ⟨r, hcall, h⟩ := bd1_h h
    obtain ⟨wr, hp, hp'⟩ := rd_of (ws := (ws_Ta_isPrefixRow cI cJ cZ q_this q_prefixes q_suffixes q_known q_bits q_prefixes_words v_letters v_prefixes_size v_prefixes_longest v_bits)) (wc := (ws_Ta_prefixRow cI cJ cZ)) [] rfl rfl
    refine r_SI (r := r) (As := [.int x2]) (rest := [.ref q_bits]) (wc' := (ws_Ta_prefixRow cI cJ cZ)) (ws' := (ws_Ta_isPrefixRow cI cJ cZ q_this q_prefixes q_suffixes q_known q_bits q_prefixes_words v_letters v_prefixes_size v_prefixes_longest v_bits)) C0 w (c_Ta_prefixRow hcall) hp hp' lm_RX4_48 ms_Ta_prefixRow ⟨rfl, rfl⟩ ⟨by decide, by decide⟩ ⟨Nat.zero_le _, Nat.zero_le _⟩ rfl hl rfl (Nat.le_of_ble_eq_true rfl) dX4_isPrefixRow_18 (fun H locs w => ?_)
    obtain ⟨hi, h⟩ := gIn_h h
    refine r_iald C0 w 2 rfl rfl hi dX4_isPrefixRow_21 ?_
    refine lv_iload_n hx hb dX4_isPrefixRow_22 rfl (lv_at hl 1 rfl) ?_
    refine lv_icmp_ne (tgt := 28) hx hb dX4_isPrefixRow_23 (by decide) (fun hc => ?_) (fun hc => ?_)
    · have h := nf_h hc h
      obtain ⟨x2_1, ex2_1⟩ : ∃ y : Int32, y = (x2 + 1) := ⟨_, rfl⟩
      have h := bnd_at ex2_1 h
      refine lv_iinc (v := x2_1) (lv' := [(2, .int x2_1), (0, .ref q_this), (1, .int x1)]) hx hb dX4_isPrefixRow_28 hl (k := 2) rfl (by rw [ex2_1]; rfl) (by decide) rfl (fun ls hl => ?_)
      refine lv_goto (tgt := 2) hx hb dX4_isPrefixRow_31 (by decide) ?_
      exact hrec _ _ _ _ h w (lv_sub hl [1, 2, 0] rfl)
    · have h := if_h hc h
      refine lv_iconst (v := (1 : Int32)) hx hb dX4_isPrefixRow_26 (by decide) ?_
      cases h
      exact hQ _ _ _ _ dX4_isPrefixRow_27 (gB_n (v := (1 : Int32)) (Or.inr rfl)) w
set_option maxRecDepth 100000 in
theorem wl_Ta_isPrefixRow_L2 {p : Program} {l : Launch} {e : Env} {s : State} {m : MethodId} {args : Array Value} {below : List Frame} {meth : Method} {c : Code} {Q : State → Prop} {A : Nat → Prop} {D : va_G} {cI cJ cZ cO : ClassId} {q_this q_prefixes q_suffixes q_known q_bits q_prefixes_words : Nat} {v_letters : Int32} {v_prefixes_size : Int32} {v_prefixes_longest : Int32} {v_bits : (Nat → Int32)} {x1 : Int32} {x : Int32} (C0 : Cx p s m args c A D cI cJ cZ cO cX4_isPrefixRow 3 RX4) (hQ : RtI p l e rm_Ta_isPrefixRow s m args below meth c Q A D cX4_isPrefixRow .boolean (ws_Ta_isPrefixRow cI cJ cZ q_this q_prefixes q_suffixes q_known q_bits q_prefixes_words v_letters v_prefixes_size v_prefixes_longest v_bits) x) {K : Int32 → Option (Int32)} (hK : ∀ (x2 : Int32) (H : Heap) (locs : List Loc) (ls : Array Slot), K x2 = some x → Wd s A D (ws_Ta_isPrefixRow cI cJ cZ q_this q_prefixes q_suffixes q_known q_bits q_prefixes_words v_letters v_prefixes_size v_prefixes_longest v_bits) H locs → lv_has ls 3 [] → W p l e rm_Ta_isPrefixRow s m args below meth c H locs 0 0 Q (F0 m 34 ls [])) : ∀ (n : Nat) (x2 : Int32) (H : Heap) (locs : List Loc) (ls : Array Slot), itr (fun _ => none) (f_Ta_isPrefixRow_L2 v_prefixes_size v_bits x1 K) n x2 = some x → Wd s A D (ws_Ta_isPrefixRow cI cJ cZ q_this q_prefixes q_suffixes q_known q_bits q_prefixes_words v_letters v_prefixes_size v_prefixes_longest v_bits) H locs → lv_has ls 3 [(0, .ref q_this), (1, .int x1), (2, .int x2)] → W p l e rm_Ta_isPrefixRow s m args below meth c H locs 0 0 Q (F0 m 2 ls []) := by
  intro n
  induction n with
  | zero => intro _ _ _ _ h; cases (show none = some _ from h)
  | succ n ih => intro _ _ _ _ h w hl; exact w_Ta_isPrefixRow_L2 C0 hQ hK ih _ h w hl
set_option maxRecDepth 100000 in
theorem c_Ta_isPrefixRow {l : Launch} {D : va_G} {cI cJ cZ cO : ClassId} {q_this q_prefixes q_suffixes q_known q_bits q_prefixes_words : Nat} {x1 : Int32} {v_letters : Int32} {v_prefixes_size : Int32} {v_prefixes_longest : Int32} {v_bits : (Nat → Int32)} {x : Int32} (h : f_Ta_isPrefixRow x1 v_prefixes_size v_bits = some x) : ctI l D cI cJ cZ cO yX4_isPrefixRow cX4_isPrefixRow 3 .boolean rm_Ta_isPrefixRow [.ref q_this, .int x1] (ws_Ta_isPrefixRow cI cJ cZ q_this q_prefixes q_suffixes q_known q_bits q_prefixes_words v_letters v_prefixes_size v_prefixes_longest v_bits) (ws_Ta_isPrefixRow cI cJ cZ q_this q_prefixes q_suffixes q_known q_bits q_prefixes_words v_letters v_prefixes_size v_prefixes_longest v_bits) x := by
  refine ctI_of (by decide) (Nat.le_of_ble_eq_true rfl) ?_
  intro p e s m below meth c Q A ls C0 hQ w hl
  have hl : lv_has ls 3 [(0, .ref q_this), (1, .int x1)] := hl
  generalize List.toArray (α := Value) [.ref q_this, .int x1] = args at C0 hQ ⊢
  obtain ⟨hx, hb, hml, hown, hts, -, -⟩ := id C0
  unfold f_Ta_isPrefixRow at h
  refine lv_iconst (v := (0 : Int32)) hx hb dX4_isPrefixRow_0 (by decide) ?_
  refine lv_istore_n (lv' := [(2, .int (0 : Int32)), (0, .ref q_this), (1, .int x1)]) hx hb dX4_isPrefixRow_1 rfl hl (by decide) rfl (fun ls hl => ?_)
  refine wl_Ta_isPrefixRow_L2 C0 hQ (fun x2 H locs ls h w hl => ?_) _ _ _ _ _ h w (lv_sub hl [1, 2, 0] rfl)
  refine lv_iconst (v := (0 : Int32)) hx hb dX4_isPrefixRow_34 (by decide) ?_
  cases h
  exact hQ _ _ _ _ dX4_isPrefixRow_35 (gB_n (v := (0 : Int32)) (Or.inl rfl)) w
theorem dX4_firstOpen_0 : decode cX4_firstOpen 0 = .ok (.iconst 0, 1) := by decide +kernel
theorem dX4_firstOpen_1 : decode cX4_firstOpen 1 = .ok (.istore_n 1, 1) := by decide +kernel
theorem dX4_firstOpen_2 : decode cX4_firstOpen 2 = .ok (.iload_n 1, 1) := by decide +kernel
theorem dX4_firstOpen_3 : decode cX4_firstOpen 3 = .ok (.aload_n 0, 1) := by decide +kernel
theorem dX4_firstOpen_4 : decode cX4_firstOpen 4 = .ok (.getfield 14, 3) := by decide +kernel
theorem dX4_firstOpen_7 : decode cX4_firstOpen 7 = .ok (.getfield 45, 3) := by decide +kernel
theorem dX4_firstOpen_10 : decode cX4_firstOpen 10 = .ok (.if_icmp .ge 56, 3) := by decide +kernel
theorem dX4_firstOpen_13 : decode cX4_firstOpen 13 = .ok (.iconst 0, 1) := by decide +kernel
theorem dX4_firstOpen_14 : decode cX4_firstOpen 14 = .ok (.istore_n 2, 1) := by decide +kernel
theorem dX4_firstOpen_15 : decode cX4_firstOpen 15 = .ok (.iload_n 2, 1) := by decide +kernel
theorem dX4_firstOpen_16 : decode cX4_firstOpen 16 = .ok (.aload_n 0, 1) := by decide +kernel
theorem dX4_firstOpen_17 : decode cX4_firstOpen 17 = .ok (.getfield 30, 3) := by decide +kernel
theorem dX4_firstOpen_20 : decode cX4_firstOpen 20 = .ok (.if_icmp .ge 40, 3) := by decide +kernel
theorem dX4_firstOpen_23 : decode cX4_firstOpen 23 = .ok (.aload_n 0, 1) := by decide +kernel
theorem dX4_firstOpen_24 : decode cX4_firstOpen 24 = .ok (.aload_n 0, 1) := by decide +kernel
theorem dX4_firstOpen_25 : decode cX4_firstOpen 25 = .ok (.getfield 27, 3) := by decide +kernel
theorem dX4_firstOpen_28 : decode cX4_firstOpen 28 = .ok (.iload_n 1, 1) := by decide +kernel
theorem dX4_firstOpen_29 : decode cX4_firstOpen 29 = .ok (.iload_n 2, 1) := by decide +kernel
theorem dX4_firstOpen_30 : decode cX4_firstOpen 30 = .ok (.invokestatic 60, 3) := by decide +kernel
theorem dX4_firstOpen_33 : decode cX4_firstOpen 33 = .ok (.iaload, 1) := by decide +kernel
theorem dX4_firstOpen_34 : decode cX4_firstOpen 34 = .ok (.invokevirtual 80, 3) := by decide +kernel
theorem dX4_firstOpen_37 : decode cX4_firstOpen 37 = .ok (.ifCond .ne 17, 3) := by decide +kernel
theorem dX4_firstOpen_40 : decode cX4_firstOpen 40 = .ok (.aload_n 0, 1) := by decide +kernel
theorem dX4_firstOpen_41 : decode cX4_firstOpen 41 = .ok (.getfield 14, 3) := by decide +kernel
theorem dX4_firstOpen_44 : decode cX4_firstOpen 44 = .ok (.getfield 52, 3) := by decide +kernel
theorem dX4_firstOpen_47 : decode cX4_firstOpen 47 = .ok (.iload_n 1, 1) := by decide +kernel
theorem dX4_firstOpen_48 : decode cX4_firstOpen 48 = .ok (.laload, 1) := by decide +kernel
theorem dX4_firstOpen_49 : decode cX4_firstOpen 49 = .ok (.iload_n 2, 1) := by decide +kernel
theorem dX4_firstOpen_50 : decode cX4_firstOpen 50 = .ok (.invokestatic 64, 3) := by decide +kernel
theorem dX4_firstOpen_53 : decode cX4_firstOpen 53 = .ok (.lreturn, 1) := by decide +kernel
theorem dX4_firstOpen_54 : decode cX4_firstOpen 54 = .ok (.iinc 2 1, 3) := by decide +kernel
theorem dX4_firstOpen_57 : decode cX4_firstOpen 57 = .ok (.goto (-42), 3) := by decide +kernel
theorem dX4_firstOpen_60 : decode cX4_firstOpen 60 = .ok (.iinc 1 1, 3) := by decide +kernel
theorem dX4_firstOpen_63 : decode cX4_firstOpen 63 = .ok (.goto (-61), 3) := by decide +kernel
theorem dX4_firstOpen_66 : decode cX4_firstOpen 66 = .ok (.ldc2_w 43, 3) := by decide +kernel
theorem dX4_firstOpen_69 : decode cX4_firstOpen 69 = .ok (.lreturn, 1) := by decide +kernel
set_option maxRecDepth 100000 in
theorem w_Ta_firstOpen_L15 {p : Program} {l : Launch} {e : Env} {s : State} {m : MethodId} {args : Array Value} {below : List Frame} {meth : Method} {c : Code} {Q : State → Prop} {A : Nat → Prop} {D : va_G} {cI cJ cZ cO : ClassId} {q_this q_prefixes q_suffixes q_known q_bits q_prefixes_words : Nat} {v_letters : Int32} {v_prefixes_size : Int32} {v_prefixes_longest : Int32} {v_prefixes_words : (Nat → Int64)} {v_bits : (Nat → Int32)} {x1 : Int32} {x : Int64} (C0 : Cx p s m args c A D cI cJ cZ cO cX4_firstOpen 3 RX4) (hQ : RtJ p l e rm_Ta_firstOpen s m args below meth c Q A D cX4_firstOpen (ws_Ta_firstOpen cI cJ cZ q_this q_prefixes q_suffixes q_known q_bits q_prefixes_words v_letters v_prefixes_size v_prefixes_longest v_prefixes_words v_bits) x) {K : Int32 → Option (Int64)} (hK : ∀ (x2 : Int32) (H : Heap) (locs : List Loc) (ls : Array Slot), K x2 = some x → Wd s A D (ws_Ta_firstOpen cI cJ cZ q_this q_prefixes q_suffixes q_known q_bits q_prefixes_words v_letters v_prefixes_size v_prefixes_longest v_prefixes_words v_bits) H locs → lv_has ls 3 [(0, .ref q_this), (1, .int x1)] → W p l e rm_Ta_firstOpen s m args below meth c H locs 0 0 Q (F0 m 60 ls [])) {rec : Int32 → Option (Int64)} (hrec : ∀ (x2 : Int32) (H : Heap) (locs : List Loc) (ls : Array Slot), rec x2 = some x → Wd s A D (ws_Ta_firstOpen cI cJ cZ q_this q_prefixes q_suffixes q_known q_bits q_prefixes_words v_letters v_prefixes_size v_prefixes_longest v_prefixes_words v_bits) H locs → lv_has ls 3 [(0, .ref q_this), (1, .int x1), (2, .int x2)] → W p l e rm_Ta_firstOpen s m args below meth c H locs 0 0 Q (F0 m 15 ls [])) (x2 : Int32) {H : Heap} {locs : List Loc} {ls : Array Slot} (h : f_Ta_firstOpen_L15 v_letters v_prefixes_size v_prefixes_words v_bits x1 K rec x2 = some x) (w : Wd s A D (ws_Ta_firstOpen cI cJ cZ q_this q_prefixes q_suffixes q_known q_bits q_prefixes_words v_letters v_prefixes_size v_prefixes_longest v_prefixes_words v_bits) H locs) (hl : lv_has ls 3 [(0, .ref q_this), (1, .int x1), (2, .int x2)]) : W p l e rm_Ta_firstOpen s m args below meth c H locs 0 0 Q (F0 m 15 ls []) := by
  obtain ⟨hx, hb, hml, hown, hts, -, -⟩ := id C0
  unfold f_Ta_firstOpen_L15 at h
  refine lv_iload_n hx hb dX4_firstOpen_15 rfl (lv_at hl 2 rfl) ?_
  refine lv_aload_n hx hb dX4_firstOpen_16 rfl (lv_at hl 0 rfl) ?_
  refine r_get C0 w 0 rfl kf_Ta 4 (by decide) lf_RX4_30 rfl dX4_firstOpen_17 ?_
  refine lv_icmp_ge (tgt := 60) hx hb dX4_firstOpen_20 (by decide) (fun hc => ?_) (fun hc => ?_)
  · have h := if_h hc h
    exact hK _ _ _ _ h w (lv_sub hl [0, 1] rfl)
  · have h := nf_h hc h
    refine lv_aload_n hx hb dX4_firstOpen_23 rfl (lv_at hl 0 rfl) ?_
    refine lv_aload_n hx hb dX4_firstOpen_24 rfl (lv_at hl 0 rfl) ?_
    refine r_get C0 w 0 rfl kf_Ta 3 (by decide) lf_RX4_27 rfl dX4_firstOpen_25 ?_
    refine lv_iload_n hx hb dX4_firstOpen_28 rfl (lv_at hl 1 rfl) ?_
    refine lv_iload_n hx hb dX4_firstOpen_29 rfl (lv_at hl 2 rfl) ?_
    obtain ⟨r, hcall, h⟩ := bd1_h h
    obtain ⟨wr, hp, hp'⟩ := rd_of (ws := (ws_Ta_firstOpen cI cJ cZ q_this q_prefixes q_suffixes q_known q_bits q_prefixes_words v_letters v_prefixes_size v_prefixes_longest v_prefixes_words v_bits)) (wc := (ws_Ta_extensionRow cI cJ cZ)) [] rfl rfl
    refine r_SI (r := r) (As := [.int x1, .int x2]) (rest := [.ref q_bits, .ref q_this]) (wc' := (ws_Ta_extensionRow cI cJ cZ)) (ws' := (ws_Ta_firstOpen cI cJ cZ q_this q_prefixes q_suffixes q_known q_bits q_prefixes_words v_letters v_prefixes_size v_prefixes_longest v_prefixes_words v_bits)) C0 w (c_Ta_extensionRow hcall) hp hp' lm_RX4_60 ms_Ta_extensionRow ⟨rfl, rfl⟩ ⟨by decide, by decide⟩ ⟨Nat.zero_le _, Nat.zero_le _⟩ rfl hl rfl (Nat.le_of_ble_eq_true rfl) dX4_firstOpen_30 (fun H locs w => ?_)
    obtain ⟨hi, h⟩ := gIn_h h
    refine r_iald C0 w 3 rfl rfl hi dX4_firstOpen_33 ?_
    obtain ⟨r_1, hcall, h⟩ := bd1_h h
    obtain ⟨wr, hp, hp'⟩ := rd_of (ws := (ws_Ta_firstOpen cI cJ cZ q_this q_prefixes q_suffixes q_known q_bits q_prefixes_words v_letters v_prefixes_size v_prefixes_longest v_prefixes_words v_bits)) (wc := (ws_Ta_isPrefixRow cI cJ cZ q_this q_prefixes q_suffixes q_known q_bits q_prefixes_words v_letters v_prefixes_size v_prefixes_longest v_bits)) [0, 1, 3] rfl rfl
    refine r_VI (r := r_1) (As := [.int (v_bits r.toNatClampNeg)]) (rest := []) (wc' := (ws_Ta_isPrefixRow cI cJ cZ q_this q_prefixes q_suffixes q_known q_bits q_prefixes_words v_letters v_prefixes_size v_prefixes_longest v_bits)) (ws' := (ws_Ta_firstOpen cI cJ cZ q_this q_prefixes q_suffixes q_known q_bits q_prefixes_words v_letters v_prefixes_size v_prefixes_longest v_prefixes_words v_bits)) C0 w (c_Ta_isPrefixRow hcall) hp hp' lm_RX4_80 mv_Ta_isPrefixRow ⟨rfl, rfl⟩ ⟨by decide, by decide⟩ ⟨Nat.zero_le _, Nat.zero_le _⟩ (q0 := 0) rfl rfl rfl rfl hl rfl (Nat.le_of_ble_eq_true rfl) dX4_firstOpen_34 (fun H locs w => ?_)
    refine lv_if_ne (tgt := 54) hx hb dX4_firstOpen_37 (by decide) (fun hc => ?_) (fun hc => ?_)
    · have h := nf_h hc h
      obtain ⟨x2_1, ex2_1⟩ : ∃ y : Int32, y = (x2 + 1) := ⟨_, rfl⟩
      have h := bnd_at ex2_1 h
      refine lv_iinc (v := x2_1) (lv' := [(2, .int x2_1), (0, .ref q_this), (1, .int x1)]) hx hb dX4_firstOpen_54 hl (k := 2) rfl (by rw [ex2_1]; rfl) (by decide) rfl (fun ls hl => ?_)
      refine lv_goto (tgt := 15) hx hb dX4_firstOpen_57 (by decide) ?_
      exact hrec _ _ _ _ h w (lv_sub hl [1, 2, 0] rfl)
    · have h := if_h hc h
      refine lv_aload_n hx hb dX4_firstOpen_40 rfl (lv_at hl 0 rfl) ?_
      refine r_get C0 w 0 rfl kf_Ta 0 (by decide) lf_RX4_14 rfl dX4_firstOpen_41 ?_
      refine r_get C0 w 1 rfl kf_WL 0 (by decide) lf_RX4_52 rfl dX4_firstOpen_44 ?_
      refine lv_iload_n hx hb dX4_firstOpen_47 rfl (lv_at hl 1 rfl) ?_
      obtain ⟨hi, h⟩ := gIn_h h
      refine r_lald C0 w 2 rfl rfl hi dX4_firstOpen_48 ?_
      refine lv_iload_n hx hb dX4_firstOpen_49 rfl (lv_at hl 2 rfl) ?_
      obtain ⟨r_2, hcall, h⟩ := bd1_h h
      obtain ⟨wr, hp, hp'⟩ := rd_of (ws := (ws_Ta_firstOpen cI cJ cZ q_this q_prefixes q_suffixes q_known q_bits q_prefixes_words v_letters v_prefixes_size v_prefixes_longest v_prefixes_words v_bits)) (wc := (ws_Ws_append cI cJ cZ)) [] rfl rfl
      refine r_SJ (r := r_2) (As := [.long (v_prefixes_words x1.toNatClampNeg), .int x2]) (rest := []) (wc' := (ws_Ws_append cI cJ cZ)) (ws' := (ws_Ta_firstOpen cI cJ cZ q_this q_prefixes q_suffixes q_known q_bits q_prefixes_words v_letters v_prefixes_size v_prefixes_longest v_prefixes_words v_bits)) C0 w (c_Ws_append hcall) hp hp' lm_RX4_64 ms_Ws_append ⟨rfl, rfl⟩ ⟨by decide, by decide⟩ ⟨Nat.zero_le _, Nat.zero_le _⟩ rfl hl rfl (Nat.le_of_ble_eq_true rfl) dX4_firstOpen_50 (fun H locs w => ?_)
      cases h
      exact hQ _ _ _ _ dX4_firstOpen_53 w
set_option maxRecDepth 100000 in
theorem wl_Ta_firstOpen_L15 {p : Program} {l : Launch} {e : Env} {s : State} {m : MethodId} {args : Array Value} {below : List Frame} {meth : Method} {c : Code} {Q : State → Prop} {A : Nat → Prop} {D : va_G} {cI cJ cZ cO : ClassId} {q_this q_prefixes q_suffixes q_known q_bits q_prefixes_words : Nat} {v_letters : Int32} {v_prefixes_size : Int32} {v_prefixes_longest : Int32} {v_prefixes_words : (Nat → Int64)} {v_bits : (Nat → Int32)} {x1 : Int32} {x : Int64} (C0 : Cx p s m args c A D cI cJ cZ cO cX4_firstOpen 3 RX4) (hQ : RtJ p l e rm_Ta_firstOpen s m args below meth c Q A D cX4_firstOpen (ws_Ta_firstOpen cI cJ cZ q_this q_prefixes q_suffixes q_known q_bits q_prefixes_words v_letters v_prefixes_size v_prefixes_longest v_prefixes_words v_bits) x) {K : Int32 → Option (Int64)} (hK : ∀ (x2 : Int32) (H : Heap) (locs : List Loc) (ls : Array Slot), K x2 = some x → Wd s A D (ws_Ta_firstOpen cI cJ cZ q_this q_prefixes q_suffixes q_known q_bits q_prefixes_words v_letters v_prefixes_size v_prefixes_longest v_prefixes_words v_bits) H locs → lv_has ls 3 [(0, .ref q_this), (1, .int x1)] → W p l e rm_Ta_firstOpen s m args below meth c H locs 0 0 Q (F0 m 60 ls [])) : ∀ (n : Nat) (x2 : Int32) (H : Heap) (locs : List Loc) (ls : Array Slot), itr (fun _ => none) (f_Ta_firstOpen_L15 v_letters v_prefixes_size v_prefixes_words v_bits x1 K) n x2 = some x → Wd s A D (ws_Ta_firstOpen cI cJ cZ q_this q_prefixes q_suffixes q_known q_bits q_prefixes_words v_letters v_prefixes_size v_prefixes_longest v_prefixes_words v_bits) H locs → lv_has ls 3 [(0, .ref q_this), (1, .int x1), (2, .int x2)] → W p l e rm_Ta_firstOpen s m args below meth c H locs 0 0 Q (F0 m 15 ls []) := by
  intro n
  induction n with
  | zero => intro _ _ _ _ h; cases (show none = some _ from h)
  | succ n ih => intro _ _ _ _ h w hl; exact w_Ta_firstOpen_L15 C0 hQ hK ih _ h w hl
set_option maxRecDepth 100000 in
theorem w_Ta_firstOpen_L2 {p : Program} {l : Launch} {e : Env} {s : State} {m : MethodId} {args : Array Value} {below : List Frame} {meth : Method} {c : Code} {Q : State → Prop} {A : Nat → Prop} {D : va_G} {cI cJ cZ cO : ClassId} {q_this q_prefixes q_suffixes q_known q_bits q_prefixes_words : Nat} {v_letters : Int32} {v_prefixes_size : Int32} {v_prefixes_longest : Int32} {v_prefixes_words : (Nat → Int64)} {v_bits : (Nat → Int32)} {x : Int64} (C0 : Cx p s m args c A D cI cJ cZ cO cX4_firstOpen 3 RX4) (hQ : RtJ p l e rm_Ta_firstOpen s m args below meth c Q A D cX4_firstOpen (ws_Ta_firstOpen cI cJ cZ q_this q_prefixes q_suffixes q_known q_bits q_prefixes_words v_letters v_prefixes_size v_prefixes_longest v_prefixes_words v_bits) x) {K : Int32 → Option (Int64)} (hK : ∀ (x1 : Int32) (H : Heap) (locs : List Loc) (ls : Array Slot), K x1 = some x → Wd s A D (ws_Ta_firstOpen cI cJ cZ q_this q_prefixes q_suffixes q_known q_bits q_prefixes_words v_letters v_prefixes_size v_prefixes_longest v_prefixes_words v_bits) H locs → lv_has ls 3 [] → W p l e rm_Ta_firstOpen s m args below meth c H locs 0 0 Q (F0 m 66 ls [])) {rec : Int32 → Option (Int64)} (hrec : ∀ (x1 : Int32) (H : Heap) (locs : List Loc) (ls : Array Slot), rec x1 = some x → Wd s A D (ws_Ta_firstOpen cI cJ cZ q_this q_prefixes q_suffixes q_known q_bits q_prefixes_words v_letters v_prefixes_size v_prefixes_longest v_prefixes_words v_bits) H locs → lv_has ls 3 [(0, .ref q_this), (1, .int x1)] → W p l e rm_Ta_firstOpen s m args below meth c H locs 0 0 Q (F0 m 2 ls [])) (x1 : Int32) {H : Heap} {locs : List Loc} {ls : Array Slot} (h : f_Ta_firstOpen_L2 v_letters v_prefixes_size v_prefixes_words v_bits K rec x1 = some x) (w : Wd s A D (ws_Ta_firstOpen cI cJ cZ q_this q_prefixes q_suffixes q_known q_bits q_prefixes_words v_letters v_prefixes_size v_prefixes_longest v_prefixes_words v_bits) H locs) (hl : lv_has ls 3 [(0, .ref q_this), (1, .int x1)]) : W p l e rm_Ta_firstOpen s m args below meth c H locs 0 0 Q (F0 m 2 ls []) := by
  obtain ⟨hx, hb, hml, hown, hts, -, -⟩ := id C0
  unfold f_Ta_firstOpen_L2 at h
  refine lv_iload_n hx hb dX4_firstOpen_2 rfl (lv_at hl 1 rfl) ?_
  refine lv_aload_n hx hb dX4_firstOpen_3 rfl (lv_at hl 0 rfl) ?_
  refine r_get C0 w 0 rfl kf_Ta 0 (by decide) lf_RX4_14 rfl dX4_firstOpen_4 ?_
  refine r_get C0 w 1 rfl kf_WL 1 (by decide) lf_RX4_45 rfl dX4_firstOpen_7 ?_
  refine lv_icmp_ge (tgt := 66) hx hb dX4_firstOpen_10 (by decide) (fun hc => ?_) (fun hc => ?_)
  · have h := if_h hc h
    exact hK _ _ _ _ h w (lv_sub hl [] rfl)
  · have h := nf_h hc h
    refine lv_iconst (v := (0 : Int32)) hx hb dX4_firstOpen_13 (by decide) ?_
    refine lv_istore_n (lv' := [(2, .int (0 : Int32)), (0, .ref q_this), (1, .int x1)]) hx hb dX4_firstOpen_14 rfl hl (by decide) rfl (fun ls hl => ?_)
    refine wl_Ta_firstOpen_L15 C0 hQ (fun x2 H locs ls h w hl => ?_) _ _ _ _ _ h w (lv_sub hl [1, 2, 0] rfl)
    obtain ⟨x1_1, ex1_1⟩ : ∃ y : Int32, y = (x1 + 1) := ⟨_, rfl⟩
    have h := bnd_at ex1_1 h
    refine lv_iinc (v := x1_1) (lv' := [(1, .int x1_1), (0, .ref q_this)]) hx hb dX4_firstOpen_60 hl (k := 1) rfl (by rw [ex1_1]; rfl) (by decide) rfl (fun ls hl => ?_)
    refine lv_goto (tgt := 2) hx hb dX4_firstOpen_63 (by decide) ?_
    exact hrec _ _ _ _ h w (lv_sub hl [1, 0] rfl)
set_option maxRecDepth 100000 in
theorem wl_Ta_firstOpen_L2 {p : Program} {l : Launch} {e : Env} {s : State} {m : MethodId} {args : Array Value} {below : List Frame} {meth : Method} {c : Code} {Q : State → Prop} {A : Nat → Prop} {D : va_G} {cI cJ cZ cO : ClassId} {q_this q_prefixes q_suffixes q_known q_bits q_prefixes_words : Nat} {v_letters : Int32} {v_prefixes_size : Int32} {v_prefixes_longest : Int32} {v_prefixes_words : (Nat → Int64)} {v_bits : (Nat → Int32)} {x : Int64} (C0 : Cx p s m args c A D cI cJ cZ cO cX4_firstOpen 3 RX4) (hQ : RtJ p l e rm_Ta_firstOpen s m args below meth c Q A D cX4_firstOpen (ws_Ta_firstOpen cI cJ cZ q_this q_prefixes q_suffixes q_known q_bits q_prefixes_words v_letters v_prefixes_size v_prefixes_longest v_prefixes_words v_bits) x) {K : Int32 → Option (Int64)} (hK : ∀ (x1 : Int32) (H : Heap) (locs : List Loc) (ls : Array Slot), K x1 = some x → Wd s A D (ws_Ta_firstOpen cI cJ cZ q_this q_prefixes q_suffixes q_known q_bits q_prefixes_words v_letters v_prefixes_size v_prefixes_longest v_prefixes_words v_bits) H locs → lv_has ls 3 [] → W p l e rm_Ta_firstOpen s m args below meth c H locs 0 0 Q (F0 m 66 ls [])) : ∀ (n : Nat) (x1 : Int32) (H : Heap) (locs : List Loc) (ls : Array Slot), itr (fun _ => none) (f_Ta_firstOpen_L2 v_letters v_prefixes_size v_prefixes_words v_bits K) n x1 = some x → Wd s A D (ws_Ta_firstOpen cI cJ cZ q_this q_prefixes q_suffixes q_known q_bits q_prefixes_words v_letters v_prefixes_size v_prefixes_longest v_prefixes_words v_bits) H locs → lv_has ls 3 [(0, .ref q_this), (1, .int x1)] → W p l e rm_Ta_firstOpen s m args below meth c H locs 0 0 Q (F0 m 2 ls []) := by
  intro n
  induction n with
  | zero => intro _ _ _ _ h; cases (show none = some _ from h)
  | succ n ih => intro _ _ _ _ h w hl; exact w_Ta_firstOpen_L2 C0 hQ hK ih _ h w hl
set_option maxRecDepth 100000 in
theorem c_Ta_firstOpen {l : Launch} {D : va_G} {cI cJ cZ cO : ClassId} {q_this q_prefixes q_suffixes q_known q_bits q_prefixes_words : Nat} {v_letters : Int32} {v_prefixes_size : Int32} {v_prefixes_longest : Int32} {v_prefixes_words : (Nat → Int64)} {v_bits : (Nat → Int32)} {x : Int64} (h : f_Ta_firstOpen v_letters v_prefixes_size v_prefixes_words v_bits = some x) : ctJ l D cI cJ cZ cO yX4_firstOpen cX4_firstOpen 3 rm_Ta_firstOpen [.ref q_this] (ws_Ta_firstOpen cI cJ cZ q_this q_prefixes q_suffixes q_known q_bits q_prefixes_words v_letters v_prefixes_size v_prefixes_longest v_prefixes_words v_bits) (ws_Ta_firstOpen cI cJ cZ q_this q_prefixes q_suffixes q_known q_bits q_prefixes_words v_letters v_prefixes_size v_prefixes_longest v_prefixes_words v_bits) x := by
  refine ctJ_of (by decide) (Nat.le_of_ble_eq_true rfl) ?_
  intro p e s m below meth c Q A ls C0 hQ w hl
  have hl : lv_has ls 3 [(0, .ref q_this)] := hl
  generalize List.toArray (α := Value) [.ref q_this] = args at C0 hQ ⊢
  obtain ⟨hx, hb, hml, hown, hts, -, -⟩ := id C0
  unfold f_Ta_firstOpen at h
  refine lv_iconst (v := (0 : Int32)) hx hb dX4_firstOpen_0 (by decide) ?_
  refine lv_istore_n (lv' := [(1, .int (0 : Int32)), (0, .ref q_this)]) hx hb dX4_firstOpen_1 rfl hl (by decide) rfl (fun ls hl => ?_)
  refine wl_Ta_firstOpen_L2 C0 hQ (fun x1 H locs ls h w hl => ?_) _ _ _ _ _ h w (lv_sub hl [1, 0] rfl)
  refine lv_ldc2 (v := (-1 : Int64)) hx hb hown (hts _ ll_RX4_43) dX4_firstOpen_66 ?_
  cases h
  exact hQ _ _ _ _ dX4_firstOpen_69 w
theorem dX4_separatorOf_0 : decode cX4_separatorOf 0 = .ok (.iconst 0, 1) := by decide +kernel
theorem dX4_separatorOf_1 : decode cX4_separatorOf 1 = .ok (.istore_n 3, 1) := by decide +kernel
theorem dX4_separatorOf_2 : decode cX4_separatorOf 2 = .ok (.iload_n 3, 1) := by decide +kernel
theorem dX4_separatorOf_3 : decode cX4_separatorOf 3 = .ok (.aload_n 0, 1) := by decide +kernel
theorem dX4_separatorOf_4 : decode cX4_separatorOf 4 = .ok (.getfield 30, 3) := by decide +kernel
theorem dX4_separatorOf_7 : decode cX4_separatorOf 7 = .ok (.if_icmp .ge 82, 3) := by decide +kernel
theorem dX4_separatorOf_10 : decode cX4_separatorOf 10 = .ok (.aload_n 0, 1) := by decide +kernel
theorem dX4_separatorOf_11 : decode cX4_separatorOf 11 = .ok (.getfield 27, 3) := by decide +kernel
theorem dX4_separatorOf_14 : decode cX4_separatorOf 14 = .ok (.iload_n 1, 1) := by decide +kernel
theorem dX4_separatorOf_15 : decode cX4_separatorOf 15 = .ok (.iload_n 3, 1) := by decide +kernel
theorem dX4_separatorOf_16 : decode cX4_separatorOf 16 = .ok (.invokestatic 60, 3) := by decide +kernel
theorem dX4_separatorOf_19 : decode cX4_separatorOf 19 = .ok (.iaload, 1) := by decide +kernel
theorem dX4_separatorOf_20 : decode cX4_separatorOf 20 = .ok (.aload_n 0, 1) := by decide +kernel
theorem dX4_separatorOf_21 : decode cX4_separatorOf 21 = .ok (.getfield 27, 3) := by decide +kernel
theorem dX4_separatorOf_24 : decode cX4_separatorOf 24 = .ok (.iload_n 2, 1) := by decide +kernel
theorem dX4_separatorOf_25 : decode cX4_separatorOf 25 = .ok (.iload_n 3, 1) := by decide +kernel
theorem dX4_separatorOf_26 : decode cX4_separatorOf 26 = .ok (.invokestatic 60, 3) := by decide +kernel
theorem dX4_separatorOf_29 : decode cX4_separatorOf 29 = .ok (.iaload, 1) := by decide +kernel
theorem dX4_separatorOf_30 : decode cX4_separatorOf 30 = .ok (.ixor, 1) := by decide +kernel
theorem dX4_separatorOf_31 : decode cX4_separatorOf 31 = .ok (.istore 4, 2) := by decide +kernel
theorem dX4_separatorOf_33 : decode cX4_separatorOf 33 = .ok (.iconst 0, 1) := by decide +kernel
theorem dX4_separatorOf_34 : decode cX4_separatorOf 34 = .ok (.istore 5, 2) := by decide +kernel
theorem dX4_separatorOf_36 : decode cX4_separatorOf 36 = .ok (.iload 5, 2) := by decide +kernel
theorem dX4_separatorOf_38 : decode cX4_separatorOf 38 = .ok (.aload_n 0, 1) := by decide +kernel
theorem dX4_separatorOf_39 : decode cX4_separatorOf 39 = .ok (.getfield 20, 3) := by decide +kernel
theorem dX4_separatorOf_42 : decode cX4_separatorOf 42 = .ok (.getfield 45, 3) := by decide +kernel
theorem dX4_separatorOf_45 : decode cX4_separatorOf 45 = .ok (.if_icmp .ge 38, 3) := by decide +kernel
theorem dX4_separatorOf_48 : decode cX4_separatorOf 48 = .ok (.iload 4, 2) := by decide +kernel
theorem dX4_separatorOf_50 : decode cX4_separatorOf 50 = .ok (.iload 5, 2) := by decide +kernel
theorem dX4_separatorOf_52 : decode cX4_separatorOf 52 = .ok (.ishr, 1) := by decide +kernel
theorem dX4_separatorOf_53 : decode cX4_separatorOf 53 = .ok (.iconst 1, 1) := by decide +kernel
theorem dX4_separatorOf_54 : decode cX4_separatorOf 54 = .ok (.iand, 1) := by decide +kernel
theorem dX4_separatorOf_55 : decode cX4_separatorOf 55 = .ok (.iconst 1, 1) := by decide +kernel
theorem dX4_separatorOf_56 : decode cX4_separatorOf 56 = .ok (.if_icmp .ne 21, 3) := by decide +kernel
theorem dX4_separatorOf_59 : decode cX4_separatorOf 59 = .ok (.iload_n 3, 1) := by decide +kernel
theorem dX4_separatorOf_60 : decode cX4_separatorOf 60 = .ok (.invokestatic 88, 3) := by decide +kernel
theorem dX4_separatorOf_63 : decode cX4_separatorOf 63 = .ok (.aload_n 0, 1) := by decide +kernel
theorem dX4_separatorOf_64 : decode cX4_separatorOf 64 = .ok (.getfield 20, 3) := by decide +kernel
theorem dX4_separatorOf_67 : decode cX4_separatorOf 67 = .ok (.getfield 52, 3) := by decide +kernel
theorem dX4_separatorOf_70 : decode cX4_separatorOf 70 = .ok (.iload 5, 2) := by decide +kernel
theorem dX4_separatorOf_72 : decode cX4_separatorOf 72 = .ok (.laload, 1) := by decide +kernel
theorem dX4_separatorOf_73 : decode cX4_separatorOf 73 = .ok (.invokestatic 70, 3) := by decide +kernel
theorem dX4_separatorOf_76 : decode cX4_separatorOf 76 = .ok (.lreturn, 1) := by decide +kernel
theorem dX4_separatorOf_77 : decode cX4_separatorOf 77 = .ok (.iinc 5 1, 3) := by decide +kernel
theorem dX4_separatorOf_80 : decode cX4_separatorOf 80 = .ok (.goto (-44), 3) := by decide +kernel
theorem dX4_separatorOf_83 : decode cX4_separatorOf 83 = .ok (.iinc 3 1, 3) := by decide +kernel
theorem dX4_separatorOf_86 : decode cX4_separatorOf 86 = .ok (.goto (-84), 3) := by decide +kernel
theorem dX4_separatorOf_89 : decode cX4_separatorOf 89 = .ok (.ldc2_w 43, 3) := by decide +kernel
theorem dX4_separatorOf_92 : decode cX4_separatorOf 92 = .ok (.lreturn, 1) := by decide +kernel
set_option maxRecDepth 100000 in
theorem w_Ta_separatorOf_L36 {p : Program} {l : Launch} {e : Env} {s : State} {m : MethodId} {args : Array Value} {below : List Frame} {meth : Method} {c : Code} {Q : State → Prop} {A : Nat → Prop} {D : va_G} {cI cJ cZ cO : ClassId} {q_this q_prefixes q_suffixes q_known q_bits q_suffixes_words : Nat} {v_letters : Int32} {v_suffixes_size : Int32} {v_suffixes_longest : Int32} {v_suffixes_words : (Nat → Int64)} {v_bits : (Nat → Int32)} {x1 : Int32} {x2 : Int32} {x3 : Int32} {x4 : Int32} {x : Int64} (C0 : Cx p s m args c A D cI cJ cZ cO cX4_separatorOf 6 RX4) (hQ : RtJ p l e rm_Ta_separatorOf s m args below meth c Q A D cX4_separatorOf (ws_Ta_separatorOf cI cJ cZ q_this q_prefixes q_suffixes q_known q_bits q_suffixes_words v_letters v_suffixes_size v_suffixes_longest v_suffixes_words v_bits) x) {K : Int32 → Option (Int64)} (hK : ∀ (x5 : Int32) (H : Heap) (locs : List Loc) (ls : Array Slot), K x5 = some x → Wd s A D (ws_Ta_separatorOf cI cJ cZ q_this q_prefixes q_suffixes q_known q_bits q_suffixes_words v_letters v_suffixes_size v_suffixes_longest v_suffixes_words v_bits) H locs → lv_has ls 6 [(0, .ref q_this), (1, .int x1), (2, .int x2), (3, .int x3)] → W p l e rm_Ta_separatorOf s m args below meth c H locs 0 0 Q (F0 m 83 ls [])) {rec : Int32 → Option (Int64)} (hrec : ∀ (x5 : Int32) (H : Heap) (locs : List Loc) (ls : Array Slot), rec x5 = some x → Wd s A D (ws_Ta_separatorOf cI cJ cZ q_this q_prefixes q_suffixes q_known q_bits q_suffixes_words v_letters v_suffixes_size v_suffixes_longest v_suffixes_words v_bits) H locs → lv_has ls 6 [(0, .ref q_this), (1, .int x1), (2, .int x2), (3, .int x3), (4, .int x4), (5, .int x5)] → W p l e rm_Ta_separatorOf s m args below meth c H locs 0 0 Q (F0 m 36 ls [])) (x5 : Int32) {H : Heap} {locs : List Loc} {ls : Array Slot} (h : f_Ta_separatorOf_L36 v_suffixes_size v_suffixes_words x3 x4 K rec x5 = some x) (w : Wd s A D (ws_Ta_separatorOf cI cJ cZ q_this q_prefixes q_suffixes q_known q_bits q_suffixes_words v_letters v_suffixes_size v_suffixes_longest v_suffixes_words v_bits) H locs) (hl : lv_has ls 6 [(0, .ref q_this), (1, .int x1), (2, .int x2), (3, .int x3), (4, .int x4), (5, .int x5)]) : W p l e rm_Ta_separatorOf s m args below meth c H locs 0 0 Q (F0 m 36 ls []) := by
  obtain ⟨hx, hb, hml, hown, hts, -, -⟩ := id C0
  unfold f_Ta_separatorOf_L36 at h
  refine lv_iload hx hb dX4_separatorOf_36 (lv_at hl 5 rfl) ?_
  refine lv_aload_n hx hb dX4_separatorOf_38 rfl (lv_at hl 0 rfl) ?_
  refine r_get C0 w 0 rfl kf_Ta 1 (by decide) lf_RX4_20 rfl dX4_separatorOf_39 ?_
  refine r_get C0 w 1 rfl kf_WL 1 (by decide) lf_RX4_45 rfl dX4_separatorOf_42 ?_
  refine lv_icmp_ge (tgt := 83) hx hb dX4_separatorOf_45 (by decide) (fun hc => ?_) (fun hc => ?_)
  · have h := if_h hc h
    exact hK _ _ _ _ h w (lv_sub hl [0, 1, 2, 3] rfl)
  · have h := nf_h hc h
    refine lv_iload hx hb dX4_separatorOf_48 (lv_at hl 4 rfl) ?_
    refine lv_iload hx hb dX4_separatorOf_50 (lv_at hl 5 rfl) ?_
    refine lv_ishr hx hb dX4_separatorOf_52 ?_
    refine lv_iconst (v := (1 : Int32)) hx hb dX4_separatorOf_53 (by decide) ?_
    refine lv_iand hx hb dX4_separatorOf_54 ?_
    refine lv_iconst (v := (1 : Int32)) hx hb dX4_separatorOf_55 (by decide) ?_
    refine lv_icmp_ne (tgt := 77) hx hb dX4_separatorOf_56 (by decide) (fun hc => ?_) (fun hc => ?_)
    · have h := nf_h hc h
      obtain ⟨x5_1, ex5_1⟩ : ∃ y : Int32, y = (x5 + 1) := ⟨_, rfl⟩
      have h := bnd_at ex5_1 h
      refine lv_iinc (v := x5_1) (lv' := [(5, .int x5_1), (0, .ref q_this), (1, .int x1), (2, .int x2), (3, .int x3), (4, .int x4)]) hx hb dX4_separatorOf_77 hl (k := 5) rfl (by rw [ex5_1]; rfl) (by decide) rfl (fun ls hl => ?_)
      refine lv_goto (tgt := 36) hx hb dX4_separatorOf_80 (by decide) ?_
      exact hrec _ _ _ _ h w (lv_sub hl [1, 2, 3, 4, 5, 0] rfl)
    · have h := if_h hc h
      refine lv_iload_n hx hb dX4_separatorOf_59 rfl (lv_at hl 3 rfl) ?_
      obtain ⟨r, hcall, h⟩ := bd1_h h
      obtain ⟨wr, hp, hp'⟩ := rd_of (ws := (ws_Ta_separatorOf cI cJ cZ q_this q_prefixes q_suffixes q_known q_bits q_suffixes_words v_letters v_suffixes_size v_suffixes_longest v_suffixes_words v_bits)) (wc := (ws_Ws_single cI cJ cZ)) [] rfl rfl
      refine r_SJ (r := r) (As := [.int x3]) (rest := []) (wc' := (ws_Ws_single cI cJ cZ)) (ws' := (ws_Ta_separatorOf cI cJ cZ q_this q_prefixes q_suffixes q_known q_bits q_suffixes_words v_letters v_suffixes_size v_suffixes_longest v_suffixes_words v_bits)) C0 w (c_Ws_single hcall) hp hp' lm_RX4_88 ms_Ws_single ⟨rfl, rfl⟩ ⟨by decide, by decide⟩ ⟨Nat.zero_le _, Nat.zero_le _⟩ rfl hl rfl (Nat.le_of_ble_eq_true rfl) dX4_separatorOf_60 (fun H locs w => ?_)
      refine lv_aload_n hx hb dX4_separatorOf_63 rfl (lv_at hl 0 rfl) ?_
      refine r_get C0 w 0 rfl kf_Ta 1 (by decide) lf_RX4_20 rfl dX4_separatorOf_64 ?_
      refine r_get C0 w 1 rfl kf_WL 0 (by decide) lf_RX4_52 rfl dX4_separatorOf_67 ?_
      refine lv_iload hx hb dX4_separatorOf_70 (lv_at hl 5 rfl) ?_
      obtain ⟨hi, h⟩ := gIn_h h
      refine r_lald C0 w 2 rfl rfl hi dX4_separatorOf_72 ?_
      obtain ⟨r_1, hcall, h⟩ := bd1_h h
      obtain ⟨wr, hp, hp'⟩ := rd_of (ws := (ws_Ta_separatorOf cI cJ cZ q_this q_prefixes q_suffixes q_known q_bits q_suffixes_words v_letters v_suffixes_size v_suffixes_longest v_suffixes_words v_bits)) (wc := (ws_Ws_join cI cJ cZ)) [] rfl rfl
      refine r_SJ (r := r_1) (As := [.long r, .long (v_suffixes_words x5.toNatClampNeg)]) (rest := []) (wc' := (ws_Ws_join cI cJ cZ)) (ws' := (ws_Ta_separatorOf cI cJ cZ q_this q_prefixes q_suffixes q_known q_bits q_suffixes_words v_letters v_suffixes_size v_suffixes_longest v_suffixes_words v_bits)) C0 w (c_Ws_join hcall) hp hp' lm_RX4_70 ms_Ws_join ⟨rfl, rfl⟩ ⟨by decide, by decide⟩ ⟨Nat.zero_le _, Nat.zero_le _⟩ rfl hl rfl (Nat.le_of_ble_eq_true rfl) dX4_separatorOf_73 (fun H locs w => ?_)
      cases h
      exact hQ _ _ _ _ dX4_separatorOf_76 w
set_option maxRecDepth 100000 in
theorem wl_Ta_separatorOf_L36 {p : Program} {l : Launch} {e : Env} {s : State} {m : MethodId} {args : Array Value} {below : List Frame} {meth : Method} {c : Code} {Q : State → Prop} {A : Nat → Prop} {D : va_G} {cI cJ cZ cO : ClassId} {q_this q_prefixes q_suffixes q_known q_bits q_suffixes_words : Nat} {v_letters : Int32} {v_suffixes_size : Int32} {v_suffixes_longest : Int32} {v_suffixes_words : (Nat → Int64)} {v_bits : (Nat → Int32)} {x1 : Int32} {x2 : Int32} {x3 : Int32} {x4 : Int32} {x : Int64} (C0 : Cx p s m args c A D cI cJ cZ cO cX4_separatorOf 6 RX4) (hQ : RtJ p l e rm_Ta_separatorOf s m args below meth c Q A D cX4_separatorOf (ws_Ta_separatorOf cI cJ cZ q_this q_prefixes q_suffixes q_known q_bits q_suffixes_words v_letters v_suffixes_size v_suffixes_longest v_suffixes_words v_bits) x) {K : Int32 → Option (Int64)} (hK : ∀ (x5 : Int32) (H : Heap) (locs : List Loc) (ls : Array Slot), K x5 = some x → Wd s A D (ws_Ta_separatorOf cI cJ cZ q_this q_prefixes q_suffixes q_known q_bits q_suffixes_words v_letters v_suffixes_size v_suffixes_longest v_suffixes_words v_bits) H locs → lv_has ls 6 [(0, .ref q_this), (1, .int x1), (2, .int x2), (3, .int x3)] → W p l e rm_Ta_separatorOf s m args below meth c H locs 0 0 Q (F0 m 83 ls [])) : ∀ (n : Nat) (x5 : Int32) (H : Heap) (locs : List Loc) (ls : Array Slot), itr (fun _ => none) (f_Ta_separatorOf_L36 v_suffixes_size v_suffixes_words x3 x4 K) n x5 = some x → Wd s A D (ws_Ta_separatorOf cI cJ cZ q_this q_prefixes q_suffixes q_known q_bits q_suffixes_words v_letters v_suffixes_size v_suffixes_longest v_suffixes_words v_bits) H locs → lv_has ls 6 [(0, .ref q_this), (1, .int x1), (2, .int x2), (3, .int x3), (4, .int x4), (5, .int x5)] → W p l e rm_Ta_separatorOf s m args below meth c H locs 0 0 Q (F0 m 36 ls []) := by
  intro n
  induction n with
  | zero => intro _ _ _ _ h; cases (show none = some _ from h)
  | succ n ih => intro _ _ _ _ h w hl; exact w_Ta_separatorOf_L36 C0 hQ hK ih _ h w hl
set_option maxRecDepth 100000 in
theorem w_Ta_separatorOf_L2 {p : Program} {l : Launch} {e : Env} {s : State} {m : MethodId} {args : Array Value} {below : List Frame} {meth : Method} {c : Code} {Q : State → Prop} {A : Nat → Prop} {D : va_G} {cI cJ cZ cO : ClassId} {q_this q_prefixes q_suffixes q_known q_bits q_suffixes_words : Nat} {v_letters : Int32} {v_suffixes_size : Int32} {v_suffixes_longest : Int32} {v_suffixes_words : (Nat → Int64)} {v_bits : (Nat → Int32)} {x1 : Int32} {x2 : Int32} {x : Int64} (C0 : Cx p s m args c A D cI cJ cZ cO cX4_separatorOf 6 RX4) (hQ : RtJ p l e rm_Ta_separatorOf s m args below meth c Q A D cX4_separatorOf (ws_Ta_separatorOf cI cJ cZ q_this q_prefixes q_suffixes q_known q_bits q_suffixes_words v_letters v_suffixes_size v_suffixes_longest v_suffixes_words v_bits) x) {K : Int32 → Option (Int64)} (hK : ∀ (x3 : Int32) (H : Heap) (locs : List Loc) (ls : Array Slot), K x3 = some x → Wd s A D (ws_Ta_separatorOf cI cJ cZ q_this q_prefixes q_suffixes q_known q_bits q_suffixes_words v_letters v_suffixes_size v_suffixes_longest v_suffixes_words v_bits) H locs → lv_has ls 6 [] → W p l e rm_Ta_separatorOf s m args below meth c H locs 0 0 Q (F0 m 89 ls [])) {rec : Int32 → Option (Int64)} (hrec : ∀ (x3 : Int32) (H : Heap) (locs : List Loc) (ls : Array Slot), rec x3 = some x → Wd s A D (ws_Ta_separatorOf cI cJ cZ q_this q_prefixes q_suffixes q_known q_bits q_suffixes_words v_letters v_suffixes_size v_suffixes_longest v_suffixes_words v_bits) H locs → lv_has ls 6 [(0, .ref q_this), (1, .int x1), (2, .int x2), (3, .int x3)] → W p l e rm_Ta_separatorOf s m args below meth c H locs 0 0 Q (F0 m 2 ls [])) (x3 : Int32) {H : Heap} {locs : List Loc} {ls : Array Slot} (h : f_Ta_separatorOf_L2 v_letters v_suffixes_size v_suffixes_words v_bits x1 x2 K rec x3 = some x) (w : Wd s A D (ws_Ta_separatorOf cI cJ cZ q_this q_prefixes q_suffixes q_known q_bits q_suffixes_words v_letters v_suffixes_size v_suffixes_longest v_suffixes_words v_bits) H locs) (hl : lv_has ls 6 [(0, .ref q_this), (1, .int x1), (2, .int x2), (3, .int x3)]) : W p l e rm_Ta_separatorOf s m args below meth c H locs 0 0 Q (F0 m 2 ls []) := by
  obtain ⟨hx, hb, hml, hown, hts, -, -⟩ := id C0
  unfold f_Ta_separatorOf_L2 at h
  refine lv_iload_n hx hb dX4_separatorOf_2 rfl (lv_at hl 3 rfl) ?_
  refine lv_aload_n hx hb dX4_separatorOf_3 rfl (lv_at hl 0 rfl) ?_
  refine r_get C0 w 0 rfl kf_Ta 4 (by decide) lf_RX4_30 rfl dX4_separatorOf_4 ?_
  refine lv_icmp_ge (tgt := 89) hx hb dX4_separatorOf_7 (by decide) (fun hc => ?_) (fun hc => ?_)
  · have h := if_h hc h
    exact hK _ _ _ _ h w (lv_sub hl [] rfl)
  · have h := nf_h hc h
    refine lv_aload_n hx hb dX4_separatorOf_10 rfl (lv_at hl 0 rfl) ?_
    refine r_get C0 w 0 rfl kf_Ta 3 (by decide) lf_RX4_27 rfl dX4_separatorOf_11 ?_
    refine lv_iload_n hx hb dX4_separatorOf_14 rfl (lv_at hl 1 rfl) ?_
    refine lv_iload_n hx hb dX4_separatorOf_15 rfl (lv_at hl 3 rfl) ?_
    obtain ⟨r, hcall, h⟩ := bd1_h h
    obtain ⟨wr, hp, hp'⟩ := rd_of (ws := (ws_Ta_separatorOf cI cJ cZ q_this q_prefixes q_suffixes q_known q_bits q_suffixes_words v_letters v_suffixes_size v_suffixes_longest v_suffixes_words v_bits)) (wc := (ws_Ta_extensionRow cI cJ cZ)) [] rfl rfl
    refine r_SI (r := r) (As := [.int x1, .int x3]) (rest := [.ref q_bits]) (wc' := (ws_Ta_extensionRow cI cJ cZ)) (ws' := (ws_Ta_separatorOf cI cJ cZ q_this q_prefixes q_suffixes q_known q_bits q_suffixes_words v_letters v_suffixes_size v_suffixes_longest v_suffixes_words v_bits)) C0 w (c_Ta_extensionRow hcall) hp hp' lm_RX4_60 ms_Ta_extensionRow ⟨rfl, rfl⟩ ⟨by decide, by decide⟩ ⟨Nat.zero_le _, Nat.zero_le _⟩ rfl hl rfl (Nat.le_of_ble_eq_true rfl) dX4_separatorOf_16 (fun H locs w => ?_)
    obtain ⟨hi, h⟩ := gIn_h h
    refine r_iald C0 w 3 rfl rfl hi dX4_separatorOf_19 ?_
    refine lv_aload_n hx hb dX4_separatorOf_20 rfl (lv_at hl 0 rfl) ?_
    refine r_get C0 w 0 rfl kf_Ta 3 (by decide) lf_RX4_27 rfl dX4_separatorOf_21 ?_
    refine lv_iload_n hx hb dX4_separatorOf_24 rfl (lv_at hl 2 rfl) ?_
    refine lv_iload_n hx hb dX4_separatorOf_25 rfl (lv_at hl 3 rfl) ?_
    obtain ⟨r_1, hcall, h⟩ := bd1_h h
    obtain ⟨wr, hp, hp'⟩ := rd_of (ws := (ws_Ta_separatorOf cI cJ cZ q_this q_prefixes q_suffixes q_known q_bits q_suffixes_words v_letters v_suffixes_size v_suffixes_longest v_suffixes_words v_bits)) (wc := (ws_Ta_extensionRow cI cJ cZ)) [] rfl rfl
    refine r_SI (r := r_1) (As := [.int x2, .int x3]) (rest := [.ref q_bits, .int (v_bits r.toNatClampNeg)]) (wc' := (ws_Ta_extensionRow cI cJ cZ)) (ws' := (ws_Ta_separatorOf cI cJ cZ q_this q_prefixes q_suffixes q_known q_bits q_suffixes_words v_letters v_suffixes_size v_suffixes_longest v_suffixes_words v_bits)) C0 w (c_Ta_extensionRow hcall) hp hp' lm_RX4_60 ms_Ta_extensionRow ⟨rfl, rfl⟩ ⟨by decide, by decide⟩ ⟨Nat.zero_le _, Nat.zero_le _⟩ rfl hl rfl (Nat.le_of_ble_eq_true rfl) dX4_separatorOf_26 (fun H locs w => ?_)
    obtain ⟨hi, h⟩ := gIn_h h
    refine r_iald C0 w 3 rfl rfl hi dX4_separatorOf_29 ?_
    refine lv_ixor hx hb dX4_separatorOf_30 ?_
    refine lv_topi (fun x4 ex4 => ?_)
    have h := bnd_at ex4 h
    refine lv_istore (lv' := [(4, .int x4), (0, .ref q_this), (1, .int x1), (2, .int x2), (3, .int x3)]) hx hb dX4_separatorOf_31 hl (by decide) rfl (fun ls hl => ?_)
    refine lv_iconst (v := (0 : Int32)) hx hb dX4_separatorOf_33 (by decide) ?_
    refine lv_istore (lv' := [(5, .int (0 : Int32)), (4, .int x4), (0, .ref q_this), (1, .int x1), (2, .int x2), (3, .int x3)]) hx hb dX4_separatorOf_34 hl (by decide) rfl (fun ls hl => ?_)
    refine wl_Ta_separatorOf_L36 C0 hQ (fun x5 H locs ls h w hl => ?_) _ _ _ _ _ h w (lv_sub hl [2, 3, 4, 5, 1, 0] rfl)
    obtain ⟨x3_1, ex3_1⟩ : ∃ y : Int32, y = (x3 + 1) := ⟨_, rfl⟩
    have h := bnd_at ex3_1 h
    refine lv_iinc (v := x3_1) (lv' := [(3, .int x3_1), (0, .ref q_this), (1, .int x1), (2, .int x2)]) hx hb dX4_separatorOf_83 hl (k := 3) rfl (by rw [ex3_1]; rfl) (by decide) rfl (fun ls hl => ?_)
    refine lv_goto (tgt := 2) hx hb dX4_separatorOf_86 (by decide) ?_
    exact hrec _ _ _ _ h w (lv_sub hl [1, 2, 3, 0] rfl)
set_option maxRecDepth 100000 in
theorem wl_Ta_separatorOf_L2 {p : Program} {l : Launch} {e : Env} {s : State} {m : MethodId} {args : Array Value} {below : List Frame} {meth : Method} {c : Code} {Q : State → Prop} {A : Nat → Prop} {D : va_G} {cI cJ cZ cO : ClassId} {q_this q_prefixes q_suffixes q_known q_bits q_suffixes_words : Nat} {v_letters : Int32} {v_suffixes_size : Int32} {v_suffixes_longest : Int32} {v_suffixes_words : (Nat → Int64)} {v_bits : (Nat → Int32)} {x1 : Int32} {x2 : Int32} {x : Int64} (C0 : Cx p s m args c A D cI cJ cZ cO cX4_separatorOf 6 RX4) (hQ : RtJ p l e rm_Ta_separatorOf s m args below meth c Q A D cX4_separatorOf (ws_Ta_separatorOf cI cJ cZ q_this q_prefixes q_suffixes q_known q_bits q_suffixes_words v_letters v_suffixes_size v_suffixes_longest v_suffixes_words v_bits) x) {K : Int32 → Option (Int64)} (hK : ∀ (x3 : Int32) (H : Heap) (locs : List Loc) (ls : Array Slot), K x3 = some x → Wd s A D (ws_Ta_separatorOf cI cJ cZ q_this q_prefixes q_suffixes q_known q_bits q_suffixes_words v_letters v_suffixes_size v_suffixes_longest v_suffixes_words v_bits) H locs → lv_has ls 6 [] → W p l e rm_Ta_separatorOf s m args below meth c H locs 0 0 Q (F0 m 89 ls [])) : ∀ (n : Nat) (x3 : Int32) (H : Heap) (locs : List Loc) (ls : Array Slot), itr (fun _ => none) (f_Ta_separatorOf_L2 v_letters v_suffixes_size v_suffixes_words v_bits x1 x2 K) n x3 = some x → Wd s A D (ws_Ta_separatorOf cI cJ cZ q_this q_prefixes q_suffixes q_known q_bits q_suffixes_words v_letters v_suffixes_size v_suffixes_longest v_suffixes_words v_bits) H locs → lv_has ls 6 [(0, .ref q_this), (1, .int x1), (2, .int x2), (3, .int x3)] → W p l e rm_Ta_separatorOf s m args below meth c H locs 0 0 Q (F0 m 2 ls []) := by
  intro n
  induction n with
  | zero => intro _ _ _ _ h; cases (show none = some _ from h)
  | succ n ih => intro _ _ _ _ h w hl; exact w_Ta_separatorOf_L2 C0 hQ hK ih _ h w hl
set_option maxRecDepth 100000 in
theorem c_Ta_separatorOf {l : Launch} {D : va_G} {cI cJ cZ cO : ClassId} {q_this q_prefixes q_suffixes q_known q_bits q_suffixes_words : Nat} {x1 : Int32} {x2 : Int32} {v_letters : Int32} {v_suffixes_size : Int32} {v_suffixes_longest : Int32} {v_suffixes_words : (Nat → Int64)} {v_bits : (Nat → Int32)} {x : Int64} (h : f_Ta_separatorOf x1 x2 v_letters v_suffixes_size v_suffixes_words v_bits = some x) : ctJ l D cI cJ cZ cO yX4_separatorOf cX4_separatorOf 6 rm_Ta_separatorOf [.ref q_this, .int x1, .int x2] (ws_Ta_separatorOf cI cJ cZ q_this q_prefixes q_suffixes q_known q_bits q_suffixes_words v_letters v_suffixes_size v_suffixes_longest v_suffixes_words v_bits) (ws_Ta_separatorOf cI cJ cZ q_this q_prefixes q_suffixes q_known q_bits q_suffixes_words v_letters v_suffixes_size v_suffixes_longest v_suffixes_words v_bits) x := by
  refine ctJ_of (by decide) (Nat.le_of_ble_eq_true rfl) ?_
  intro p e s m below meth c Q A ls C0 hQ w hl
  have hl : lv_has ls 6 [(0, .ref q_this), (1, .int x1), (2, .int x2)] := hl
  generalize List.toArray (α := Value) [.ref q_this, .int x1, .int x2] = args at C0 hQ ⊢
  obtain ⟨hx, hb, hml, hown, hts, -, -⟩ := id C0
  unfold f_Ta_separatorOf at h
  refine lv_iconst (v := (0 : Int32)) hx hb dX4_separatorOf_0 (by decide) ?_
  refine lv_istore_n (lv' := [(3, .int (0 : Int32)), (0, .ref q_this), (1, .int x1), (2, .int x2)]) hx hb dX4_separatorOf_1 rfl hl (by decide) rfl (fun ls hl => ?_)
  refine wl_Ta_separatorOf_L2 C0 hQ (fun x3 H locs ls h w hl => ?_) _ _ _ _ _ h w (lv_sub hl [1, 2, 3, 0] rfl)
  refine lv_ldc2 (v := (-1 : Int64)) hx hb hown (hts _ ll_RX4_43) dX4_separatorOf_89 ?_
  cases h
  exact hQ _ _ _ _ dX4_separatorOf_92 w
theorem dX4_firstSeparator_0 : decode cX4_firstSeparator 0 = .ok (.iconst 0, 1) := by decide +kernel
theorem dX4_firstSeparator_1 : decode cX4_firstSeparator 1 = .ok (.istore_n 1, 1) := by decide +kernel
theorem dX4_firstSeparator_2 : decode cX4_firstSeparator 2 = .ok (.iload_n 1, 1) := by decide +kernel
theorem dX4_firstSeparator_3 : decode cX4_firstSeparator 3 = .ok (.aload_n 0, 1) := by decide +kernel
theorem dX4_firstSeparator_4 : decode cX4_firstSeparator 4 = .ok (.getfield 14, 3) := by decide +kernel
theorem dX4_firstSeparator_7 : decode cX4_firstSeparator 7 = .ok (.getfield 45, 3) := by decide +kernel
theorem dX4_firstSeparator_10 : decode cX4_firstSeparator 10 = .ok (.if_icmp .ge 68, 3) := by decide +kernel
theorem dX4_firstSeparator_13 : decode cX4_firstSeparator 13 = .ok (.iload_n 1, 1) := by decide +kernel
theorem dX4_firstSeparator_14 : decode cX4_firstSeparator 14 = .ok (.iconst 1, 1) := by decide +kernel
theorem dX4_firstSeparator_15 : decode cX4_firstSeparator 15 = .ok (.iadd, 1) := by decide +kernel
theorem dX4_firstSeparator_16 : decode cX4_firstSeparator 16 = .ok (.istore_n 2, 1) := by decide +kernel
theorem dX4_firstSeparator_17 : decode cX4_firstSeparator 17 = .ok (.iload_n 2, 1) := by decide +kernel
theorem dX4_firstSeparator_18 : decode cX4_firstSeparator 18 = .ok (.aload_n 0, 1) := by decide +kernel
theorem dX4_firstSeparator_19 : decode cX4_firstSeparator 19 = .ok (.getfield 14, 3) := by decide +kernel
theorem dX4_firstSeparator_22 : decode cX4_firstSeparator 22 = .ok (.getfield 45, 3) := by decide +kernel
theorem dX4_firstSeparator_25 : decode cX4_firstSeparator 25 = .ok (.if_icmp .ge 47, 3) := by decide +kernel
theorem dX4_firstSeparator_28 : decode cX4_firstSeparator 28 = .ok (.aload_n 0, 1) := by decide +kernel
theorem dX4_firstSeparator_29 : decode cX4_firstSeparator 29 = .ok (.getfield 27, 3) := by decide +kernel
theorem dX4_firstSeparator_32 : decode cX4_firstSeparator 32 = .ok (.iload_n 1, 1) := by decide +kernel
theorem dX4_firstSeparator_33 : decode cX4_firstSeparator 33 = .ok (.invokestatic 48, 3) := by decide +kernel
theorem dX4_firstSeparator_36 : decode cX4_firstSeparator 36 = .ok (.iaload, 1) := by decide +kernel
theorem dX4_firstSeparator_37 : decode cX4_firstSeparator 37 = .ok (.aload_n 0, 1) := by decide +kernel
theorem dX4_firstSeparator_38 : decode cX4_firstSeparator 38 = .ok (.getfield 27, 3) := by decide +kernel
theorem dX4_firstSeparator_41 : decode cX4_firstSeparator 41 = .ok (.iload_n 2, 1) := by decide +kernel
theorem dX4_firstSeparator_42 : decode cX4_firstSeparator 42 = .ok (.invokestatic 48, 3) := by decide +kernel
theorem dX4_firstSeparator_45 : decode cX4_firstSeparator 45 = .ok (.iaload, 1) := by decide +kernel
theorem dX4_firstSeparator_46 : decode cX4_firstSeparator 46 = .ok (.if_icmp .ne 20, 3) := by decide +kernel
theorem dX4_firstSeparator_49 : decode cX4_firstSeparator 49 = .ok (.aload_n 0, 1) := by decide +kernel
theorem dX4_firstSeparator_50 : decode cX4_firstSeparator 50 = .ok (.iload_n 1, 1) := by decide +kernel
theorem dX4_firstSeparator_51 : decode cX4_firstSeparator 51 = .ok (.iload_n 2, 1) := by decide +kernel
theorem dX4_firstSeparator_52 : decode cX4_firstSeparator 52 = .ok (.invokevirtual 84, 3) := by decide +kernel
theorem dX4_firstSeparator_55 : decode cX4_firstSeparator 55 = .ok (.lstore_n 3, 1) := by decide +kernel
theorem dX4_firstSeparator_56 : decode cX4_firstSeparator 56 = .ok (.lload_n 3, 1) := by decide +kernel
theorem dX4_firstSeparator_57 : decode cX4_firstSeparator 57 = .ok (.ldc2_w 43, 3) := by decide +kernel
theorem dX4_firstSeparator_60 : decode cX4_firstSeparator 60 = .ok (.lcmp, 1) := by decide +kernel
theorem dX4_firstSeparator_61 : decode cX4_firstSeparator 61 = .ok (.ifCond .eq 5, 3) := by decide +kernel
theorem dX4_firstSeparator_64 : decode cX4_firstSeparator 64 = .ok (.lload_n 3, 1) := by decide +kernel
theorem dX4_firstSeparator_65 : decode cX4_firstSeparator 65 = .ok (.lreturn, 1) := by decide +kernel
theorem dX4_firstSeparator_66 : decode cX4_firstSeparator 66 = .ok (.iinc 2 1, 3) := by decide +kernel
theorem dX4_firstSeparator_69 : decode cX4_firstSeparator 69 = .ok (.goto (-52), 3) := by decide +kernel
theorem dX4_firstSeparator_72 : decode cX4_firstSeparator 72 = .ok (.iinc 1 1, 3) := by decide +kernel
theorem dX4_firstSeparator_75 : decode cX4_firstSeparator 75 = .ok (.goto (-73), 3) := by decide +kernel
theorem dX4_firstSeparator_78 : decode cX4_firstSeparator 78 = .ok (.ldc2_w 43, 3) := by decide +kernel
theorem dX4_firstSeparator_81 : decode cX4_firstSeparator 81 = .ok (.lreturn, 1) := by decide +kernel
set_option maxRecDepth 100000 in
theorem w_Ta_firstSeparator_J66 {p : Program} {l : Launch} {e : Env} {s : State} {m : MethodId} {args : Array Value} {below : List Frame} {meth : Method} {c : Code} {Q : State → Prop} {A : Nat → Prop} {D : va_G} {cI cJ cZ cO : ClassId} {q_this q_prefixes q_suffixes q_known q_bits q_prefixes_words q_suffixes_words : Nat} {v_letters : Int32} {v_prefixes_size : Int32} {v_prefixes_longest : Int32} {v_suffixes_size : Int32} {v_suffixes_longest : Int32} {v_suffixes_words : (Nat → Int64)} {v_bits : (Nat → Int32)} {x : Int64} {x1 : Int32} {x2 : Int32} (C0 : Cx p s m args c A D cI cJ cZ cO cX4_firstSeparator 5 RX4) (hQ : RtJ p l e rm_Ta_firstSeparator s m args below meth c Q A D cX4_firstSeparator (ws_Ta_firstSeparator cI cJ cZ q_this q_prefixes q_suffixes q_known q_bits q_prefixes_words q_suffixes_words v_letters v_prefixes_size v_prefixes_longest v_suffixes_size v_suffixes_longest v_suffixes_words v_bits) x) {K : Int32 → Option (Int64)} (hK : ∀ (y2 : Int32) (H : Heap) (locs : List Loc) (ls : Array Slot), K y2 = some x → Wd s A D (ws_Ta_firstSeparator cI cJ cZ q_this q_prefixes q_suffixes q_known q_bits q_prefixes_words q_suffixes_words v_letters v_prefixes_size v_prefixes_longest v_suffixes_size v_suffixes_longest v_suffixes_words v_bits) H locs → lv_has ls 5 [(0, .ref q_this), (1, .int x1)] → W p l e rm_Ta_firstSeparator s m args below meth c H locs 0 0 Q (F0 m 72 ls [])) {rec : Int32 → Option (Int64)} (hrec : ∀ (y2 : Int32) (H : Heap) (locs : List Loc) (ls : Array Slot), rec y2 = some x → Wd s A D (ws_Ta_firstSeparator cI cJ cZ q_this q_prefixes q_suffixes q_known q_bits q_prefixes_words q_suffixes_words v_letters v_prefixes_size v_prefixes_longest v_suffixes_size v_suffixes_longest v_suffixes_words v_bits) H locs → lv_has ls 5 [(0, .ref q_this), (1, .int x1), (2, .int y2)] → W p l e rm_Ta_firstSeparator s m args below meth c H locs 0 0 Q (F0 m 17 ls [])) {H : Heap} {locs : List Loc} {ls : Array Slot} (h : f_Ta_firstSeparator_J66 rec x2 = some x) (w : Wd s A D (ws_Ta_firstSeparator cI cJ cZ q_this q_prefixes q_suffixes q_known q_bits q_prefixes_words q_suffixes_words v_letters v_prefixes_size v_prefixes_longest v_suffixes_size v_suffixes_longest v_suffixes_words v_bits) H locs) (hl : lv_has ls 5 [(0, .ref q_this), (1, .int x1), (2, .int x2)]) : W p l e rm_Ta_firstSeparator s m args below meth c H locs 0 0 Q (F0 m 66 ls []) := by
  obtain ⟨hx, hb, hml, hown, hts, -, -⟩ := id C0
  unfold f_Ta_firstSeparator_J66 at h
  obtain ⟨x2_1, ex2_1⟩ : ∃ y : Int32, y = (x2 + 1) := ⟨_, rfl⟩
  have h := bnd_at ex2_1 h
  refine lv_iinc (v := x2_1) (lv' := [(2, .int x2_1), (0, .ref q_this), (1, .int x1)]) hx hb dX4_firstSeparator_66 hl (k := 2) rfl (by rw [ex2_1]; rfl) (by decide) rfl (fun ls hl => ?_)
  refine lv_goto (tgt := 17) hx hb dX4_firstSeparator_69 (by decide) ?_
  exact hrec _ _ _ _ h w (lv_sub hl [1, 2, 0] rfl)
set_option maxRecDepth 100000 in
theorem w_Ta_firstSeparator_L17 {p : Program} {l : Launch} {e : Env} {s : State} {m : MethodId} {args : Array Value} {below : List Frame} {meth : Method} {c : Code} {Q : State → Prop} {A : Nat → Prop} {D : va_G} {cI cJ cZ cO : ClassId} {q_this q_prefixes q_suffixes q_known q_bits q_prefixes_words q_suffixes_words : Nat} {v_letters : Int32} {v_prefixes_size : Int32} {v_prefixes_longest : Int32} {v_suffixes_size : Int32} {v_suffixes_longest : Int32} {v_suffixes_words : (Nat → Int64)} {v_bits : (Nat → Int32)} {x1 : Int32} {x : Int64} (C0 : Cx p s m args c A D cI cJ cZ cO cX4_firstSeparator 5 RX4) (hQ : RtJ p l e rm_Ta_firstSeparator s m args below meth c Q A D cX4_firstSeparator (ws_Ta_firstSeparator cI cJ cZ q_this q_prefixes q_suffixes q_known q_bits q_prefixes_words q_suffixes_words v_letters v_prefixes_size v_prefixes_longest v_suffixes_size v_suffixes_longest v_suffixes_words v_bits) x) {K : Int32 → Option (Int64)} (hK : ∀ (x2 : Int32) (H : Heap) (locs : List Loc) (ls : Array Slot), K x2 = some x → Wd s A D (ws_Ta_firstSeparator cI cJ cZ q_this q_prefixes q_suffixes q_known q_bits q_prefixes_words q_suffixes_words v_letters v_prefixes_size v_prefixes_longest v_suffixes_size v_suffixes_longest v_suffixes_words v_bits) H locs → lv_has ls 5 [(0, .ref q_this), (1, .int x1)] → W p l e rm_Ta_firstSeparator s m args below meth c H locs 0 0 Q (F0 m 72 ls [])) {rec : Int32 → Option (Int64)} (hrec : ∀ (x2 : Int32) (H : Heap) (locs : List Loc) (ls : Array Slot), rec x2 = some x → Wd s A D (ws_Ta_firstSeparator cI cJ cZ q_this q_prefixes q_suffixes q_known q_bits q_prefixes_words q_suffixes_words v_letters v_prefixes_size v_prefixes_longest v_suffixes_size v_suffixes_longest v_suffixes_words v_bits) H locs → lv_has ls 5 [(0, .ref q_this), (1, .int x1), (2, .int x2)] → W p l e rm_Ta_firstSeparator s m args below meth c H locs 0 0 Q (F0 m 17 ls [])) (x2 : Int32) {H : Heap} {locs : List Loc} {ls : Array Slot} (h : f_Ta_firstSeparator_L17 v_letters v_prefixes_size v_suffixes_size v_suffixes_words v_bits x1 K rec x2 = some x) (w : Wd s A D (ws_Ta_firstSeparator cI cJ cZ q_this q_prefixes q_suffixes q_known q_bits q_prefixes_words q_suffixes_words v_letters v_prefixes_size v_prefixes_longest v_suffixes_size v_suffixes_longest v_suffixes_words v_bits) H locs) (hl : lv_has ls 5 [(0, .ref q_this), (1, .int x1), (2, .int x2)]) : W p l e rm_Ta_firstSeparator s m args below meth c H locs 0 0 Q (F0 m 17 ls []) := by
  obtain ⟨hx, hb, hml, hown, hts, -, -⟩ := id C0
  unfold f_Ta_firstSeparator_L17 at h
  refine lv_iload_n hx hb dX4_firstSeparator_17 rfl (lv_at hl 2 rfl) ?_
  refine lv_aload_n hx hb dX4_firstSeparator_18 rfl (lv_at hl 0 rfl) ?_
  refine r_get C0 w 0 rfl kf_Ta 0 (by decide) lf_RX4_14 rfl dX4_firstSeparator_19 ?_
  refine r_get C0 w 1 rfl kf_WL 1 (by decide) lf_RX4_45 rfl dX4_firstSeparator_22 ?_
  refine lv_icmp_ge (tgt := 72) hx hb dX4_firstSeparator_25 (by decide) (fun hc => ?_) (fun hc => ?_)
  · have h := if_h hc h
    exact hK _ _ _ _ h w (lv_sub hl [0, 1] rfl)
  · have h := nf_h hc h
    refine lv_aload_n hx hb dX4_firstSeparator_28 rfl (lv_at hl 0 rfl) ?_
    refine r_get C0 w 0 rfl kf_Ta 3 (by decide) lf_RX4_27 rfl dX4_firstSeparator_29 ?_
    refine lv_iload_n hx hb dX4_firstSeparator_32 rfl (lv_at hl 1 rfl) ?_
    obtain ⟨r, hcall, h⟩ := bd1_h h
    obtain ⟨wr, hp, hp'⟩ := rd_of (ws := (ws_Ta_firstSeparator cI cJ cZ q_this q_prefixes q_suffixes q_known q_bits q_prefixes_words q_suffixes_words v_letters v_prefixes_size v_prefixes_longest v_suffixes_size v_suffixes_longest v_suffixes_words v_bits)) (wc := (ws_Ta_prefixRow cI cJ cZ)) [] rfl rfl
    refine r_SI (r := r) (As := [.int x1]) (rest := [.ref q_bits]) (wc' := (ws_Ta_prefixRow cI cJ cZ)) (ws' := (ws_Ta_firstSeparator cI cJ cZ q_this q_prefixes q_suffixes q_known q_bits q_prefixes_words q_suffixes_words v_letters v_prefixes_size v_prefixes_longest v_suffixes_size v_suffixes_longest v_suffixes_words v_bits)) C0 w (c_Ta_prefixRow hcall) hp hp' lm_RX4_48 ms_Ta_prefixRow ⟨rfl, rfl⟩ ⟨by decide, by decide⟩ ⟨Nat.zero_le _, Nat.zero_le _⟩ rfl hl rfl (Nat.le_of_ble_eq_true rfl) dX4_firstSeparator_33 (fun H locs w => ?_)
    obtain ⟨hi, h⟩ := gIn_h h
    refine r_iald C0 w 4 rfl rfl hi dX4_firstSeparator_36 ?_
    refine lv_aload_n hx hb dX4_firstSeparator_37 rfl (lv_at hl 0 rfl) ?_
    refine r_get C0 w 0 rfl kf_Ta 3 (by decide) lf_RX4_27 rfl dX4_firstSeparator_38 ?_
    refine lv_iload_n hx hb dX4_firstSeparator_41 rfl (lv_at hl 2 rfl) ?_
    obtain ⟨r_1, hcall, h⟩ := bd1_h h
    obtain ⟨wr, hp, hp'⟩ := rd_of (ws := (ws_Ta_firstSeparator cI cJ cZ q_this q_prefixes q_suffixes q_known q_bits q_prefixes_words q_suffixes_words v_letters v_prefixes_size v_prefixes_longest v_suffixes_size v_suffixes_longest v_suffixes_words v_bits)) (wc := (ws_Ta_prefixRow cI cJ cZ)) [] rfl rfl
    refine r_SI (r := r_1) (As := [.int x2]) (rest := [.ref q_bits, .int (v_bits r.toNatClampNeg)]) (wc' := (ws_Ta_prefixRow cI cJ cZ)) (ws' := (ws_Ta_firstSeparator cI cJ cZ q_this q_prefixes q_suffixes q_known q_bits q_prefixes_words q_suffixes_words v_letters v_prefixes_size v_prefixes_longest v_suffixes_size v_suffixes_longest v_suffixes_words v_bits)) C0 w (c_Ta_prefixRow hcall) hp hp' lm_RX4_48 ms_Ta_prefixRow ⟨rfl, rfl⟩ ⟨by decide, by decide⟩ ⟨Nat.zero_le _, Nat.zero_le _⟩ rfl hl rfl (Nat.le_of_ble_eq_true rfl) dX4_firstSeparator_42 (fun H locs w => ?_)
    obtain ⟨hi, h⟩ := gIn_h h
    refine r_iald C0 w 4 rfl rfl hi dX4_firstSeparator_45 ?_
    refine lv_icmp_ne (tgt := 66) hx hb dX4_firstSeparator_46 (by decide) (fun hc => ?_) (fun hc => ?_)
    · have h := nf_h hc h
      exact w_Ta_firstSeparator_J66 C0 hQ hK hrec h w (lv_sub hl [0, 1, 2] rfl)
    · have h := if_h hc h
      refine lv_aload_n hx hb dX4_firstSeparator_49 rfl (lv_at hl 0 rfl) ?_
      refine lv_iload_n hx hb dX4_firstSeparator_50 rfl (lv_at hl 1 rfl) ?_
      refine lv_iload_n hx hb dX4_firstSeparator_51 rfl (lv_at hl 2 rfl) ?_
      obtain ⟨r_2, hcall, h⟩ := bd1_h h
      obtain ⟨wr, hp, hp'⟩ := rd_of (ws := (ws_Ta_firstSeparator cI cJ cZ q_this q_prefixes q_suffixes q_known q_bits q_prefixes_words q_suffixes_words v_letters v_prefixes_size v_prefixes_longest v_suffixes_size v_suffixes_longest v_suffixes_words v_bits)) (wc := (ws_Ta_separatorOf cI cJ cZ q_this q_prefixes q_suffixes q_known q_bits q_suffixes_words v_letters v_suffixes_size v_suffixes_longest v_suffixes_words v_bits)) [0, 2, 3, 4] rfl rfl
      refine r_VJ (r := r_2) (As := [.int x1, .int x2]) (rest := []) (wc' := (ws_Ta_separatorOf cI cJ cZ q_this q_prefixes q_suffixes q_known q_bits q_suffixes_words v_letters v_suffixes_size v_suffixes_longest v_suffixes_words v_bits)) (ws' := (ws_Ta_firstSeparator cI cJ cZ q_this q_prefixes q_suffixes q_known q_bits q_prefixes_words q_suffixes_words v_letters v_prefixes_size v_prefixes_longest v_suffixes_size v_suffixes_longest v_suffixes_words v_bits)) C0 w (c_Ta_separatorOf hcall) hp hp' lm_RX4_84 mv_Ta_separatorOf ⟨rfl, rfl⟩ ⟨by decide, by decide⟩ ⟨Nat.zero_le _, Nat.zero_le _⟩ (q0 := 0) rfl rfl rfl rfl hl rfl (Nat.le_of_ble_eq_true rfl) dX4_firstSeparator_52 (fun H locs w => ?_)
      refine lv_lstore_n (lv' := [(3, .long r_2), (0, .ref q_this), (1, .int x1), (2, .int x2)]) hx hb dX4_firstSeparator_55 rfl hl (by decide) rfl (fun ls hl => ?_)
      refine lv_lload_n hx hb dX4_firstSeparator_56 rfl (lv_at hl 0 rfl) ?_
      refine lv_ldc2 (v := (-1 : Int64)) hx hb hown (hts _ ll_RX4_43) dX4_firstSeparator_57 ?_
      refine r_lc_eq (tgt := 66) hx hb dX4_firstSeparator_60 dX4_firstSeparator_61 (by decide) (fun hc => ?_) (fun hc => ?_)
      · have h := if_h hc h
        exact w_Ta_firstSeparator_J66 C0 hQ hK hrec h w (lv_sub hl [1, 2, 3] rfl)
      · have h := nf_h hc h
        refine lv_lload_n hx hb dX4_firstSeparator_64 rfl (lv_at hl 0 rfl) ?_
        cases h
        exact hQ _ _ _ _ dX4_firstSeparator_65 w
set_option maxRecDepth 100000 in
theorem wl_Ta_firstSeparator_L17 {p : Program} {l : Launch} {e : Env} {s : State} {m : MethodId} {args : Array Value} {below : List Frame} {meth : Method} {c : Code} {Q : State → Prop} {A : Nat → Prop} {D : va_G} {cI cJ cZ cO : ClassId} {q_this q_prefixes q_suffixes q_known q_bits q_prefixes_words q_suffixes_words : Nat} {v_letters : Int32} {v_prefixes_size : Int32} {v_prefixes_longest : Int32} {v_suffixes_size : Int32} {v_suffixes_longest : Int32} {v_suffixes_words : (Nat → Int64)} {v_bits : (Nat → Int32)} {x1 : Int32} {x : Int64} (C0 : Cx p s m args c A D cI cJ cZ cO cX4_firstSeparator 5 RX4) (hQ : RtJ p l e rm_Ta_firstSeparator s m args below meth c Q A D cX4_firstSeparator (ws_Ta_firstSeparator cI cJ cZ q_this q_prefixes q_suffixes q_known q_bits q_prefixes_words q_suffixes_words v_letters v_prefixes_size v_prefixes_longest v_suffixes_size v_suffixes_longest v_suffixes_words v_bits) x) {K : Int32 → Option (Int64)} (hK : ∀ (x2 : Int32) (H : Heap) (locs : List Loc) (ls : Array Slot), K x2 = some x → Wd s A D (ws_Ta_firstSeparator cI cJ cZ q_this q_prefixes q_suffixes q_known q_bits q_prefixes_words q_suffixes_words v_letters v_prefixes_size v_prefixes_longest v_suffixes_size v_suffixes_longest v_suffixes_words v_bits) H locs → lv_has ls 5 [(0, .ref q_this), (1, .int x1)] → W p l e rm_Ta_firstSeparator s m args below meth c H locs 0 0 Q (F0 m 72 ls [])) : ∀ (n : Nat) (x2 : Int32) (H : Heap) (locs : List Loc) (ls : Array Slot), itr (fun _ => none) (f_Ta_firstSeparator_L17 v_letters v_prefixes_size v_suffixes_size v_suffixes_words v_bits x1 K) n x2 = some x → Wd s A D (ws_Ta_firstSeparator cI cJ cZ q_this q_prefixes q_suffixes q_known q_bits q_prefixes_words q_suffixes_words v_letters v_prefixes_size v_prefixes_longest v_suffixes_size v_suffixes_longest v_suffixes_words v_bits) H locs → lv_has ls 5 [(0, .ref q_this), (1, .int x1), (2, .int x2)] → W p l e rm_Ta_firstSeparator s m args below meth c H locs 0 0 Q (F0 m 17 ls []) := by
  intro n
  induction n with
  | zero => intro _ _ _ _ h; cases (show none = some _ from h)
  | succ n ih => intro _ _ _ _ h w hl; exact w_Ta_firstSeparator_L17 C0 hQ hK ih _ h w hl
set_option maxRecDepth 100000 in
theorem w_Ta_firstSeparator_L2 {p : Program} {l : Launch} {e : Env} {s : State} {m : MethodId} {args : Array Value} {below : List Frame} {meth : Method} {c : Code} {Q : State → Prop} {A : Nat → Prop} {D : va_G} {cI cJ cZ cO : ClassId} {q_this q_prefixes q_suffixes q_known q_bits q_prefixes_words q_suffixes_words : Nat} {v_letters : Int32} {v_prefixes_size : Int32} {v_prefixes_longest : Int32} {v_suffixes_size : Int32} {v_suffixes_longest : Int32} {v_suffixes_words : (Nat → Int64)} {v_bits : (Nat → Int32)} {x : Int64} (C0 : Cx p s m args c A D cI cJ cZ cO cX4_firstSeparator 5 RX4) (hQ : RtJ p l e rm_Ta_firstSeparator s m args below meth c Q A D cX4_firstSeparator (ws_Ta_firstSeparator cI cJ cZ q_this q_prefixes q_suffixes q_known q_bits q_prefixes_words q_suffixes_words v_letters v_prefixes_size v_prefixes_longest v_suffixes_size v_suffixes_longest v_suffixes_words v_bits) x) {K : Int32 → Option (Int64)} (hK : ∀ (x1 : Int32) (H : Heap) (locs : List Loc) (ls : Array Slot), K x1 = some x → Wd s A D (ws_Ta_firstSeparator cI cJ cZ q_this q_prefixes q_suffixes q_known q_bits q_prefixes_words q_suffixes_words v_letters v_prefixes_size v_prefixes_longest v_suffixes_size v_suffixes_longest v_suffixes_words v_bits) H locs → lv_has ls 5 [] → W p l e rm_Ta_firstSeparator s m args below meth c H locs 0 0 Q (F0 m 78 ls [])) {rec : Int32 → Option (Int64)} (hrec : ∀ (x1 : Int32) (H : Heap) (locs : List Loc) (ls : Array Slot), rec x1 = some x → Wd s A D (ws_Ta_firstSeparator cI cJ cZ q_this q_prefixes q_suffixes q_known q_bits q_prefixes_words q_suffixes_words v_letters v_prefixes_size v_prefixes_longest v_suffixes_size v_suffixes_longest v_suffixes_words v_bits) H locs → lv_has ls 5 [(0, .ref q_this), (1, .int x1)] → W p l e rm_Ta_firstSeparator s m args below meth c H locs 0 0 Q (F0 m 2 ls [])) (x1 : Int32) {H : Heap} {locs : List Loc} {ls : Array Slot} (h : f_Ta_firstSeparator_L2 v_letters v_prefixes_size v_suffixes_size v_suffixes_words v_bits K rec x1 = some x) (w : Wd s A D (ws_Ta_firstSeparator cI cJ cZ q_this q_prefixes q_suffixes q_known q_bits q_prefixes_words q_suffixes_words v_letters v_prefixes_size v_prefixes_longest v_suffixes_size v_suffixes_longest v_suffixes_words v_bits) H locs) (hl : lv_has ls 5 [(0, .ref q_this), (1, .int x1)]) : W p l e rm_Ta_firstSeparator s m args below meth c H locs 0 0 Q (F0 m 2 ls []) := by
  obtain ⟨hx, hb, hml, hown, hts, -, -⟩ := id C0
  unfold f_Ta_firstSeparator_L2 at h
  refine lv_iload_n hx hb dX4_firstSeparator_2 rfl (lv_at hl 1 rfl) ?_
  refine lv_aload_n hx hb dX4_firstSeparator_3 rfl (lv_at hl 0 rfl) ?_
  refine r_get C0 w 0 rfl kf_Ta 0 (by decide) lf_RX4_14 rfl dX4_firstSeparator_4 ?_
  refine r_get C0 w 1 rfl kf_WL 1 (by decide) lf_RX4_45 rfl dX4_firstSeparator_7 ?_
  refine lv_icmp_ge (tgt := 78) hx hb dX4_firstSeparator_10 (by decide) (fun hc => ?_) (fun hc => ?_)
  · have h := if_h hc h
    exact hK _ _ _ _ h w (lv_sub hl [] rfl)
  · have h := nf_h hc h
    refine lv_iload_n hx hb dX4_firstSeparator_13 rfl (lv_at hl 1 rfl) ?_
    refine lv_iconst (v := (1 : Int32)) hx hb dX4_firstSeparator_14 (by decide) ?_
    refine lv_iadd hx hb dX4_firstSeparator_15 ?_
    refine lv_topi (fun x2 ex2 => ?_)
    have h := bnd_at ex2 h
    refine lv_istore_n (lv' := [(2, .int x2), (0, .ref q_this), (1, .int x1)]) hx hb dX4_firstSeparator_16 rfl hl (by decide) rfl (fun ls hl => ?_)
    refine wl_Ta_firstSeparator_L17 C0 hQ (fun x2_1 H locs ls h w hl => ?_) _ _ _ _ _ h w (lv_sub hl [1, 2, 0] rfl)
    obtain ⟨x1_1, ex1_1⟩ : ∃ y : Int32, y = (x1 + 1) := ⟨_, rfl⟩
    have h := bnd_at ex1_1 h
    refine lv_iinc (v := x1_1) (lv' := [(1, .int x1_1), (0, .ref q_this)]) hx hb dX4_firstSeparator_72 hl (k := 1) rfl (by rw [ex1_1]; rfl) (by decide) rfl (fun ls hl => ?_)
    refine lv_goto (tgt := 2) hx hb dX4_firstSeparator_75 (by decide) ?_
    exact hrec _ _ _ _ h w (lv_sub hl [1, 0] rfl)
set_option maxRecDepth 100000 in
theorem wl_Ta_firstSeparator_L2 {p : Program} {l : Launch} {e : Env} {s : State} {m : MethodId} {args : Array Value} {below : List Frame} {meth : Method} {c : Code} {Q : State → Prop} {A : Nat → Prop} {D : va_G} {cI cJ cZ cO : ClassId} {q_this q_prefixes q_suffixes q_known q_bits q_prefixes_words q_suffixes_words : Nat} {v_letters : Int32} {v_prefixes_size : Int32} {v_prefixes_longest : Int32} {v_suffixes_size : Int32} {v_suffixes_longest : Int32} {v_suffixes_words : (Nat → Int64)} {v_bits : (Nat → Int32)} {x : Int64} (C0 : Cx p s m args c A D cI cJ cZ cO cX4_firstSeparator 5 RX4) (hQ : RtJ p l e rm_Ta_firstSeparator s m args below meth c Q A D cX4_firstSeparator (ws_Ta_firstSeparator cI cJ cZ q_this q_prefixes q_suffixes q_known q_bits q_prefixes_words q_suffixes_words v_letters v_prefixes_size v_prefixes_longest v_suffixes_size v_suffixes_longest v_suffixes_words v_bits) x) {K : Int32 → Option (Int64)} (hK : ∀ (x1 : Int32) (H : Heap) (locs : List Loc) (ls : Array Slot), K x1 = some x → Wd s A D (ws_Ta_firstSeparator cI cJ cZ q_this q_prefixes q_suffixes q_known q_bits q_prefixes_words q_suffixes_words v_letters v_prefixes_size v_prefixes_longest v_suffixes_size v_suffixes_longest v_suffixes_words v_bits) H locs → lv_has ls 5 [] → W p l e rm_Ta_firstSeparator s m args below meth c H locs 0 0 Q (F0 m 78 ls [])) : ∀ (n : Nat) (x1 : Int32) (H : Heap) (locs : List Loc) (ls : Array Slot), itr (fun _ => none) (f_Ta_firstSeparator_L2 v_letters v_prefixes_size v_suffixes_size v_suffixes_words v_bits K) n x1 = some x → Wd s A D (ws_Ta_firstSeparator cI cJ cZ q_this q_prefixes q_suffixes q_known q_bits q_prefixes_words q_suffixes_words v_letters v_prefixes_size v_prefixes_longest v_suffixes_size v_suffixes_longest v_suffixes_words v_bits) H locs → lv_has ls 5 [(0, .ref q_this), (1, .int x1)] → W p l e rm_Ta_firstSeparator s m args below meth c H locs 0 0 Q (F0 m 2 ls []) := by
  intro n
  induction n with
  | zero => intro _ _ _ _ h; cases (show none = some _ from h)
  | succ n ih => intro _ _ _ _ h w hl; exact w_Ta_firstSeparator_L2 C0 hQ hK ih _ h w hl
set_option maxRecDepth 100000 in
theorem c_Ta_firstSeparator {l : Launch} {D : va_G} {cI cJ cZ cO : ClassId} {q_this q_prefixes q_suffixes q_known q_bits q_prefixes_words q_suffixes_words : Nat} {v_letters : Int32} {v_prefixes_size : Int32} {v_prefixes_longest : Int32} {v_suffixes_size : Int32} {v_suffixes_longest : Int32} {v_suffixes_words : (Nat → Int64)} {v_bits : (Nat → Int32)} {x : Int64} (h : f_Ta_firstSeparator v_letters v_prefixes_size v_suffixes_size v_suffixes_words v_bits = some x) : ctJ l D cI cJ cZ cO yX4_firstSeparator cX4_firstSeparator 5 rm_Ta_firstSeparator [.ref q_this] (ws_Ta_firstSeparator cI cJ cZ q_this q_prefixes q_suffixes q_known q_bits q_prefixes_words q_suffixes_words v_letters v_prefixes_size v_prefixes_longest v_suffixes_size v_suffixes_longest v_suffixes_words v_bits) (ws_Ta_firstSeparator cI cJ cZ q_this q_prefixes q_suffixes q_known q_bits q_prefixes_words q_suffixes_words v_letters v_prefixes_size v_prefixes_longest v_suffixes_size v_suffixes_longest v_suffixes_words v_bits) x := by
  refine ctJ_of (by decide) (Nat.le_of_ble_eq_true rfl) ?_
  intro p e s m below meth c Q A ls C0 hQ w hl
  have hl : lv_has ls 5 [(0, .ref q_this)] := hl
  generalize List.toArray (α := Value) [.ref q_this] = args at C0 hQ ⊢
  obtain ⟨hx, hb, hml, hown, hts, -, -⟩ := id C0
  unfold f_Ta_firstSeparator at h
  refine lv_iconst (v := (0 : Int32)) hx hb dX4_firstSeparator_0 (by decide) ?_
  refine lv_istore_n (lv' := [(1, .int (0 : Int32)), (0, .ref q_this)]) hx hb dX4_firstSeparator_1 rfl hl (by decide) rfl (fun ls hl => ?_)
  refine wl_Ta_firstSeparator_L2 C0 hQ (fun x1 H locs ls h w hl => ?_) _ _ _ _ _ h w (lv_sub hl [1, 0] rfl)
  refine lv_ldc2 (v := (-1 : Int64)) hx hb hown (hts _ ll_RX4_43) dX4_firstSeparator_78 ?_
  cases h
  exact hQ _ _ _ _ dX4_firstSeparator_81 w
theorem dX1_doStep_0 : decode cX1_doStep 0 = .ok (.aload_n 0, 1) := by decide +kernel
theorem dX1_doStep_1 : decode cX1_doStep 1 = .ok (.getfield 58, 3) := by decide +kernel
theorem dX1_doStep_4 : decode cX1_doStep 4 = .ok (.ifCond .eq 6, 3) := by decide +kernel
theorem dX1_doStep_7 : decode cX1_doStep 7 = .ok (.bipush 7, 2) := by decide +kernel
theorem dX1_doStep_9 : decode cX1_doStep 9 = .ok (.ireturn, 1) := by decide +kernel
theorem dX1_doStep_10 : decode cX1_doStep 10 = .ok (.aload_n 0, 1) := by decide +kernel
theorem dX1_doStep_11 : decode cX1_doStep 11 = .ok (.getfield 21, 3) := by decide +kernel
theorem dX1_doStep_14 : decode cX1_doStep 14 = .ok (.aload_n 0, 1) := by decide +kernel
theorem dX1_doStep_15 : decode cX1_doStep 15 = .ok (.getfield 12, 3) := by decide +kernel
theorem dX1_doStep_18 : decode cX1_doStep 18 = .ok (.invokevirtual 83, 3) := by decide +kernel
theorem dX1_doStep_21 : decode cX1_doStep 21 = .ok (.lstore_n 3, 1) := by decide +kernel
theorem dX1_doStep_22 : decode cX1_doStep 22 = .ok (.lload_n 3, 1) := by decide +kernel
theorem dX1_doStep_23 : decode cX1_doStep 23 = .ok (.ldc2_w 49, 3) := by decide +kernel
theorem dX1_doStep_26 : decode cX1_doStep 26 = .ok (.lcmp, 1) := by decide +kernel
theorem dX1_doStep_27 : decode cX1_doStep 27 = .ok (.ifCond .eq 21, 3) := by decide +kernel
theorem dX1_doStep_30 : decode cX1_doStep 30 = .ok (.aload_n 0, 1) := by decide +kernel
theorem dX1_doStep_31 : decode cX1_doStep 31 = .ok (.lload_n 3, 1) := by decide +kernel
theorem dX1_doStep_32 : decode cX1_doStep 32 = .ok (.aload_n 1, 1) := by decide +kernel
theorem dX1_doStep_33 : decode cX1_doStep 33 = .ok (.invokevirtual 87, 3) := by decide +kernel
theorem dX1_doStep_36 : decode cX1_doStep 36 = .ok (.bipush (-4), 2) := by decide +kernel
theorem dX1_doStep_38 : decode cX1_doStep 38 = .ok (.if_icmp .ne 8, 3) := by decide +kernel
theorem dX1_doStep_41 : decode cX1_doStep 41 = .ok (.bipush (-4), 2) := by decide +kernel
theorem dX1_doStep_43 : decode cX1_doStep 43 = .ok (.goto 4, 3) := by decide +kernel
theorem dX1_doStep_46 : decode cX1_doStep 46 = .ok (.iconst 1, 1) := by decide +kernel
theorem dX1_doStep_47 : decode cX1_doStep 47 = .ok (.ireturn, 1) := by decide +kernel
theorem dX1_doStep_48 : decode cX1_doStep 48 = .ok (.aload_n 0, 1) := by decide +kernel
theorem dX1_doStep_49 : decode cX1_doStep 49 = .ok (.getfield 21, 3) := by decide +kernel
theorem dX1_doStep_52 : decode cX1_doStep 52 = .ok (.invokevirtual 91, 3) := by decide +kernel
theorem dX1_doStep_55 : decode cX1_doStep 55 = .ok (.lstore 5, 2) := by decide +kernel
theorem dX1_doStep_57 : decode cX1_doStep 57 = .ok (.lload 5, 2) := by decide +kernel
theorem dX1_doStep_59 : decode cX1_doStep 59 = .ok (.ldc2_w 49, 3) := by decide +kernel
theorem dX1_doStep_62 : decode cX1_doStep 62 = .ok (.lcmp, 1) := by decide +kernel
theorem dX1_doStep_63 : decode cX1_doStep 63 = .ok (.ifCond .eq 22, 3) := by decide +kernel
theorem dX1_doStep_66 : decode cX1_doStep 66 = .ok (.aload_n 0, 1) := by decide +kernel
theorem dX1_doStep_67 : decode cX1_doStep 67 = .ok (.iconst 0, 1) := by decide +kernel
theorem dX1_doStep_68 : decode cX1_doStep 68 = .ok (.lload 5, 2) := by decide +kernel
theorem dX1_doStep_70 : decode cX1_doStep 70 = .ok (.invokevirtual 95, 3) := by decide +kernel
theorem dX1_doStep_73 : decode cX1_doStep 73 = .ok (.bipush (-5), 2) := by decide +kernel
theorem dX1_doStep_75 : decode cX1_doStep 75 = .ok (.if_icmp .ne 8, 3) := by decide +kernel
theorem dX1_doStep_78 : decode cX1_doStep 78 = .ok (.bipush (-5), 2) := by decide +kernel
theorem dX1_doStep_80 : decode cX1_doStep 80 = .ok (.goto 4, 3) := by decide +kernel
theorem dX1_doStep_83 : decode cX1_doStep 83 = .ok (.iconst 2, 1) := by decide +kernel
theorem dX1_doStep_84 : decode cX1_doStep 84 = .ok (.ireturn, 1) := by decide +kernel
theorem dX1_doStep_85 : decode cX1_doStep 85 = .ok (.aload_n 0, 1) := by decide +kernel
theorem dX1_doStep_86 : decode cX1_doStep 86 = .ok (.getfield 21, 3) := by decide +kernel
theorem dX1_doStep_89 : decode cX1_doStep 89 = .ok (.invokevirtual 99, 3) := by decide +kernel
theorem dX1_doStep_92 : decode cX1_doStep 92 = .ok (.lstore 7, 2) := by decide +kernel
theorem dX1_doStep_94 : decode cX1_doStep 94 = .ok (.lload 7, 2) := by decide +kernel
theorem dX1_doStep_96 : decode cX1_doStep 96 = .ok (.ldc2_w 49, 3) := by decide +kernel
theorem dX1_doStep_99 : decode cX1_doStep 99 = .ok (.lcmp, 1) := by decide +kernel
theorem dX1_doStep_100 : decode cX1_doStep 100 = .ok (.ifCond .eq 22, 3) := by decide +kernel
theorem dX1_doStep_103 : decode cX1_doStep 103 = .ok (.aload_n 0, 1) := by decide +kernel
theorem dX1_doStep_104 : decode cX1_doStep 104 = .ok (.iconst 1, 1) := by decide +kernel
theorem dX1_doStep_105 : decode cX1_doStep 105 = .ok (.lload 7, 2) := by decide +kernel
theorem dX1_doStep_107 : decode cX1_doStep 107 = .ok (.invokevirtual 95, 3) := by decide +kernel
theorem dX1_doStep_110 : decode cX1_doStep 110 = .ok (.bipush (-5), 2) := by decide +kernel
theorem dX1_doStep_112 : decode cX1_doStep 112 = .ok (.if_icmp .ne 8, 3) := by decide +kernel
theorem dX1_doStep_115 : decode cX1_doStep 115 = .ok (.bipush (-5), 2) := by decide +kernel
theorem dX1_doStep_117 : decode cX1_doStep 117 = .ok (.goto 4, 3) := by decide +kernel
theorem dX1_doStep_120 : decode cX1_doStep 120 = .ok (.iconst 3, 1) := by decide +kernel
theorem dX1_doStep_121 : decode cX1_doStep 121 = .ok (.ireturn, 1) := by decide +kernel
theorem dX1_doStep_122 : decode cX1_doStep 122 = .ok (.aload_n 0, 1) := by decide +kernel
theorem dX1_doStep_123 : decode cX1_doStep 123 = .ok (.getfield 45, 3) := by decide +kernel
theorem dX1_doStep_126 : decode cX1_doStep 126 = .ok (.ifCond .ne 9, 3) := by decide +kernel
theorem dX1_doStep_129 : decode cX1_doStep 129 = .ok (.aload_n 0, 1) := by decide +kernel
theorem dX1_doStep_130 : decode cX1_doStep 130 = .ok (.invokevirtual 102, 3) := by decide +kernel
theorem dX1_doStep_133 : decode cX1_doStep 133 = .ok (.iconst 4, 1) := by decide +kernel
theorem dX1_doStep_134 : decode cX1_doStep 134 = .ok (.ireturn, 1) := by decide +kernel
theorem dX1_doStep_135 : decode cX1_doStep 135 = .ok (.aload_n 2, 1) := by decide +kernel
theorem dX1_doStep_136 : decode cX1_doStep 136 = .ok (.aload_n 0, 1) := by decide +kernel
theorem dX1_doStep_137 : decode cX1_doStep 137 = .ok (.getfield 30, 3) := by decide +kernel
theorem dX1_doStep_140 : decode cX1_doStep 140 = .ok (.iconst 0, 1) := by decide +kernel
theorem dX1_doStep_141 : decode cX1_doStep 141 = .ok (.aload_n 1, 1) := by decide +kernel
theorem dX1_doStep_142 : decode cX1_doStep 142 = .ok (.getfield 105, 3) := by decide +kernel
theorem dX1_doStep_145 : decode cX1_doStep 145 = .ok (.iconst 0, 1) := by decide +kernel
theorem dX1_doStep_146 : decode cX1_doStep 146 = .ok (.invokevirtual 108, 3) := by decide +kernel
theorem dX1_doStep_149 : decode cX1_doStep 149 = .ok (.ifCond .ne 6, 3) := by decide +kernel
theorem dX1_doStep_152 : decode cX1_doStep 152 = .ok (.bipush 6, 2) := by decide +kernel
theorem dX1_doStep_154 : decode cX1_doStep 154 = .ok (.ireturn, 1) := by decide +kernel
theorem dX1_doStep_155 : decode cX1_doStep 155 = .ok (.aload_n 2, 1) := by decide +kernel
theorem dX1_doStep_156 : decode cX1_doStep 156 = .ok (.getfield 114, 3) := by decide +kernel
theorem dX1_doStep_159 : decode cX1_doStep 159 = .ok (.bipush 16, 2) := by decide +kernel
theorem dX1_doStep_161 : decode cX1_doStep 161 = .ok (.if_icmp .le 6, 3) := by decide +kernel
theorem dX1_doStep_164 : decode cX1_doStep 164 = .ok (.bipush (-5), 2) := by decide +kernel
theorem dX1_doStep_166 : decode cX1_doStep 166 = .ok (.ireturn, 1) := by decide +kernel
theorem dX1_doStep_167 : decode cX1_doStep 167 = .ok (.aload_n 2, 1) := by decide +kernel
theorem dX1_doStep_168 : decode cX1_doStep 168 = .ok (.invokevirtual 117, 3) := by decide +kernel
theorem dX1_doStep_171 : decode cX1_doStep 171 = .ok (.lstore 9, 2) := by decide +kernel
theorem dX1_doStep_173 : decode cX1_doStep 173 = .ok (.aload_n 0, 1) := by decide +kernel
theorem dX1_doStep_174 : decode cX1_doStep 174 = .ok (.getfield 38, 3) := by decide +kernel
theorem dX1_doStep_177 : decode cX1_doStep 177 = .ok (.iconst 1, 1) := by decide +kernel
theorem dX1_doStep_178 : decode cX1_doStep 178 = .ok (.if_icmp .ne 13, 3) := by decide +kernel
theorem dX1_doStep_181 : decode cX1_doStep 181 = .ok (.aload_n 0, 1) := by decide +kernel
theorem dX1_doStep_182 : decode cX1_doStep 182 = .ok (.lload 9, 2) := by decide +kernel
theorem dX1_doStep_184 : decode cX1_doStep 184 = .ok (.aload_n 1, 1) := by decide +kernel
theorem dX1_doStep_185 : decode cX1_doStep 185 = .ok (.invokevirtual 120, 3) := by decide +kernel
theorem dX1_doStep_188 : decode cX1_doStep 188 = .ok (.goto 22, 3) := by decide +kernel
theorem dX1_doStep_191 : decode cX1_doStep 191 = .ok (.aload_n 0, 1) := by decide +kernel
theorem dX1_doStep_192 : decode cX1_doStep 192 = .ok (.aload_n 0, 1) := by decide +kernel
theorem dX1_doStep_193 : decode cX1_doStep 193 = .ok (.getfield 38, 3) := by decide +kernel
theorem dX1_doStep_196 : decode cX1_doStep 196 = .ok (.iconst 2, 1) := by decide +kernel
theorem dX1_doStep_197 : decode cX1_doStep 197 = .ok (.if_icmp .ne 7, 3) := by decide +kernel
theorem dX1_doStep_200 : decode cX1_doStep 200 = .ok (.iconst 1, 1) := by decide +kernel
theorem dX1_doStep_201 : decode cX1_doStep 201 = .ok (.goto 4, 3) := by decide +kernel
theorem dX1_doStep_204 : decode cX1_doStep 204 = .ok (.iconst 0, 1) := by decide +kernel
theorem dX1_doStep_205 : decode cX1_doStep 205 = .ok (.lload 9, 2) := by decide +kernel
theorem dX1_doStep_207 : decode cX1_doStep 207 = .ok (.invokevirtual 123, 3) := by decide +kernel
theorem dX1_doStep_210 : decode cX1_doStep 210 = .ok (.istore 11, 2) := by decide +kernel
theorem dX1_doStep_212 : decode cX1_doStep 212 = .ok (.iload 11, 2) := by decide +kernel
theorem dX1_doStep_214 : decode cX1_doStep 214 = .ok (.ifCond .ge 8, 3) := by decide +kernel
theorem dX1_doStep_217 : decode cX1_doStep 217 = .ok (.iload 11, 2) := by decide +kernel
theorem dX1_doStep_219 : decode cX1_doStep 219 = .ok (.goto 11, 3) := by decide +kernel
theorem dX1_doStep_222 : decode cX1_doStep 222 = .ok (.aload_n 0, 1) := by decide +kernel
theorem dX1_doStep_223 : decode cX1_doStep 223 = .ok (.lload 9, 2) := by decide +kernel
theorem dX1_doStep_225 : decode cX1_doStep 225 = .ok (.iload 11, 2) := by decide +kernel
theorem dX1_doStep_227 : decode cX1_doStep 227 = .ok (.invokevirtual 126, 3) := by decide +kernel
theorem dX1_doStep_230 : decode cX1_doStep 230 = .ok (.ireturn, 1) := by decide +kernel
set_option maxRecDepth 100000 in
theorem w_Le_doStep_J210 {p : Program} {l : Launch} {e : Env} {s : State} {m : MethodId} {args : Array Value} {below : List Frame} {meth : Method} {c : Code} {Q : State → Prop} {A : Nat → Prop} {D : va_G} {cI cJ cZ cO : ClassId} {q_this q_asked q_table q_hypothesis q_representatives q_asked_entries q_table_prefixes q_table_suffixes q_table_known q_table_bits q_table_prefixes_words q_table_suffixes_words q_hypothesis_moves q_hypothesis_finals q_o1 q_o1_machine q_o1_lies q_o1_machine_moves q_o1_machine_finals q_o2 q_o2_seen q_o2_queue q_o2_origin q_o2_arrival q_o2_letters : Nat} {v_mode : Int32} {v_budget : Int32} {v_formed : Int32} {v_counterexample : Int64} {v_corrections : Int32} {v_deceived : Int32} {v_asked_size : Int32} {v_asked_entries : (Nat → Int64)} {v_table_letters : Int32} {v_table_prefixes_size : Int32} {v_table_prefixes_longest : Int32} {v_table_prefixes_words : (Nat → Int64)} {v_table_suffixes_size : Int32} {v_table_suffixes_longest : Int32} {v_table_suffixes_words : (Nat → Int64)} {v_table_known : (Nat → Int32)} {v_table_bits : (Nat → Int32)} {v_hypothesis_size : Int32} {v_hypothesis_letters : Int32} {v_hypothesis_moves : (Nat → Int32)} {v_hypothesis_finals : (Nat → Int32)} {v_representatives : (Nat → Int32)} {v_o1_lieCount : Int32} {v_o1_machine_size : Int32} {v_o1_machine_letters : Int32} {v_o1_machine_moves : (Nat → Int32)} {v_o1_machine_finals : (Nat → Int32)} {v_o1_lies : (Nat → Int64)} {v_o2_length : Int32} {v_o2_queued : Int32} {v_o2_seen : (Nat → Int32)} {v_o2_queue : (Nat → Int32)} {v_o2_origin : (Nat → Int32)} {v_o2_arrival : (Nat → Int32)} {v_o2_letters : (Nat → Int32)} {x : Int32 × (Nat → Int64) × Int32 × (Nat → Int64) × Int32 × Int32 × (Nat → Int64) × Int32 × Int32 × (Nat → Int32) × (Nat → Int32) × (Nat → Int32) × (Nat → Int32) × Int32 × Int32 × (Nat → Int32) × Int32 × Int64 × Int32 × Int32 × (Nat → Int32) × (Nat → Int32) × (Nat → Int32) × (Nat → Int32) × (Nat → Int32) × Int32 × Int32} {x9 : Int64} {s0 : Int32} (C0 : Cx p s m args c A D cI cJ cZ cO cX1_doStep 12 RX1) (hQ : RtI p l e rm_Le_doStep s m args below meth c Q A D cX1_doStep .int (ws_Le_doStep cI cJ cZ q_this q_asked q_table q_hypothesis q_representatives q_asked_entries q_table_prefixes q_table_suffixes q_table_known q_table_bits q_table_prefixes_words q_table_suffixes_words q_hypothesis_moves q_hypothesis_finals q_o1 q_o1_machine q_o1_lies q_o1_machine_moves q_o1_machine_finals q_o2 q_o2_seen q_o2_queue q_o2_origin q_o2_arrival q_o2_letters v_mode v_budget x.2.2.2.2.2.2.2.2.2.2.2.2.2.2.2.2.1 x.2.2.2.2.2.2.2.2.2.2.2.2.2.2.2.2.2.1 x.2.2.2.2.2.2.2.2.2.2.2.2.2.2.2.2.2.2.1 x.2.2.2.2.2.2.2.2.2.2.2.2.2.2.2.2.2.2.2.1 x.2.2.1 x.2.1 v_table_letters x.2.2.2.2.1 x.2.2.2.2.2.1 x.2.2.2.1 x.2.2.2.2.2.2.2.1 x.2.2.2.2.2.2.2.2.1 x.2.2.2.2.2.2.1 x.2.2.2.2.2.2.2.2.2.1 x.2.2.2.2.2.2.2.2.2.2.1 x.2.2.2.2.2.2.2.2.2.2.2.2.2.1 x.2.2.2.2.2.2.2.2.2.2.2.2.2.2.1 x.2.2.2.2.2.2.2.2.2.2.2.1 x.2.2.2.2.2.2.2.2.2.2.2.2.1 x.2.2.2.2.2.2.2.2.2.2.2.2.2.2.2.1 v_o1_lieCount v_o1_machine_size v_o1_machine_letters v_o1_machine_moves v_o1_machine_finals v_o1_lies x.2.2.2.2.2.2.2.2.2.2.2.2.2.2.2.2.2.2.2.2.2.2.2.2.2.1 x.2.2.2.2.2.2.2.2.2.2.2.2.2.2.2.2.2.2.2.2.2.2.2.2.2.2 x.2.2.2.2.2.2.2.2.2.2.2.2.2.2.2.2.2.2.2.2.1 x.2.2.2.2.2.2.2.2.2.2.2.2.2.2.2.2.2.2.2.2.2.1 x.2.2.2.2.2.2.2.2.2.2.2.2.2.2.2.2.2.2.2.2.2.2.1 x.2.2.2.2.2.2.2.2.2.2.2.2.2.2.2.2.2.2.2.2.2.2.2.1 x.2.2.2.2.2.2.2.2.2.2.2.2.2.2.2.2.2.2.2.2.2.2.2.2.1) x.1) {H : Heap} {locs : List Loc} {ls : Array Slot} (h : f_Le_doStep_J210 x9 s0 v_formed v_counterexample v_corrections v_deceived v_asked_size v_asked_entries v_table_prefixes_size v_table_prefixes_longest v_table_prefixes_words v_table_suffixes_size v_table_suffixes_longest v_table_suffixes_words v_table_known v_table_bits v_hypothesis_size v_hypothesis_letters v_hypothesis_moves v_hypothesis_finals v_representatives v_o2_length v_o2_queued v_o2_seen v_o2_queue v_o2_origin v_o2_arrival v_o2_letters = some x) (w : Wd s A D (ws_Le_doStep cI cJ cZ q_this q_asked q_table q_hypothesis q_representatives q_asked_entries q_table_prefixes q_table_suffixes q_table_known q_table_bits q_table_prefixes_words q_table_suffixes_words q_hypothesis_moves q_hypothesis_finals q_o1 q_o1_machine q_o1_lies q_o1_machine_moves q_o1_machine_finals q_o2 q_o2_seen q_o2_queue q_o2_origin q_o2_arrival q_o2_letters v_mode v_budget v_formed v_counterexample v_corrections v_deceived v_asked_size v_asked_entries v_table_letters v_table_prefixes_size v_table_prefixes_longest v_table_prefixes_words v_table_suffixes_size v_table_suffixes_longest v_table_suffixes_words v_table_known v_table_bits v_hypothesis_size v_hypothesis_letters v_hypothesis_moves v_hypothesis_finals v_representatives v_o1_lieCount v_o1_machine_size v_o1_machine_letters v_o1_machine_moves v_o1_machine_finals v_o1_lies v_o2_length v_o2_queued v_o2_seen v_o2_queue v_o2_origin v_o2_arrival v_o2_letters) H locs) (hl : lv_has ls 12 [(0, .ref q_this), (9, .long x9)]) : W p l e rm_Le_doStep s m args below meth c H locs 0 0 Q (F0 m 210 ls [.int s0]) := by
  obtain ⟨hx, hb, hml, hown, hts, -, -⟩ := id C0
  unfold f_Le_doStep_J210 at h
  refine lv_istore (lv' := [(11, .int s0), (0, .ref q_this), (9, .long x9)]) hx hb dX1_doStep_210 hl (by decide) rfl (fun ls hl => ?_)
  refine lv_iload hx hb dX1_doStep_212 (lv_at hl 0 rfl) ?_
  refine lv_if_ge (tgt := 222) hx hb dX1_doStep_214 (by decide) (fun hc => ?_) (fun hc => ?_)
  · have h := if_h hc h
    refine lv_aload_n hx hb dX1_doStep_222 rfl (lv_at hl 1 rfl) ?_
    refine lv_lload hx hb dX1_doStep_223 (lv_at hl 2 rfl) ?_
    refine lv_iload hx hb dX1_doStep_225 (lv_at hl 0 rfl) ?_
    obtain ⟨r, v_counterexample_1, v_corrections_1, v_deceived_1, hcall, h⟩ := bd4_h h
    have hp := sp_of (ws := (ws_Le_doStep cI cJ cZ q_this q_asked q_table q_hypothesis q_representatives q_asked_entries q_table_prefixes q_table_suffixes q_table_known q_table_bits q_table_prefixes_words q_table_suffixes_words q_hypothesis_moves q_hypothesis_finals q_o1 q_o1_machine q_o1_lies q_o1_machine_moves q_o1_machine_finals q_o2 q_o2_seen q_o2_queue q_o2_origin q_o2_arrival q_o2_letters v_mode v_budget v_formed v_counterexample v_corrections v_deceived v_asked_size v_asked_entries v_table_letters v_table_prefixes_size v_table_prefixes_longest v_table_prefixes_words v_table_suffixes_size v_table_suffixes_longest v_table_suffixes_words v_table_known v_table_bits v_hypothesis_size v_hypothesis_letters v_hypothesis_moves v_hypothesis_finals v_representatives v_o1_lieCount v_o1_machine_size v_o1_machine_letters v_o1_machine_moves v_o1_machine_finals v_o1_lies v_o2_length v_o2_queued v_o2_seen v_o2_queue v_o2_origin v_o2_arrival v_o2_letters)) (wc := (ws_Le_finishCorrection cI cJ cZ q_this q_asked q_table q_hypothesis q_representatives v_mode v_budget v_formed v_counterexample v_corrections v_deceived)) [0] [1, 2, 3, 4, 5, 6, 7, 8, 9, 10, 11, 12, 13, 14, 15, 16, 17, 18, 19, 20, 21, 22, 23, 24] rfl rfl
    have hp' : Rp (pk (ws_Le_doStep cI cJ cZ q_this q_asked q_table q_hypothesis q_representatives q_asked_entries q_table_prefixes q_table_suffixes q_table_known q_table_bits q_table_prefixes_words q_table_suffixes_words q_hypothesis_moves q_hypothesis_finals q_o1 q_o1_machine q_o1_lies q_o1_machine_moves q_o1_machine_finals q_o2 q_o2_seen q_o2_queue q_o2_origin q_o2_arrival q_o2_letters v_mode v_budget v_formed v_counterexample v_corrections v_deceived v_asked_size v_asked_entries v_table_letters v_table_prefixes_size v_table_prefixes_longest v_table_prefixes_words v_table_suffixes_size v_table_suffixes_longest v_table_suffixes_words v_table_known v_table_bits v_hypothesis_size v_hypothesis_letters v_hypothesis_moves v_hypothesis_finals v_representatives v_o1_lieCount v_o1_machine_size v_o1_machine_letters v_o1_machine_moves v_o1_machine_finals v_o1_lies v_o2_length v_o2_queued v_o2_seen v_o2_queue v_o2_origin v_o2_arrival v_o2_letters) [1, 2, 3, 4, 5, 6, 7, 8, 9, 10, 11, 12, 13, 14, 15, 16, 17, 18, 19, 20, 21, 22, 23, 24] ++ (ws_Le_finishCorrection cI cJ cZ q_this q_asked q_table q_hypothesis q_representatives v_mode v_budget v_formed v_counterexample_1 v_corrections_1 v_deceived_1)) (ws_Le_doStep cI cJ cZ q_this q_asked q_table q_hypothesis q_representatives q_asked_entries q_table_prefixes q_table_suffixes q_table_known q_table_bits q_table_prefixes_words q_table_suffixes_words q_hypothesis_moves q_hypothesis_finals q_o1 q_o1_machine q_o1_lies q_o1_machine_moves q_o1_machine_finals q_o2 q_o2_seen q_o2_queue q_o2_origin q_o2_arrival q_o2_letters v_mode v_budget v_formed v_counterexample_1 v_corrections_1 v_deceived_1 v_asked_size v_asked_entries v_table_letters v_table_prefixes_size v_table_prefixes_longest v_table_prefixes_words v_table_suffixes_size v_table_suffixes_longest v_table_suffixes_words v_table_known v_table_bits v_hypothesis_size v_hypothesis_letters v_hypothesis_moves v_hypothesis_finals v_representatives v_o1_lieCount v_o1_machine_size v_o1_machine_letters v_o1_machine_moves v_o1_machine_finals v_o1_lies v_o2_length v_o2_queued v_o2_seen v_o2_queue v_o2_origin v_o2_arrival v_o2_letters) := ⟨[24, 0, 1, 2, 3, 4, 5, 6, 7, 8, 9, 10, 11, 12, 13, 14, 15, 16, 17, 18, 19, 20, 21, 22, 23], rfl, rfl⟩
    refine r_VI (r := r) (As := [.long x9, .int s0]) (rest := []) (wc' := (ws_Le_finishCorrection cI cJ cZ q_this q_asked q_table q_hypothesis q_representatives v_mode v_budget v_formed v_counterexample_1 v_corrections_1 v_deceived_1)) (ws' := (ws_Le_doStep cI cJ cZ q_this q_asked q_table q_hypothesis q_representatives q_asked_entries q_table_prefixes q_table_suffixes q_table_known q_table_bits q_table_prefixes_words q_table_suffixes_words q_hypothesis_moves q_hypothesis_finals q_o1 q_o1_machine q_o1_lies q_o1_machine_moves q_o1_machine_finals q_o2 q_o2_seen q_o2_queue q_o2_origin q_o2_arrival q_o2_letters v_mode v_budget v_formed v_counterexample_1 v_corrections_1 v_deceived_1 v_asked_size v_asked_entries v_table_letters v_table_prefixes_size v_table_prefixes_longest v_table_prefixes_words v_table_suffixes_size v_table_suffixes_longest v_table_suffixes_words v_table_known v_table_bits v_hypothesis_size v_hypothesis_letters v_hypothesis_moves v_hypothesis_finals v_representatives v_o1_lieCount v_o1_machine_size v_o1_machine_letters v_o1_machine_moves v_o1_machine_finals v_o1_lies v_o2_length v_o2_queued v_o2_seen v_o2_queue v_o2_origin v_o2_arrival v_o2_letters)) C0 w (c_Le_finishCorrection hcall) hp hp' lm_RX1_126 mv_Le_finishCorrection ⟨rfl, rfl⟩ ⟨by decide, by decide⟩ ⟨Nat.zero_le _, Nat.zero_le _⟩ (q0 := 0) rfl rfl rfl rfl hl rfl (Nat.le_of_ble_eq_true rfl) dX1_doStep_227 (fun H locs w => ?_)
    cases h
    exact hQ _ _ _ _ dX1_doStep_230 rfl w
  · have h := nf_h hc h
    refine lv_iload hx hb dX1_doStep_217 (lv_at hl 0 rfl) ?_
    refine lv_goto (tgt := 230) hx hb dX1_doStep_219 (by decide) ?_
    cases h
    exact hQ _ _ _ _ dX1_doStep_230 rfl w
set_option maxRecDepth 100000 in
theorem c_Le_doStep {l : Launch} {D : va_G} {cI cJ cZ cO : ClassId} {q_this q_asked q_table q_hypothesis q_representatives q_asked_entries q_table_prefixes q_table_suffixes q_table_known q_table_bits q_table_prefixes_words q_table_suffixes_words q_hypothesis_moves q_hypothesis_finals q_o1 q_o1_machine q_o1_lies q_o1_machine_moves q_o1_machine_finals q_o2 q_o2_seen q_o2_queue q_o2_origin q_o2_arrival q_o2_letters : Nat} {v_mode : Int32} {v_budget : Int32} {v_formed : Int32} {v_counterexample : Int64} {v_corrections : Int32} {v_deceived : Int32} {v_asked_size : Int32} {v_asked_entries : (Nat → Int64)} {v_table_letters : Int32} {v_table_prefixes_size : Int32} {v_table_prefixes_longest : Int32} {v_table_prefixes_words : (Nat → Int64)} {v_table_suffixes_size : Int32} {v_table_suffixes_longest : Int32} {v_table_suffixes_words : (Nat → Int64)} {v_table_known : (Nat → Int32)} {v_table_bits : (Nat → Int32)} {v_hypothesis_size : Int32} {v_hypothesis_letters : Int32} {v_hypothesis_moves : (Nat → Int32)} {v_hypothesis_finals : (Nat → Int32)} {v_representatives : (Nat → Int32)} {v_o1_lieCount : Int32} {v_o1_machine_size : Int32} {v_o1_machine_letters : Int32} {v_o1_machine_moves : (Nat → Int32)} {v_o1_machine_finals : (Nat → Int32)} {v_o1_lies : (Nat → Int64)} {v_o2_length : Int32} {v_o2_queued : Int32} {v_o2_seen : (Nat → Int32)} {v_o2_queue : (Nat → Int32)} {v_o2_origin : (Nat → Int32)} {v_o2_arrival : (Nat → Int32)} {v_o2_letters : (Nat → Int32)} {x : Int32 × (Nat → Int64) × Int32 × (Nat → Int64) × Int32 × Int32 × (Nat → Int64) × Int32 × Int32 × (Nat → Int32) × (Nat → Int32) × (Nat → Int32) × (Nat → Int32) × Int32 × Int32 × (Nat → Int32) × Int32 × Int64 × Int32 × Int32 × (Nat → Int32) × (Nat → Int32) × (Nat → Int32) × (Nat → Int32) × (Nat → Int32) × Int32 × Int32} (h : f_Le_doStep v_mode v_budget v_formed v_counterexample v_corrections v_deceived v_asked_size v_asked_entries v_table_letters v_table_prefixes_size v_table_prefixes_longest v_table_prefixes_words v_table_suffixes_size v_table_suffixes_longest v_table_suffixes_words v_table_known v_table_bits v_hypothesis_size v_hypothesis_letters v_hypothesis_moves v_hypothesis_finals v_representatives v_o1_lieCount v_o1_machine_letters v_o1_machine_moves v_o1_machine_finals v_o1_lies v_o2_length v_o2_queued v_o2_seen v_o2_queue v_o2_origin v_o2_arrival v_o2_letters = some x) : ctI l D cI cJ cZ cO yX1_doStep cX1_doStep 12 .int rm_Le_doStep [.ref q_this, .ref q_o1, .ref q_o2] (ws_Le_doStep cI cJ cZ q_this q_asked q_table q_hypothesis q_representatives q_asked_entries q_table_prefixes q_table_suffixes q_table_known q_table_bits q_table_prefixes_words q_table_suffixes_words q_hypothesis_moves q_hypothesis_finals q_o1 q_o1_machine q_o1_lies q_o1_machine_moves q_o1_machine_finals q_o2 q_o2_seen q_o2_queue q_o2_origin q_o2_arrival q_o2_letters v_mode v_budget v_formed v_counterexample v_corrections v_deceived v_asked_size v_asked_entries v_table_letters v_table_prefixes_size v_table_prefixes_longest v_table_prefixes_words v_table_suffixes_size v_table_suffixes_longest v_table_suffixes_words v_table_known v_table_bits v_hypothesis_size v_hypothesis_letters v_hypothesis_moves v_hypothesis_finals v_representatives v_o1_lieCount v_o1_machine_size v_o1_machine_letters v_o1_machine_moves v_o1_machine_finals v_o1_lies v_o2_length v_o2_queued v_o2_seen v_o2_queue v_o2_origin v_o2_arrival v_o2_letters) (ws_Le_doStep cI cJ cZ q_this q_asked q_table q_hypothesis q_representatives q_asked_entries q_table_prefixes q_table_suffixes q_table_known q_table_bits q_table_prefixes_words q_table_suffixes_words q_hypothesis_moves q_hypothesis_finals q_o1 q_o1_machine q_o1_lies q_o1_machine_moves q_o1_machine_finals q_o2 q_o2_seen q_o2_queue q_o2_origin q_o2_arrival q_o2_letters v_mode v_budget x.2.2.2.2.2.2.2.2.2.2.2.2.2.2.2.2.1 x.2.2.2.2.2.2.2.2.2.2.2.2.2.2.2.2.2.1 x.2.2.2.2.2.2.2.2.2.2.2.2.2.2.2.2.2.2.1 x.2.2.2.2.2.2.2.2.2.2.2.2.2.2.2.2.2.2.2.1 x.2.2.1 x.2.1 v_table_letters x.2.2.2.2.1 x.2.2.2.2.2.1 x.2.2.2.1 x.2.2.2.2.2.2.2.1 x.2.2.2.2.2.2.2.2.1 x.2.2.2.2.2.2.1 x.2.2.2.2.2.2.2.2.2.1 x.2.2.2.2.2.2.2.2.2.2.1 x.2.2.2.2.2.2.2.2.2.2.2.2.2.1 x.2.2.2.2.2.2.2.2.2.2.2.2.2.2.1 x.2.2.2.2.2.2.2.2.2.2.2.1 x.2.2.2.2.2.2.2.2.2.2.2.2.1 x.2.2.2.2.2.2.2.2.2.2.2.2.2.2.2.1 v_o1_lieCount v_o1_machine_size v_o1_machine_letters v_o1_machine_moves v_o1_machine_finals v_o1_lies x.2.2.2.2.2.2.2.2.2.2.2.2.2.2.2.2.2.2.2.2.2.2.2.2.2.1 x.2.2.2.2.2.2.2.2.2.2.2.2.2.2.2.2.2.2.2.2.2.2.2.2.2.2 x.2.2.2.2.2.2.2.2.2.2.2.2.2.2.2.2.2.2.2.2.1 x.2.2.2.2.2.2.2.2.2.2.2.2.2.2.2.2.2.2.2.2.2.1 x.2.2.2.2.2.2.2.2.2.2.2.2.2.2.2.2.2.2.2.2.2.2.1 x.2.2.2.2.2.2.2.2.2.2.2.2.2.2.2.2.2.2.2.2.2.2.2.1 x.2.2.2.2.2.2.2.2.2.2.2.2.2.2.2.2.2.2.2.2.2.2.2.2.1) x.1 := by
  refine ctI_of (by decide) (Nat.le_of_ble_eq_true rfl) ?_
  intro p e s m below meth c Q A ls C0 hQ w hl
  have hl : lv_has ls 12 [(0, .ref q_this), (1, .ref q_o1), (2, .ref q_o2)] := hl
  generalize List.toArray (α := Value) [.ref q_this, .ref q_o1, .ref q_o2] = args at C0 hQ ⊢
  obtain ⟨hx, hb, hml, hown, hts, -, -⟩ := id C0
  unfold f_Le_doStep at h
  refine lv_aload_n hx hb dX1_doStep_0 rfl (lv_at hl 0 rfl) ?_
  refine r_get C0 w 0 rfl kf_Le 9 (by decide) lf_RX1_58 rfl dX1_doStep_1 ?_
  refine lv_if_eq (tgt := 10) hx hb dX1_doStep_4 (by decide) (fun hc => ?_) (fun hc => ?_)
  · have h := if_h hc h
    refine lv_aload_n hx hb dX1_doStep_10 rfl (lv_at hl 0 rfl) ?_
    refine r_get C0 w 0 rfl kf_Le 1 (by decide) lf_RX1_21 rfl dX1_doStep_11 ?_
    refine lv_aload_n hx hb dX1_doStep_14 rfl (lv_at hl 0 rfl) ?_
    refine r_get C0 w 0 rfl kf_Le 0 (by decide) lf_RX1_12 rfl dX1_doStep_15 ?_
    obtain ⟨r, v_table_known_1, v_table_bits_1, hcall, h⟩ := bd3_h h
    have hp := sp_of (ws := (ws_Le_doStep cI cJ cZ q_this q_asked q_table q_hypothesis q_representatives q_asked_entries q_table_prefixes q_table_suffixes q_table_known q_table_bits q_table_prefixes_words q_table_suffixes_words q_hypothesis_moves q_hypothesis_finals q_o1 q_o1_machine q_o1_lies q_o1_machine_moves q_o1_machine_finals q_o2 q_o2_seen q_o2_queue q_o2_origin q_o2_arrival q_o2_letters v_mode v_budget v_formed v_counterexample v_corrections v_deceived v_asked_size v_asked_entries v_table_letters v_table_prefixes_size v_table_prefixes_longest v_table_prefixes_words v_table_suffixes_size v_table_suffixes_longest v_table_suffixes_words v_table_known v_table_bits v_hypothesis_size v_hypothesis_letters v_hypothesis_moves v_hypothesis_finals v_representatives v_o1_lieCount v_o1_machine_size v_o1_machine_letters v_o1_machine_moves v_o1_machine_finals v_o1_lies v_o2_length v_o2_queued v_o2_seen v_o2_queue v_o2_origin v_o2_arrival v_o2_letters)) (wc := (ws_Ta_firstGap cI cJ cZ q_table q_table_prefixes q_table_suffixes q_table_known q_table_bits q_table_prefixes_words q_table_suffixes_words q_asked q_asked_entries v_table_letters v_table_prefixes_size v_table_prefixes_longest v_table_prefixes_words v_table_suffixes_size v_table_suffixes_longest v_table_suffixes_words v_table_known v_table_bits v_asked_size v_asked_entries)) [3, 4, 5, 6, 7, 8, 9, 1, 2] [0, 10, 11, 12, 13, 14, 15, 16, 17, 18, 19, 20, 21, 22, 23, 24] rfl rfl
    have hp' : Rp (pk (ws_Le_doStep cI cJ cZ q_this q_asked q_table q_hypothesis q_representatives q_asked_entries q_table_prefixes q_table_suffixes q_table_known q_table_bits q_table_prefixes_words q_table_suffixes_words q_hypothesis_moves q_hypothesis_finals q_o1 q_o1_machine q_o1_lies q_o1_machine_moves q_o1_machine_finals q_o2 q_o2_seen q_o2_queue q_o2_origin q_o2_arrival q_o2_letters v_mode v_budget v_formed v_counterexample v_corrections v_deceived v_asked_size v_asked_entries v_table_letters v_table_prefixes_size v_table_prefixes_longest v_table_prefixes_words v_table_suffixes_size v_table_suffixes_longest v_table_suffixes_words v_table_known v_table_bits v_hypothesis_size v_hypothesis_letters v_hypothesis_moves v_hypothesis_finals v_representatives v_o1_lieCount v_o1_machine_size v_o1_machine_letters v_o1_machine_moves v_o1_machine_finals v_o1_lies v_o2_length v_o2_queued v_o2_seen v_o2_queue v_o2_origin v_o2_arrival v_o2_letters) [0, 10, 11, 12, 13, 14, 15, 16, 17, 18, 19, 20, 21, 22, 23, 24] ++ (ws_Ta_firstGap cI cJ cZ q_table q_table_prefixes q_table_suffixes q_table_known q_table_bits q_table_prefixes_words q_table_suffixes_words q_asked q_asked_entries v_table_letters v_table_prefixes_size v_table_prefixes_longest v_table_prefixes_words v_table_suffixes_size v_table_suffixes_longest v_table_suffixes_words v_table_known_1 v_table_bits_1 v_asked_size v_asked_entries)) (ws_Le_doStep cI cJ cZ q_this q_asked q_table q_hypothesis q_representatives q_asked_entries q_table_prefixes q_table_suffixes q_table_known q_table_bits q_table_prefixes_words q_table_suffixes_words q_hypothesis_moves q_hypothesis_finals q_o1 q_o1_machine q_o1_lies q_o1_machine_moves q_o1_machine_finals q_o2 q_o2_seen q_o2_queue q_o2_origin q_o2_arrival q_o2_letters v_mode v_budget v_formed v_counterexample v_corrections v_deceived v_asked_size v_asked_entries v_table_letters v_table_prefixes_size v_table_prefixes_longest v_table_prefixes_words v_table_suffixes_size v_table_suffixes_longest v_table_suffixes_words v_table_known_1 v_table_bits_1 v_hypothesis_size v_hypothesis_letters v_hypothesis_moves v_hypothesis_finals v_representatives v_o1_lieCount v_o1_machine_size v_o1_machine_letters v_o1_machine_moves v_o1_machine_finals v_o1_lies v_o2_length v_o2_queued v_o2_seen v_o2_queue v_o2_origin v_o2_arrival v_o2_letters) := ⟨[0, 23, 24, 16, 17, 18, 19, 20, 21, 22, 1, 2, 3, 4, 5, 6, 7, 8, 9, 10, 11, 12, 13, 14, 15], rfl, rfl⟩
    refine r_VJ (r := r) (As := [.ref q_asked]) (rest := []) (wc' := (ws_Ta_firstGap cI cJ cZ q_table q_table_prefixes q_table_suffixes q_table_known q_table_bits q_table_prefixes_words q_table_suffixes_words q_asked q_asked_entries v_table_letters v_table_prefixes_size v_table_prefixes_longest v_table_prefixes_words v_table_suffixes_size v_table_suffixes_longest v_table_suffixes_words v_table_known_1 v_table_bits_1 v_asked_size v_asked_entries)) (ws' := (ws_Le_doStep cI cJ cZ q_this q_asked q_table q_hypothesis q_representatives q_asked_entries q_table_prefixes q_table_suffixes q_table_known q_table_bits q_table_prefixes_words q_table_suffixes_words q_hypothesis_moves q_hypothesis_finals q_o1 q_o1_machine q_o1_lies q_o1_machine_moves q_o1_machine_finals q_o2 q_o2_seen q_o2_queue q_o2_origin q_o2_arrival q_o2_letters v_mode v_budget v_formed v_counterexample v_corrections v_deceived v_asked_size v_asked_entries v_table_letters v_table_prefixes_size v_table_prefixes_longest v_table_prefixes_words v_table_suffixes_size v_table_suffixes_longest v_table_suffixes_words v_table_known_1 v_table_bits_1 v_hypothesis_size v_hypothesis_letters v_hypothesis_moves v_hypothesis_finals v_representatives v_o1_lieCount v_o1_machine_size v_o1_machine_letters v_o1_machine_moves v_o1_machine_finals v_o1_lies v_o2_length v_o2_queued v_o2_seen v_o2_queue v_o2_origin v_o2_arrival v_o2_letters)) C0 w (c_Ta_firstGap hcall) hp hp' lm_RX1_83 mv_Ta_firstGap ⟨rfl, rfl⟩ ⟨by decide, by decide⟩ ⟨Nat.zero_le _, Nat.zero_le _⟩ (q0 := 3) rfl rfl rfl rfl hl rfl (Nat.le_of_ble_eq_true rfl) dX1_doStep_18 (fun H locs w => ?_)
    refine lv_lstore_n (lv' := [(3, .long r), (0, .ref q_this), (1, .ref q_o1), (2, .ref q_o2)]) hx hb dX1_doStep_21 rfl hl (by decide) rfl (fun ls hl => ?_)
    refine lv_lload_n hx hb dX1_doStep_22 rfl (lv_at hl 0 rfl) ?_
    refine lv_ldc2 (v := (-1 : Int64)) hx hb hown (hts _ ll_RX1_49) dX1_doStep_23 ?_
    refine r_lc_eq (tgt := 48) hx hb dX1_doStep_26 dX1_doStep_27 (by decide) (fun hc => ?_) (fun hc => ?_)
    · have h := if_h hc h
      refine lv_aload_n hx hb dX1_doStep_48 rfl (lv_at hl 1 rfl) ?_
      refine r_get C0 w 0 rfl kf_Le 1 (by decide) lf_RX1_21 rfl dX1_doStep_49 ?_
      obtain ⟨r_1, hcall, h⟩ := bd1_h h
      obtain ⟨wr, hp, hp'⟩ := rd_of (ws := (ws_Le_doStep cI cJ cZ q_this q_asked q_table q_hypothesis q_representatives q_asked_entries q_table_prefixes q_table_suffixes q_table_known q_table_bits q_table_prefixes_words q_table_suffixes_words q_hypothesis_moves q_hypothesis_finals q_o1 q_o1_machine q_o1_lies q_o1_machine_moves q_o1_machine_finals q_o2 q_o2_seen q_o2_queue q_o2_origin q_o2_arrival q_o2_letters v_mode v_budget v_formed v_counterexample v_corrections v_deceived v_asked_size v_asked_entries v_table_letters v_table_prefixes_size v_table_prefixes_longest v_table_prefixes_words v_table_suffixes_size v_table_suffixes_longest v_table_suffixes_words v_table_known_1 v_table_bits_1 v_hypothesis_size v_hypothesis_letters v_hypothesis_moves v_hypothesis_finals v_representatives v_o1_lieCount v_o1_machine_size v_o1_machine_letters v_o1_machine_moves v_o1_machine_finals v_o1_lies v_o2_length v_o2_queued v_o2_seen v_o2_queue v_o2_origin v_o2_arrival v_o2_letters)) (wc := (ws_Ta_firstOpen cI cJ cZ q_table q_table_prefixes q_table_suffixes q_table_known q_table_bits q_table_prefixes_words v_table_letters v_table_prefixes_size v_table_prefixes_longest v_table_prefixes_words v_table_bits_1)) [3, 4, 5, 9] rfl rfl
      refine r_VJ (r := r_1) (As := []) (rest := []) (wc' := (ws_Ta_firstOpen cI cJ cZ q_table q_table_prefixes q_table_suffixes q_table_known q_table_bits q_table_prefixes_words v_table_letters v_table_prefixes_size v_table_prefixes_longest v_table_prefixes_words v_table_bits_1)) (ws' := (ws_Le_doStep cI cJ cZ q_this q_asked q_table q_hypothesis q_representatives q_asked_entries q_table_prefixes q_table_suffixes q_table_known q_table_bits q_table_prefixes_words q_table_suffixes_words q_hypothesis_moves q_hypothesis_finals q_o1 q_o1_machine q_o1_lies q_o1_machine_moves q_o1_machine_finals q_o2 q_o2_seen q_o2_queue q_o2_origin q_o2_arrival q_o2_letters v_mode v_budget v_formed v_counterexample v_corrections v_deceived v_asked_size v_asked_entries v_table_letters v_table_prefixes_size v_table_prefixes_longest v_table_prefixes_words v_table_suffixes_size v_table_suffixes_longest v_table_suffixes_words v_table_known_1 v_table_bits_1 v_hypothesis_size v_hypothesis_letters v_hypothesis_moves v_hypothesis_finals v_representatives v_o1_lieCount v_o1_machine_size v_o1_machine_letters v_o1_machine_moves v_o1_machine_finals v_o1_lies v_o2_length v_o2_queued v_o2_seen v_o2_queue v_o2_origin v_o2_arrival v_o2_letters)) C0 w (c_Ta_firstOpen hcall) hp hp' lm_RX1_91 mv_Ta_firstOpen ⟨rfl, rfl⟩ ⟨by decide, by decide⟩ ⟨Nat.zero_le _, Nat.zero_le _⟩ (q0 := 3) rfl rfl rfl rfl hl rfl (Nat.le_of_ble_eq_true rfl) dX1_doStep_52 (fun H locs w => ?_)
      refine lv_lstore (lv' := [(5, .long r_1), (3, .long r), (0, .ref q_this), (1, .ref q_o1), (2, .ref q_o2)]) hx hb dX1_doStep_55 hl (by decide) rfl (fun ls hl => ?_)
      refine lv_lload hx hb dX1_doStep_57 (lv_at hl 0 rfl) ?_
      refine lv_ldc2 (v := (-1 : Int64)) hx hb hown (hts _ ll_RX1_49) dX1_doStep_59 ?_
      refine r_lc_eq (tgt := 85) hx hb dX1_doStep_62 dX1_doStep_63 (by decide) (fun hc => ?_) (fun hc => ?_)
      · have h := if_h hc h
        refine lv_aload_n hx hb dX1_doStep_85 rfl (lv_at hl 2 rfl) ?_
        refine r_get C0 w 0 rfl kf_Le 1 (by decide) lf_RX1_21 rfl dX1_doStep_86 ?_
        obtain ⟨r_2, hcall, h⟩ := bd1_h h
        obtain ⟨wr, hp, hp'⟩ := rd_of (ws := (ws_Le_doStep cI cJ cZ q_this q_asked q_table q_hypothesis q_representatives q_asked_entries q_table_prefixes q_table_suffixes q_table_known q_table_bits q_table_prefixes_words q_table_suffixes_words q_hypothesis_moves q_hypothesis_finals q_o1 q_o1_machine q_o1_lies q_o1_machine_moves q_o1_machine_finals q_o2 q_o2_seen q_o2_queue q_o2_origin q_o2_arrival q_o2_letters v_mode v_budget v_formed v_counterexample v_corrections v_deceived v_asked_size v_asked_entries v_table_letters v_table_prefixes_size v_table_prefixes_longest v_table_prefixes_words v_table_suffixes_size v_table_suffixes_longest v_table_suffixes_words v_table_known_1 v_table_bits_1 v_hypothesis_size v_hypothesis_letters v_hypothesis_moves v_hypothesis_finals v_representatives v_o1_lieCount v_o1_machine_size v_o1_machine_letters v_o1_machine_moves v_o1_machine_finals v_o1_lies v_o2_length v_o2_queued v_o2_seen v_o2_queue v_o2_origin v_o2_arrival v_o2_letters)) (wc := (ws_Ta_firstSeparator cI cJ cZ q_table q_table_prefixes q_table_suffixes q_table_known q_table_bits q_table_prefixes_words q_table_suffixes_words v_table_letters v_table_prefixes_size v_table_prefixes_longest v_table_suffixes_size v_table_suffixes_longest v_table_suffixes_words v_table_bits_1)) [3, 4, 6, 7, 9] rfl rfl
        refine r_VJ (r := r_2) (As := []) (rest := []) (wc' := (ws_Ta_firstSeparator cI cJ cZ q_table q_table_prefixes q_table_suffixes q_table_known q_table_bits q_table_prefixes_words q_table_suffixes_words v_table_letters v_table_prefixes_size v_table_prefixes_longest v_table_suffixes_size v_table_suffixes_longest v_table_suffixes_words v_table_bits_1)) (ws' := (ws_Le_doStep cI cJ cZ q_this q_asked q_table q_hypothesis q_representatives q_asked_entries q_table_prefixes q_table_suffixes q_table_known q_table_bits q_table_prefixes_words q_table_suffixes_words q_hypothesis_moves q_hypothesis_finals q_o1 q_o1_machine q_o1_lies q_o1_machine_moves q_o1_machine_finals q_o2 q_o2_seen q_o2_queue q_o2_origin q_o2_arrival q_o2_letters v_mode v_budget v_formed v_counterexample v_corrections v_deceived v_asked_size v_asked_entries v_table_letters v_table_prefixes_size v_table_prefixes_longest v_table_prefixes_words v_table_suffixes_size v_table_suffixes_longest v_table_suffixes_words v_table_known_1 v_table_bits_1 v_hypothesis_size v_hypothesis_letters v_hypothesis_moves v_hypothesis_finals v_representatives v_o1_lieCount v_o1_machine_size v_o1_machine_letters v_o1_machine_moves v_o1_machine_finals v_o1_lies v_o2_length v_o2_queued v_o2_seen v_o2_queue v_o2_origin v_o2_arrival v_o2_letters)) C0 w (c_Ta_firstSeparator hcall) hp hp' lm_RX1_99 mv_Ta_firstSeparator ⟨rfl, rfl⟩ ⟨by decide, by decide⟩ ⟨Nat.zero_le _, Nat.zero_le _⟩ (q0 := 3) rfl rfl rfl rfl hl rfl (Nat.le_of_ble_eq_true rfl) dX1_doStep_89 (fun H locs w => ?_)
        refine lv_lstore (lv' := [(7, .long r_2), (5, .long r_1), (3, .long r), (0, .ref q_this), (1, .ref q_o1), (2, .ref q_o2)]) hx hb dX1_doStep_92 hl (by decide) rfl (fun ls hl => ?_)
        refine lv_lload hx hb dX1_doStep_94 (lv_at hl 0 rfl) ?_
        refine lv_ldc2 (v := (-1 : Int64)) hx hb hown (hts _ ll_RX1_49) dX1_doStep_96 ?_
        refine r_lc_eq (tgt := 122) hx hb dX1_doStep_99 dX1_doStep_100 (by decide) (fun hc => ?_) (fun hc => ?_)
        · have h := if_h hc h
          refine lv_aload_n hx hb dX1_doStep_122 rfl (lv_at hl 3 rfl) ?_
          refine r_get C0 w 0 rfl kf_Le 6 (by decide) lf_RX1_45 rfl dX1_doStep_123 ?_
          refine lv_if_ne (tgt := 135) hx hb dX1_doStep_126 (by decide) (fun hc => ?_) (fun hc => ?_)
          · have h := nf_h hc h
            refine lv_aload_n hx hb dX1_doStep_135 rfl (lv_at hl 5 rfl) ?_
            refine lv_aload_n hx hb dX1_doStep_136 rfl (lv_at hl 3 rfl) ?_
            refine r_get C0 w 0 rfl kf_Le 2 (by decide) lf_RX1_30 rfl dX1_doStep_137 ?_
            refine lv_iconst (v := (0 : Int32)) hx hb dX1_doStep_140 (by decide) ?_
            refine lv_aload_n hx hb dX1_doStep_141 rfl (lv_at hl 4 rfl) ?_
            refine r_get C0 w 14 rfl kf_Te 0 (by decide) lf_RX1_105 rfl dX1_doStep_142 ?_
            refine lv_iconst (v := (0 : Int32)) hx hb dX1_doStep_145 (by decide) ?_
            obtain ⟨r_3, v_o2_seen_1, v_o2_queue_1, v_o2_origin_1, v_o2_arrival_1, v_o2_letters_1, v_o2_length_1, v_o2_queued_1, hcall, h⟩ := bd8_h h
            have hp := sp_of (ws := (ws_Le_doStep cI cJ cZ q_this q_asked q_table q_hypothesis q_representatives q_asked_entries q_table_prefixes q_table_suffixes q_table_known q_table_bits q_table_prefixes_words q_table_suffixes_words q_hypothesis_moves q_hypothesis_finals q_o1 q_o1_machine q_o1_lies q_o1_machine_moves q_o1_machine_finals q_o2 q_o2_seen q_o2_queue q_o2_origin q_o2_arrival q_o2_letters v_mode v_budget v_formed v_counterexample v_corrections v_deceived v_asked_size v_asked_entries v_table_letters v_table_prefixes_size v_table_prefixes_longest v_table_prefixes_words v_table_suffixes_size v_table_suffixes_longest v_table_suffixes_words v_table_known_1 v_table_bits_1 v_hypothesis_size v_hypothesis_letters v_hypothesis_moves v_hypothesis_finals v_representatives v_o1_lieCount v_o1_machine_size v_o1_machine_letters v_o1_machine_moves v_o1_machine_finals v_o1_lies v_o2_length v_o2_queued v_o2_seen v_o2_queue v_o2_origin v_o2_arrival v_o2_letters)) (wc := (ws_Se_findsDifference cI cJ cZ q_o2 q_o2_seen q_o2_queue q_o2_origin q_o2_arrival q_o2_letters q_hypothesis q_hypothesis_moves q_hypothesis_finals q_o1_machine q_o1_machine_moves q_o1_machine_finals 120 40 24 8 v_o2_length v_o2_queued v_o2_seen v_o2_queue v_o2_origin v_o2_arrival v_o2_letters v_hypothesis_size v_hypothesis_letters v_hypothesis_moves v_hypothesis_finals v_o1_machine_size v_o1_machine_letters v_o1_machine_moves v_o1_machine_finals)) [19, 20, 21, 22, 23, 24, 10, 11, 12, 15, 16, 17] [0, 1, 2, 3, 4, 5, 6, 7, 8, 9, 13, 14, 18] rfl rfl
            have hp' : Rp (pk (ws_Le_doStep cI cJ cZ q_this q_asked q_table q_hypothesis q_representatives q_asked_entries q_table_prefixes q_table_suffixes q_table_known q_table_bits q_table_prefixes_words q_table_suffixes_words q_hypothesis_moves q_hypothesis_finals q_o1 q_o1_machine q_o1_lies q_o1_machine_moves q_o1_machine_finals q_o2 q_o2_seen q_o2_queue q_o2_origin q_o2_arrival q_o2_letters v_mode v_budget v_formed v_counterexample v_corrections v_deceived v_asked_size v_asked_entries v_table_letters v_table_prefixes_size v_table_prefixes_longest v_table_prefixes_words v_table_suffixes_size v_table_suffixes_longest v_table_suffixes_words v_table_known_1 v_table_bits_1 v_hypothesis_size v_hypothesis_letters v_hypothesis_moves v_hypothesis_finals v_representatives v_o1_lieCount v_o1_machine_size v_o1_machine_letters v_o1_machine_moves v_o1_machine_finals v_o1_lies v_o2_length v_o2_queued v_o2_seen v_o2_queue v_o2_origin v_o2_arrival v_o2_letters) [0, 1, 2, 3, 4, 5, 6, 7, 8, 9, 13, 14, 18] ++ (ws_Se_findsDifference cI cJ cZ q_o2 q_o2_seen q_o2_queue q_o2_origin q_o2_arrival q_o2_letters q_hypothesis q_hypothesis_moves q_hypothesis_finals q_o1_machine q_o1_machine_moves q_o1_machine_finals 120 40 24 8 v_o2_length_1 v_o2_queued_1 v_o2_seen_1 v_o2_queue_1 v_o2_origin_1 v_o2_arrival_1 v_o2_letters_1 v_hypothesis_size v_hypothesis_letters v_hypothesis_moves v_hypothesis_finals v_o1_machine_size v_o1_machine_letters v_o1_machine_moves v_o1_machine_finals)) (ws_Le_doStep cI cJ cZ q_this q_asked q_table q_hypothesis q_representatives q_asked_entries q_table_prefixes q_table_suffixes q_table_known q_table_bits q_table_prefixes_words q_table_suffixes_words q_hypothesis_moves q_hypothesis_finals q_o1 q_o1_machine q_o1_lies q_o1_machine_moves q_o1_machine_finals q_o2 q_o2_seen q_o2_queue q_o2_origin q_o2_arrival q_o2_letters v_mode v_budget v_formed v_counterexample v_corrections v_deceived v_asked_size v_asked_entries v_table_letters v_table_prefixes_size v_table_prefixes_longest v_table_prefixes_words v_table_suffixes_size v_table_suffixes_longest v_table_suffixes_words v_table_known_1 v_table_bits_1 v_hypothesis_size v_hypothesis_letters v_hypothesis_moves v_hypothesis_finals v_representatives v_o1_lieCount v_o1_machine_size v_o1_machine_letters v_o1_machine_moves v_o1_machine_finals v_o1_lies v_o2_length_1 v_o2_queued_1 v_o2_seen_1 v_o2_queue_1 v_o2_origin_1 v_o2_arrival_1 v_o2_letters_1) := ⟨[0, 1, 2, 3, 4, 5, 6, 7, 8, 9, 19, 20, 21, 10, 11, 22, 23, 24, 12, 13, 14, 15, 16, 17, 18], rfl, rfl⟩
            refine r_VI (r := r_3) (As := [.ref q_hypothesis, .int (0 : Int32), .ref q_o1_machine, .int (0 : Int32)]) (rest := []) (wc' := (ws_Se_findsDifference cI cJ cZ q_o2 q_o2_seen q_o2_queue q_o2_origin q_o2_arrival q_o2_letters q_hypothesis q_hypothesis_moves q_hypothesis_finals q_o1_machine q_o1_machine_moves q_o1_machine_finals 120 40 24 8 v_o2_length_1 v_o2_queued_1 v_o2_seen_1 v_o2_queue_1 v_o2_origin_1 v_o2_arrival_1 v_o2_letters_1 v_hypothesis_size v_hypothesis_letters v_hypothesis_moves v_hypothesis_finals v_o1_machine_size v_o1_machine_letters v_o1_machine_moves v_o1_machine_finals)) (ws' := (ws_Le_doStep cI cJ cZ q_this q_asked q_table q_hypothesis q_representatives q_asked_entries q_table_prefixes q_table_suffixes q_table_known q_table_bits q_table_prefixes_words q_table_suffixes_words q_hypothesis_moves q_hypothesis_finals q_o1 q_o1_machine q_o1_lies q_o1_machine_moves q_o1_machine_finals q_o2 q_o2_seen q_o2_queue q_o2_origin q_o2_arrival q_o2_letters v_mode v_budget v_formed v_counterexample v_corrections v_deceived v_asked_size v_asked_entries v_table_letters v_table_prefixes_size v_table_prefixes_longest v_table_prefixes_words v_table_suffixes_size v_table_suffixes_longest v_table_suffixes_words v_table_known_1 v_table_bits_1 v_hypothesis_size v_hypothesis_letters v_hypothesis_moves v_hypothesis_finals v_representatives v_o1_lieCount v_o1_machine_size v_o1_machine_letters v_o1_machine_moves v_o1_machine_finals v_o1_lies v_o2_length_1 v_o2_queued_1 v_o2_seen_1 v_o2_queue_1 v_o2_origin_1 v_o2_arrival_1 v_o2_letters_1)) C0 w (c_Se_findsDifference hcall) hp hp' lm_RX1_108 mv_Se_findsDifference ⟨rfl, rfl⟩ ⟨by decide, by decide⟩ ⟨Nat.zero_le _, Nat.zero_le _⟩ (q0 := 19) rfl rfl rfl rfl hl rfl (Nat.le_of_ble_eq_true rfl) dX1_doStep_146 (fun H locs w => ?_)
            refine lv_if_ne (tgt := 155) hx hb dX1_doStep_149 (by decide) (fun hc => ?_) (fun hc => ?_)
            · have h := nf_h hc h
              refine lv_aload_n hx hb dX1_doStep_155 rfl (lv_at hl 5 rfl) ?_
              refine r_get C0 w 19 rfl kf_Se 5 (by decide) lf_RX1_114 rfl dX1_doStep_156 ?_
              refine lv_bipush (v := (16 : Int32)) hx hb dX1_doStep_159 (by decide) ?_
              refine lv_icmp_le (tgt := 167) hx hb dX1_doStep_161 (by decide) (fun hc => ?_) (fun hc => ?_)
              · have h := if_h hc h
                refine lv_aload_n hx hb dX1_doStep_167 rfl (lv_at hl 5 rfl) ?_
                obtain ⟨r_4, hcall, h⟩ := bd1_h h
                obtain ⟨wr, hp, hp'⟩ := rd_of (ws := (ws_Le_doStep cI cJ cZ q_this q_asked q_table q_hypothesis q_representatives q_asked_entries q_table_prefixes q_table_suffixes q_table_known q_table_bits q_table_prefixes_words q_table_suffixes_words q_hypothesis_moves q_hypothesis_finals q_o1 q_o1_machine q_o1_lies q_o1_machine_moves q_o1_machine_finals q_o2 q_o2_seen q_o2_queue q_o2_origin q_o2_arrival q_o2_letters v_mode v_budget v_formed v_counterexample v_corrections v_deceived v_asked_size v_asked_entries v_table_letters v_table_prefixes_size v_table_prefixes_longest v_table_prefixes_words v_table_suffixes_size v_table_suffixes_longest v_table_suffixes_words v_table_known_1 v_table_bits_1 v_hypothesis_size v_hypothesis_letters v_hypothesis_moves v_hypothesis_finals v_representatives v_o1_lieCount v_o1_machine_size v_o1_machine_letters v_o1_machine_moves v_o1_machine_finals v_o1_lies v_o2_length_1 v_o2_queued_1 v_o2_seen_1 v_o2_queue_1 v_o2_origin_1 v_o2_arrival_1 v_o2_letters_1)) (wc := (ws_Se_foundWord cI cJ cZ q_o2 q_o2_seen q_o2_queue q_o2_origin q_o2_arrival q_o2_letters v_o2_length_1 v_o2_queued_1 v_o2_letters_1)) [19, 24] rfl rfl
                refine r_VJ (r := r_4) (As := []) (rest := []) (wc' := (ws_Se_foundWord cI cJ cZ q_o2 q_o2_seen q_o2_queue q_o2_origin q_o2_arrival q_o2_letters v_o2_length_1 v_o2_queued_1 v_o2_letters_1)) (ws' := (ws_Le_doStep cI cJ cZ q_this q_asked q_table q_hypothesis q_representatives q_asked_entries q_table_prefixes q_table_suffixes q_table_known q_table_bits q_table_prefixes_words q_table_suffixes_words q_hypothesis_moves q_hypothesis_finals q_o1 q_o1_machine q_o1_lies q_o1_machine_moves q_o1_machine_finals q_o2 q_o2_seen q_o2_queue q_o2_origin q_o2_arrival q_o2_letters v_mode v_budget v_formed v_counterexample v_corrections v_deceived v_asked_size v_asked_entries v_table_letters v_table_prefixes_size v_table_prefixes_longest v_table_prefixes_words v_table_suffixes_size v_table_suffixes_longest v_table_suffixes_words v_table_known_1 v_table_bits_1 v_hypothesis_size v_hypothesis_letters v_hypothesis_moves v_hypothesis_finals v_representatives v_o1_lieCount v_o1_machine_size v_o1_machine_letters v_o1_machine_moves v_o1_machine_finals v_o1_lies v_o2_length_1 v_o2_queued_1 v_o2_seen_1 v_o2_queue_1 v_o2_origin_1 v_o2_arrival_1 v_o2_letters_1)) C0 w (c_Se_foundWord hcall) hp hp' lm_RX1_117 mv_Se_foundWord ⟨rfl, rfl⟩ ⟨by decide, by decide⟩ ⟨Nat.zero_le _, Nat.zero_le _⟩ (q0 := 19) rfl rfl rfl rfl hl rfl (Nat.le_of_ble_eq_true rfl) dX1_doStep_168 (fun H locs w => ?_)
                refine lv_lstore (lv' := [(9, .long r_4), (7, .long r_2), (5, .long r_1), (3, .long r), (0, .ref q_this), (1, .ref q_o1), (2, .ref q_o2)]) hx hb dX1_doStep_171 hl (by decide) rfl (fun ls hl => ?_)
                refine lv_aload_n hx hb dX1_doStep_173 rfl (lv_at hl 4 rfl) ?_
                refine r_get C0 w 0 rfl kf_Le 4 (by decide) lf_RX1_38 rfl dX1_doStep_174 ?_
                refine lv_iconst (v := (1 : Int32)) hx hb dX1_doStep_177 (by decide) ?_
                refine lv_icmp_ne (tgt := 191) hx hb dX1_doStep_178 (by decide) (fun hc => ?_) (fun hc => ?_)
                · have h := nf_h hc h
                  refine lv_aload_n hx hb dX1_doStep_191 rfl (lv_at hl 4 rfl) ?_
                  refine lv_aload_n hx hb dX1_doStep_192 rfl (lv_at hl 4 rfl) ?_
                  refine r_get C0 w 0 rfl kf_Le 4 (by decide) lf_RX1_38 rfl dX1_doStep_193 ?_
                  refine lv_iconst (v := (2 : Int32)) hx hb dX1_doStep_196 (by decide) ?_
                  obtain ⟨t, et⟩ : ∃ y : Int32, y = (if v_mode = (2 : Int32) then (1 : Int32) else (0 : Int32)) := ⟨_, rfl⟩
                  have h := bnd_at et h
                  have J : W p l e rm_Le_doStep s m args below meth c H locs 0 0 Q (F0 m 205 ls [.int t, .ref q_this]) := by
                    refine lv_lload hx hb dX1_doStep_205 (lv_at hl 0 rfl) ?_
                    obtain ⟨r_5, v_table_prefixes_words_1, v_table_prefixes_size_1, v_table_prefixes_longest_1, v_table_suffixes_words_1, v_table_suffixes_size_1, v_table_suffixes_longest_1, v_formed_1, hcall, h⟩ := bd8_h h
                    have hp := sp_of (ws := (ws_Le_doStep cI cJ cZ q_this q_asked q_table q_hypothesis q_representatives q_asked_entries q_table_prefixes q_table_suffixes q_table_known q_table_bits q_table_prefixes_words q_table_suffixes_words q_hypothesis_moves q_hypothesis_finals q_o1 q_o1_machine q_o1_lies q_o1_machine_moves q_o1_machine_finals q_o2 q_o2_seen q_o2_queue q_o2_origin q_o2_arrival q_o2_letters v_mode v_budget v_formed v_counterexample v_corrections v_deceived v_asked_size v_asked_entries v_table_letters v_table_prefixes_size v_table_prefixes_longest v_table_prefixes_words v_table_suffixes_size v_table_suffixes_longest v_table_suffixes_words v_table_known_1 v_table_bits_1 v_hypothesis_size v_hypothesis_letters v_hypothesis_moves v_hypothesis_finals v_representatives v_o1_lieCount v_o1_machine_size v_o1_machine_letters v_o1_machine_moves v_o1_machine_finals v_o1_lies v_o2_length_1 v_o2_queued_1 v_o2_seen_1 v_o2_queue_1 v_o2_origin_1 v_o2_arrival_1 v_o2_letters_1)) (wc := (ws_Le_addParts cI cJ cZ q_this q_asked q_table q_hypothesis q_representatives q_table_prefixes q_table_suffixes q_table_known q_table_bits q_table_prefixes_words q_table_suffixes_words v_mode v_budget v_formed v_counterexample v_corrections v_deceived v_table_letters v_table_prefixes_size v_table_prefixes_longest v_table_prefixes_words v_table_suffixes_size v_table_suffixes_longest v_table_suffixes_words)) [0, 3, 4, 5, 6, 7] [1, 2, 8, 9, 10, 11, 12, 13, 14, 15, 16, 17, 18, 19, 20, 21, 22, 23, 24] rfl rfl
                    have hp' : Rp (pk (ws_Le_doStep cI cJ cZ q_this q_asked q_table q_hypothesis q_representatives q_asked_entries q_table_prefixes q_table_suffixes q_table_known q_table_bits q_table_prefixes_words q_table_suffixes_words q_hypothesis_moves q_hypothesis_finals q_o1 q_o1_machine q_o1_lies q_o1_machine_moves q_o1_machine_finals q_o2 q_o2_seen q_o2_queue q_o2_origin q_o2_arrival q_o2_letters v_mode v_budget v_formed v_counterexample v_corrections v_deceived v_asked_size v_asked_entries v_table_letters v_table_prefixes_size v_table_prefixes_longest v_table_prefixes_words v_table_suffixes_size v_table_suffixes_longest v_table_suffixes_words v_table_known_1 v_table_bits_1 v_hypothesis_size v_hypothesis_letters v_hypothesis_moves v_hypothesis_finals v_representatives v_o1_lieCount v_o1_machine_size v_o1_machine_letters v_o1_machine_moves v_o1_machine_finals v_o1_lies v_o2_length_1 v_o2_queued_1 v_o2_seen_1 v_o2_queue_1 v_o2_origin_1 v_o2_arrival_1 v_o2_letters_1) [1, 2, 8, 9, 10, 11, 12, 13, 14, 15, 16, 17, 18, 19, 20, 21, 22, 23, 24] ++ (ws_Le_addParts cI cJ cZ q_this q_asked q_table q_hypothesis q_representatives q_table_prefixes q_table_suffixes q_table_known q_table_bits q_table_prefixes_words q_table_suffixes_words v_mode v_budget v_formed_1 v_counterexample v_corrections v_deceived v_table_letters v_table_prefixes_size_1 v_table_prefixes_longest_1 v_table_prefixes_words_1 v_table_suffixes_size_1 v_table_suffixes_longest_1 v_table_suffixes_words_1)) (ws_Le_doStep cI cJ cZ q_this q_asked q_table q_hypothesis q_representatives q_asked_entries q_table_prefixes q_table_suffixes q_table_known q_table_bits q_table_prefixes_words q_table_suffixes_words q_hypothesis_moves q_hypothesis_finals q_o1 q_o1_machine q_o1_lies q_o1_machine_moves q_o1_machine_finals q_o2 q_o2_seen q_o2_queue q_o2_origin q_o2_arrival q_o2_letters v_mode v_budget v_formed_1 v_counterexample v_corrections v_deceived v_asked_size v_asked_entries v_table_letters v_table_prefixes_size_1 v_table_prefixes_longest_1 v_table_prefixes_words_1 v_table_suffixes_size_1 v_table_suffixes_longest_1 v_table_suffixes_words_1 v_table_known_1 v_table_bits_1 v_hypothesis_size v_hypothesis_letters v_hypothesis_moves v_hypothesis_finals v_representatives v_o1_lieCount v_o1_machine_size v_o1_machine_letters v_o1_machine_moves v_o1_machine_finals v_o1_lies v_o2_length_1 v_o2_queued_1 v_o2_seen_1 v_o2_queue_1 v_o2_origin_1 v_o2_arrival_1 v_o2_letters_1) := ⟨[19, 0, 1, 20, 21, 22, 23, 24, 2, 3, 4, 5, 6, 7, 8, 9, 10, 11, 12, 13, 14, 15, 16, 17, 18], rfl, rfl⟩
                    refine r_VI (r := r_5) (As := [.int t, .long r_4]) (rest := []) (wc' := (ws_Le_addParts cI cJ cZ q_this q_asked q_table q_hypothesis q_representatives q_table_prefixes q_table_suffixes q_table_known q_table_bits q_table_prefixes_words q_table_suffixes_words v_mode v_budget v_formed_1 v_counterexample v_corrections v_deceived v_table_letters v_table_prefixes_size_1 v_table_prefixes_longest_1 v_table_prefixes_words_1 v_table_suffixes_size_1 v_table_suffixes_longest_1 v_table_suffixes_words_1)) (ws' := (ws_Le_doStep cI cJ cZ q_this q_asked q_table q_hypothesis q_representatives q_asked_entries q_table_prefixes q_table_suffixes q_table_known q_table_bits q_table_prefixes_words q_table_suffixes_words q_hypothesis_moves q_hypothesis_finals q_o1 q_o1_machine q_o1_lies q_o1_machine_moves q_o1_machine_finals q_o2 q_o2_seen q_o2_queue q_o2_origin q_o2_arrival q_o2_letters v_mode v_budget v_formed_1 v_counterexample v_corrections v_deceived v_asked_size v_asked_entries v_table_letters v_table_prefixes_size_1 v_table_prefixes_longest_1 v_table_prefixes_words_1 v_table_suffixes_size_1 v_table_suffixes_longest_1 v_table_suffixes_words_1 v_table_known_1 v_table_bits_1 v_hypothesis_size v_hypothesis_letters v_hypothesis_moves v_hypothesis_finals v_representatives v_o1_lieCount v_o1_machine_size v_o1_machine_letters v_o1_machine_moves v_o1_machine_finals v_o1_lies v_o2_length_1 v_o2_queued_1 v_o2_seen_1 v_o2_queue_1 v_o2_origin_1 v_o2_arrival_1 v_o2_letters_1)) C0 w (c_Le_addParts hcall) hp hp' lm_RX1_123 mv_Le_addParts ⟨rfl, rfl⟩ ⟨by decide, by decide⟩ ⟨Nat.zero_le _, Nat.zero_le _⟩ (q0 := 0) rfl rfl rfl rfl hl rfl (Nat.le_of_ble_eq_true rfl) dX1_doStep_207 (fun H locs w => ?_)
                    exact w_Le_doStep_J210 C0 hQ h w (lv_sub hl [4, 0] rfl)
                  refine lv_icmp_ne (tgt := 204) hx hb dX1_doStep_197 (by decide) (fun hc => ?_) (fun hc => ?_)
                  · refine lv_iconst (v := (0 : Int32)) hx hb dX1_doStep_204 (by decide) ?_
                    exact r_eqi (et.trans (if_neg hc)) J
                  · refine lv_iconst (v := (1 : Int32)) hx hb dX1_doStep_200 (by decide) ?_
                    refine lv_goto (tgt := 205) hx hb dX1_doStep_201 (by decide) ?_
                    exact r_eqi (et.trans (if_pos hc)) J
                · have h := if_h hc h
                  refine lv_aload_n hx hb dX1_doStep_181 rfl (lv_at hl 4 rfl) ?_
                  refine lv_lload hx hb dX1_doStep_182 (lv_at hl 0 rfl) ?_
                  refine lv_aload_n hx hb dX1_doStep_184 rfl (lv_at hl 5 rfl) ?_
                  obtain ⟨r_6, v_asked_entries_1, v_asked_size_1, v_table_prefixes_words_2, v_table_prefixes_size_2, v_table_prefixes_longest_2, v_table_suffixes_words_2, v_table_suffixes_size_2, v_table_suffixes_longest_2, v_formed_2, hcall, h⟩ := bd10_h h
                  have hp := sp_of (ws := (ws_Le_doStep cI cJ cZ q_this q_asked q_table q_hypothesis q_representatives q_asked_entries q_table_prefixes q_table_suffixes q_table_known q_table_bits q_table_prefixes_words q_table_suffixes_words q_hypothesis_moves q_hypothesis_finals q_o1 q_o1_machine q_o1_lies q_o1_machine_moves q_o1_machine_finals q_o2 q_o2_seen q_o2_queue q_o2_origin q_o2_arrival q_o2_letters v_mode v_budget v_formed v_counterexample v_corrections v_deceived v_asked_size v_asked_entries v_table_letters v_table_prefixes_size v_table_prefixes_longest v_table_prefixes_words v_table_suffixes_size v_table_suffixes_longest v_table_suffixes_words v_table_known_1 v_table_bits_1 v_hypothesis_size v_hypothesis_letters v_hypothesis_moves v_hypothesis_finals v_representatives v_o1_lieCount v_o1_machine_size v_o1_machine_letters v_o1_machine_moves v_o1_machine_finals v_o1_lies v_o2_length_1 v_o2_queued_1 v_o2_seen_1 v_o2_queue_1 v_o2_origin_1 v_o2_arrival_1 v_o2_letters_1)) (wc := (ws_Le_addSplit cI cJ cZ q_this q_asked q_table q_hypothesis q_representatives q_asked_entries q_table_prefixes q_table_suffixes q_table_known q_table_bits q_table_prefixes_words q_table_suffixes_words q_hypothesis_moves q_hypothesis_finals q_o1 q_o1_machine q_o1_lies q_o1_machine_moves q_o1_machine_finals v_mode v_budget v_formed v_counterexample v_corrections v_deceived v_asked_size v_asked_entries v_table_letters v_table_prefixes_size v_table_prefixes_longest v_table_prefixes_words v_table_suffixes_size v_table_suffixes_longest v_table_suffixes_words v_hypothesis_size v_hypothesis_letters v_hypothesis_moves v_representatives v_o1_lieCount v_o1_machine_size v_o1_machine_letters v_o1_machine_moves v_o1_machine_finals v_o1_lies)) [0, 1, 2, 3, 4, 5, 6, 7, 10, 11, 13, 14, 15, 16, 17, 18] [8, 9, 12, 19, 20, 21, 22, 23, 24] rfl rfl
                  have hp' : Rp (pk (ws_Le_doStep cI cJ cZ q_this q_asked q_table q_hypothesis q_representatives q_asked_entries q_table_prefixes q_table_suffixes q_table_known q_table_bits q_table_prefixes_words q_table_suffixes_words q_hypothesis_moves q_hypothesis_finals q_o1 q_o1_machine q_o1_lies q_o1_machine_moves q_o1_machine_finals q_o2 q_o2_seen q_o2_queue q_o2_origin q_o2_arrival q_o2_letters v_mode v_budget v_formed v_counterexample v_corrections v_deceived v_asked_size v_asked_entries v_table_letters v_table_prefixes_size v_table_prefixes_longest v_table_prefixes_words v_table_suffixes_size v_table_suffixes_longest v_table_suffixes_words v_table_known_1 v_table_bits_1 v_hypothesis_size v_hypothesis_letters v_hypothesis_moves v_hypothesis_finals v_representatives v_o1_lieCount v_o1_machine_size v_o1_machine_letters v_o1_machine_moves v_o1_machine_finals v_o1_lies v_o2_length_1 v_o2_queued_1 v_o2_seen_1 v_o2_queue_1 v_o2_origin_1 v_o2_arrival_1 v_o2_letters_1) [8, 9, 12, 19, 20, 21, 22, 23, 24] ++ (ws_Le_addSplit cI cJ cZ q_this q_asked q_table q_hypothesis q_representatives q_asked_entries q_table_prefixes q_table_suffixes q_table_known q_table_bits q_table_prefixes_words q_table_suffixes_words q_hypothesis_moves q_hypothesis_finals q_o1 q_o1_machine q_o1_lies q_o1_machine_moves q_o1_machine_finals v_mode v_budget v_formed_2 v_counterexample v_corrections v_deceived v_asked_size_1 v_asked_entries_1 v_table_letters v_table_prefixes_size_2 v_table_prefixes_longest_2 v_table_prefixes_words_2 v_table_suffixes_size_2 v_table_suffixes_longest_2 v_table_suffixes_words_2 v_hypothesis_size v_hypothesis_letters v_hypothesis_moves v_representatives v_o1_lieCount v_o1_machine_size v_o1_machine_letters v_o1_machine_moves v_o1_machine_finals v_o1_lies)) (ws_Le_doStep cI cJ cZ q_this q_asked q_table q_hypothesis q_representatives q_asked_entries q_table_prefixes q_table_suffixes q_table_known q_table_bits q_table_prefixes_words q_table_suffixes_words q_hypothesis_moves q_hypothesis_finals q_o1 q_o1_machine q_o1_lies q_o1_machine_moves q_o1_machine_finals q_o2 q_o2_seen q_o2_queue q_o2_origin q_o2_arrival q_o2_letters v_mode v_budget v_formed_2 v_counterexample v_corrections v_deceived v_asked_size_1 v_asked_entries_1 v_table_letters v_table_prefixes_size_2 v_table_prefixes_longest_2 v_table_prefixes_words_2 v_table_suffixes_size_2 v_table_suffixes_longest_2 v_table_suffixes_words_2 v_table_known_1 v_table_bits_1 v_hypothesis_size v_hypothesis_letters v_hypothesis_moves v_hypothesis_finals v_representatives v_o1_lieCount v_o1_machine_size v_o1_machine_letters v_o1_machine_moves v_o1_machine_finals v_o1_lies v_o2_length_1 v_o2_queued_1 v_o2_seen_1 v_o2_queue_1 v_o2_origin_1 v_o2_arrival_1 v_o2_letters_1) := ⟨[9, 10, 11, 12, 13, 14, 15, 16, 0, 1, 17, 18, 2, 19, 20, 21, 22, 23, 24, 3, 4, 5, 6, 7, 8], rfl, rfl⟩
                  refine r_VI (r := r_6) (As := [.long r_4, .ref q_o1]) (rest := []) (wc' := (ws_Le_addSplit cI cJ cZ q_this q_asked q_table q_hypothesis q_representatives q_asked_entries q_table_prefixes q_table_suffixes q_table_known q_table_bits q_table_prefixes_words q_table_suffixes_words q_hypothesis_moves q_hypothesis_finals q_o1 q_o1_machine q_o1_lies q_o1_machine_moves q_o1_machine_finals v_mode v_budget v_formed_2 v_counterexample v_corrections v_deceived v_asked_size_1 v_asked_entries_1 v_table_letters v_table_prefixes_size_2 v_table_prefixes_longest_2 v_table_prefixes_words_2 v_table_suffixes_size_2 v_table_suffixes_longest_2 v_table_suffixes_words_2 v_hypothesis_size v_hypothesis_letters v_hypothesis_moves v_representatives v_o1_lieCount v_o1_machine_size v_o1_machine_letters v_o1_machine_moves v_o1_machine_finals v_o1_lies)) (ws' := (ws_Le_doStep cI cJ cZ q_this q_asked q_table q_hypothesis q_representatives q_asked_entries q_table_prefixes q_table_suffixes q_table_known q_table_bits q_table_prefixes_words q_table_suffixes_words q_hypothesis_moves q_hypothesis_finals q_o1 q_o1_machine q_o1_lies q_o1_machine_moves q_o1_machine_finals q_o2 q_o2_seen q_o2_queue q_o2_origin q_o2_arrival q_o2_letters v_mode v_budget v_formed_2 v_counterexample v_corrections v_deceived v_asked_size_1 v_asked_entries_1 v_table_letters v_table_prefixes_size_2 v_table_prefixes_longest_2 v_table_prefixes_words_2 v_table_suffixes_size_2 v_table_suffixes_longest_2 v_table_suffixes_words_2 v_table_known_1 v_table_bits_1 v_hypothesis_size v_hypothesis_letters v_hypothesis_moves v_hypothesis_finals v_representatives v_o1_lieCount v_o1_machine_size v_o1_machine_letters v_o1_machine_moves v_o1_machine_finals v_o1_lies v_o2_length_1 v_o2_queued_1 v_o2_seen_1 v_o2_queue_1 v_o2_origin_1 v_o2_arrival_1 v_o2_letters_1)) C0 w (c_Le_addSplit hcall) hp hp' lm_RX1_120 mv_Le_addSplit ⟨rfl, rfl⟩ ⟨by decide, by decide⟩ ⟨Nat.zero_le _, Nat.zero_le _⟩ (q0 := 0) rfl rfl rfl rfl hl rfl (Nat.le_of_ble_eq_true rfl) dX1_doStep_185 (fun H locs w => ?_)
                  refine lv_goto (tgt := 210) hx hb dX1_doStep_188 (by decide) ?_
                  exact w_Le_doStep_J210 C0 hQ h w (lv_sub hl [4, 0] rfl)
              · have h := nf_h hc h
                refine lv_bipush (v := (-5 : Int32)) hx hb dX1_doStep_164 (by decide) ?_
                cases h
                exact hQ _ _ _ _ dX1_doStep_166 rfl w
            · have h := if_h hc h
              refine lv_bipush (v := (6 : Int32)) hx hb dX1_doStep_152 (by decide) ?_
              cases h
              exact hQ _ _ _ _ dX1_doStep_154 rfl w
          · have h := if_h hc h
            refine lv_aload_n hx hb dX1_doStep_129 rfl (lv_at hl 3 rfl) ?_
            obtain ⟨v_hypothesis_moves_1, v_hypothesis_finals_1, v_hypothesis_size_1, v_hypothesis_letters_1, v_representatives_1, v_formed_3, hcall, h⟩ := bd6_h h
            have hp := sp_of (ws := (ws_Le_doStep cI cJ cZ q_this q_asked q_table q_hypothesis q_representatives q_asked_entries q_table_prefixes q_table_suffixes q_table_known q_table_bits q_table_prefixes_words q_table_suffixes_words q_hypothesis_moves q_hypothesis_finals q_o1 q_o1_machine q_o1_lies q_o1_machine_moves q_o1_machine_finals q_o2 q_o2_seen q_o2_queue q_o2_origin q_o2_arrival q_o2_letters v_mode v_budget v_formed v_counterexample v_corrections v_deceived v_asked_size v_asked_entries v_table_letters v_table_prefixes_size v_table_prefixes_longest v_table_prefixes_words v_table_suffixes_size v_table_suffixes_longest v_table_suffixes_words v_table_known_1 v_table_bits_1 v_hypothesis_size v_hypothesis_letters v_hypothesis_moves v_hypothesis_finals v_representatives v_o1_lieCount v_o1_machine_size v_o1_machine_letters v_o1_machine_moves v_o1_machine_finals v_o1_lies v_o2_length v_o2_queued v_o2_seen v_o2_queue v_o2_origin v_o2_arrival v_o2_letters)) (wc := (ws_Le_formHypothesis cI cJ cZ q_this q_asked q_table q_hypothesis q_representatives q_table_prefixes q_table_suffixes q_table_known q_table_bits q_table_prefixes_words q_hypothesis_moves q_hypothesis_finals v_mode v_budget v_formed v_counterexample v_corrections v_deceived v_table_letters v_table_prefixes_size v_table_prefixes_longest v_table_bits_1 v_hypothesis_size v_hypothesis_letters v_hypothesis_moves v_hypothesis_finals v_representatives)) [0, 3, 4, 9, 10, 11, 12, 13] [1, 2, 5, 6, 7, 8, 14, 15, 16, 17, 18, 19, 20, 21, 22, 23, 24] rfl rfl
            have hp' : Rp (pk (ws_Le_doStep cI cJ cZ q_this q_asked q_table q_hypothesis q_representatives q_asked_entries q_table_prefixes q_table_suffixes q_table_known q_table_bits q_table_prefixes_words q_table_suffixes_words q_hypothesis_moves q_hypothesis_finals q_o1 q_o1_machine q_o1_lies q_o1_machine_moves q_o1_machine_finals q_o2 q_o2_seen q_o2_queue q_o2_origin q_o2_arrival q_o2_letters v_mode v_budget v_formed v_counterexample v_corrections v_deceived v_asked_size v_asked_entries v_table_letters v_table_prefixes_size v_table_prefixes_longest v_table_prefixes_words v_table_suffixes_size v_table_suffixes_longest v_table_suffixes_words v_table_known_1 v_table_bits_1 v_hypothesis_size v_hypothesis_letters v_hypothesis_moves v_hypothesis_finals v_representatives v_o1_lieCount v_o1_machine_size v_o1_machine_letters v_o1_machine_moves v_o1_machine_finals v_o1_lies v_o2_length v_o2_queued v_o2_seen v_o2_queue v_o2_origin v_o2_arrival v_o2_letters) [1, 2, 5, 6, 7, 8, 14, 15, 16, 17, 18, 19, 20, 21, 22, 23, 24] ++ (ws_Le_formHypothesis cI cJ cZ q_this q_asked q_table q_hypothesis q_representatives q_table_prefixes q_table_suffixes q_table_known q_table_bits q_table_prefixes_words q_hypothesis_moves q_hypothesis_finals v_mode v_budget v_formed_3 v_counterexample v_corrections v_deceived v_table_letters v_table_prefixes_size v_table_prefixes_longest v_table_bits_1 v_hypothesis_size_1 v_hypothesis_letters_1 v_hypothesis_moves_1 v_hypothesis_finals_1 v_representatives_1)) (ws_Le_doStep cI cJ cZ q_this q_asked q_table q_hypothesis q_representatives q_asked_entries q_table_prefixes q_table_suffixes q_table_known q_table_bits q_table_prefixes_words q_table_suffixes_words q_hypothesis_moves q_hypothesis_finals q_o1 q_o1_machine q_o1_lies q_o1_machine_moves q_o1_machine_finals q_o2 q_o2_seen q_o2_queue q_o2_origin q_o2_arrival q_o2_letters v_mode v_budget v_formed_3 v_counterexample v_corrections v_deceived v_asked_size v_asked_entries v_table_letters v_table_prefixes_size v_table_prefixes_longest v_table_prefixes_words v_table_suffixes_size v_table_suffixes_longest v_table_suffixes_words v_table_known_1 v_table_bits_1 v_hypothesis_size_1 v_hypothesis_letters_1 v_hypothesis_moves_1 v_hypothesis_finals_1 v_representatives_1 v_o1_lieCount v_o1_machine_size v_o1_machine_letters v_o1_machine_moves v_o1_machine_finals v_o1_lies v_o2_length v_o2_queued v_o2_seen v_o2_queue v_o2_origin v_o2_arrival v_o2_letters) := ⟨[17, 0, 1, 18, 19, 2, 3, 4, 5, 20, 21, 22, 23, 24, 6, 7, 8, 9, 10, 11, 12, 13, 14, 15, 16], rfl, rfl⟩
            refine r_VV (As := []) (rest := []) (wc' := (ws_Le_formHypothesis cI cJ cZ q_this q_asked q_table q_hypothesis q_representatives q_table_prefixes q_table_suffixes q_table_known q_table_bits q_table_prefixes_words q_hypothesis_moves q_hypothesis_finals v_mode v_budget v_formed_3 v_counterexample v_corrections v_deceived v_table_letters v_table_prefixes_size v_table_prefixes_longest v_table_bits_1 v_hypothesis_size_1 v_hypothesis_letters_1 v_hypothesis_moves_1 v_hypothesis_finals_1 v_representatives_1)) (ws' := (ws_Le_doStep cI cJ cZ q_this q_asked q_table q_hypothesis q_representatives q_asked_entries q_table_prefixes q_table_suffixes q_table_known q_table_bits q_table_prefixes_words q_table_suffixes_words q_hypothesis_moves q_hypothesis_finals q_o1 q_o1_machine q_o1_lies q_o1_machine_moves q_o1_machine_finals q_o2 q_o2_seen q_o2_queue q_o2_origin q_o2_arrival q_o2_letters v_mode v_budget v_formed_3 v_counterexample v_corrections v_deceived v_asked_size v_asked_entries v_table_letters v_table_prefixes_size v_table_prefixes_longest v_table_prefixes_words v_table_suffixes_size v_table_suffixes_longest v_table_suffixes_words v_table_known_1 v_table_bits_1 v_hypothesis_size_1 v_hypothesis_letters_1 v_hypothesis_moves_1 v_hypothesis_finals_1 v_representatives_1 v_o1_lieCount v_o1_machine_size v_o1_machine_letters v_o1_machine_moves v_o1_machine_finals v_o1_lies v_o2_length v_o2_queued v_o2_seen v_o2_queue v_o2_origin v_o2_arrival v_o2_letters)) C0 w (c_Le_formHypothesis hcall) hp hp' lm_RX1_102 mv_Le_formHypothesis ⟨rfl, rfl⟩ ⟨by decide, by decide⟩ ⟨Nat.zero_le _, Nat.zero_le _⟩ (q0 := 0) rfl rfl rfl rfl hl rfl (Nat.le_of_ble_eq_true rfl) dX1_doStep_130 (fun H locs w => ?_)
            refine lv_iconst (v := (4 : Int32)) hx hb dX1_doStep_133 (by decide) ?_
            cases h
            exact hQ _ _ _ _ dX1_doStep_134 rfl w
        · have h := nf_h hc h
          refine lv_aload_n hx hb dX1_doStep_103 rfl (lv_at hl 3 rfl) ?_
          refine lv_iconst (v := (1 : Int32)) hx hb dX1_doStep_104 (by decide) ?_
          refine lv_lload hx hb dX1_doStep_105 (lv_at hl 0 rfl) ?_
          obtain ⟨r_7, v_table_prefixes_words_3, v_table_prefixes_size_3, v_table_prefixes_longest_3, v_table_suffixes_words_3, v_table_suffixes_size_3, v_table_suffixes_longest_3, v_formed_4, hcall, h⟩ := bd8_h h
          have hp := sp_of (ws := (ws_Le_doStep cI cJ cZ q_this q_asked q_table q_hypothesis q_representatives q_asked_entries q_table_prefixes q_table_suffixes q_table_known q_table_bits q_table_prefixes_words q_table_suffixes_words q_hypothesis_moves q_hypothesis_finals q_o1 q_o1_machine q_o1_lies q_o1_machine_moves q_o1_machine_finals q_o2 q_o2_seen q_o2_queue q_o2_origin q_o2_arrival q_o2_letters v_mode v_budget v_formed v_counterexample v_corrections v_deceived v_asked_size v_asked_entries v_table_letters v_table_prefixes_size v_table_prefixes_longest v_table_prefixes_words v_table_suffixes_size v_table_suffixes_longest v_table_suffixes_words v_table_known_1 v_table_bits_1 v_hypothesis_size v_hypothesis_letters v_hypothesis_moves v_hypothesis_finals v_representatives v_o1_lieCount v_o1_machine_size v_o1_machine_letters v_o1_machine_moves v_o1_machine_finals v_o1_lies v_o2_length v_o2_queued v_o2_seen v_o2_queue v_o2_origin v_o2_arrival v_o2_letters)) (wc := (ws_Le_addWord cI cJ cZ q_this q_asked q_table q_hypothesis q_representatives q_table_prefixes q_table_suffixes q_table_known q_table_bits q_table_prefixes_words q_table_suffixes_words v_mode v_budget v_formed v_counterexample v_corrections v_deceived v_table_letters v_table_prefixes_size v_table_prefixes_longest v_table_prefixes_words v_table_suffixes_size v_table_suffixes_longest v_table_suffixes_words)) [0, 3, 4, 5, 6, 7] [1, 2, 8, 9, 10, 11, 12, 13, 14, 15, 16, 17, 18, 19, 20, 21, 22, 23, 24] rfl rfl
          have hp' : Rp (pk (ws_Le_doStep cI cJ cZ q_this q_asked q_table q_hypothesis q_representatives q_asked_entries q_table_prefixes q_table_suffixes q_table_known q_table_bits q_table_prefixes_words q_table_suffixes_words q_hypothesis_moves q_hypothesis_finals q_o1 q_o1_machine q_o1_lies q_o1_machine_moves q_o1_machine_finals q_o2 q_o2_seen q_o2_queue q_o2_origin q_o2_arrival q_o2_letters v_mode v_budget v_formed v_counterexample v_corrections v_deceived v_asked_size v_asked_entries v_table_letters v_table_prefixes_size v_table_prefixes_longest v_table_prefixes_words v_table_suffixes_size v_table_suffixes_longest v_table_suffixes_words v_table_known_1 v_table_bits_1 v_hypothesis_size v_hypothesis_letters v_hypothesis_moves v_hypothesis_finals v_representatives v_o1_lieCount v_o1_machine_size v_o1_machine_letters v_o1_machine_moves v_o1_machine_finals v_o1_lies v_o2_length v_o2_queued v_o2_seen v_o2_queue v_o2_origin v_o2_arrival v_o2_letters) [1, 2, 8, 9, 10, 11, 12, 13, 14, 15, 16, 17, 18, 19, 20, 21, 22, 23, 24] ++ (ws_Le_addWord cI cJ cZ q_this q_asked q_table q_hypothesis q_representatives q_table_prefixes q_table_suffixes q_table_known q_table_bits q_table_prefixes_words q_table_suffixes_words v_mode v_budget v_formed_4 v_counterexample v_corrections v_deceived v_table_letters v_table_prefixes_size_3 v_table_prefixes_longest_3 v_table_prefixes_words_3 v_table_suffixes_size_3 v_table_suffixes_longest_3 v_table_suffixes_words_3)) (ws_Le_doStep cI cJ cZ q_this q_asked q_table q_hypothesis q_representatives q_asked_entries q_table_prefixes q_table_suffixes q_table_known q_table_bits q_table_prefixes_words q_table_suffixes_words q_hypothesis_moves q_hypothesis_finals q_o1 q_o1_machine q_o1_lies q_o1_machine_moves q_o1_machine_finals q_o2 q_o2_seen q_o2_queue q_o2_origin q_o2_arrival q_o2_letters v_mode v_budget v_formed_4 v_counterexample v_corrections v_deceived v_asked_size v_asked_entries v_table_letters v_table_prefixes_size_3 v_table_prefixes_longest_3 v_table_prefixes_words_3 v_table_suffixes_size_3 v_table_suffixes_longest_3 v_table_suffixes_words_3 v_table_known_1 v_table_bits_1 v_hypothesis_size v_hypothesis_letters v_hypothesis_moves v_hypothesis_finals v_representatives v_o1_lieCount v_o1_machine_size v_o1_machine_letters v_o1_machine_moves v_o1_machine_finals v_o1_lies v_o2_length v_o2_queued v_o2_seen v_o2_queue v_o2_origin v_o2_arrival v_o2_letters) := ⟨[19, 0, 1, 20, 21, 22, 23, 24, 2, 3, 4, 5, 6, 7, 8, 9, 10, 11, 12, 13, 14, 15, 16, 17, 18], rfl, rfl⟩
          refine r_VI (r := r_7) (As := [.int (1 : Int32), .long r_2]) (rest := []) (wc' := (ws_Le_addWord cI cJ cZ q_this q_asked q_table q_hypothesis q_representatives q_table_prefixes q_table_suffixes q_table_known q_table_bits q_table_prefixes_words q_table_suffixes_words v_mode v_budget v_formed_4 v_counterexample v_corrections v_deceived v_table_letters v_table_prefixes_size_3 v_table_prefixes_longest_3 v_table_prefixes_words_3 v_table_suffixes_size_3 v_table_suffixes_longest_3 v_table_suffixes_words_3)) (ws' := (ws_Le_doStep cI cJ cZ q_this q_asked q_table q_hypothesis q_representatives q_asked_entries q_table_prefixes q_table_suffixes q_table_known q_table_bits q_table_prefixes_words q_table_suffixes_words q_hypothesis_moves q_hypothesis_finals q_o1 q_o1_machine q_o1_lies q_o1_machine_moves q_o1_machine_finals q_o2 q_o2_seen q_o2_queue q_o2_origin q_o2_arrival q_o2_letters v_mode v_budget v_formed_4 v_counterexample v_corrections v_deceived v_asked_size v_asked_entries v_table_letters v_table_prefixes_size_3 v_table_prefixes_longest_3 v_table_prefixes_words_3 v_table_suffixes_size_3 v_table_suffixes_longest_3 v_table_suffixes_words_3 v_table_known_1 v_table_bits_1 v_hypothesis_size v_hypothesis_letters v_hypothesis_moves v_hypothesis_finals v_representatives v_o1_lieCount v_o1_machine_size v_o1_machine_letters v_o1_machine_moves v_o1_machine_finals v_o1_lies v_o2_length v_o2_queued v_o2_seen v_o2_queue v_o2_origin v_o2_arrival v_o2_letters)) C0 w (c_Le_addWord hcall) hp hp' lm_RX1_95 mv_Le_addWord ⟨rfl, rfl⟩ ⟨by decide, by decide⟩ ⟨Nat.zero_le _, Nat.zero_le _⟩ (q0 := 0) rfl rfl rfl rfl hl rfl (Nat.le_of_ble_eq_true rfl) dX1_doStep_107 (fun H locs w => ?_)
          refine lv_bipush (v := (-5 : Int32)) hx hb dX1_doStep_110 (by decide) ?_
          obtain ⟨t_1, et_1⟩ : ∃ y : Int32, y = (if r_7 = (-5 : Int32) then (-5 : Int32) else (3 : Int32)) := ⟨_, rfl⟩
          have h := bnd_at et_1 h
          have J : W p l e rm_Le_doStep s m args below meth c H locs 0 0 Q (F0 m 121 ls [.int t_1]) := by
            cases h
            exact hQ _ _ _ _ dX1_doStep_121 rfl w
          refine lv_icmp_ne (tgt := 120) hx hb dX1_doStep_112 (by decide) (fun hc => ?_) (fun hc => ?_)
          · refine lv_iconst (v := (3 : Int32)) hx hb dX1_doStep_120 (by decide) ?_
            exact r_eqi (et_1.trans (if_neg hc)) J
          · refine lv_bipush (v := (-5 : Int32)) hx hb dX1_doStep_115 (by decide) ?_
            refine lv_goto (tgt := 121) hx hb dX1_doStep_117 (by decide) ?_
            exact r_eqi (et_1.trans (if_pos hc)) J
      · have h := nf_h hc h
        refine lv_aload_n hx hb dX1_doStep_66 rfl (lv_at hl 2 rfl) ?_
        refine lv_iconst (v := (0 : Int32)) hx hb dX1_doStep_67 (by decide) ?_
        refine lv_lload hx hb dX1_doStep_68 (lv_at hl 0 rfl) ?_
        obtain ⟨r_8, v_table_prefixes_words_4, v_table_prefixes_size_4, v_table_prefixes_longest_4, v_table_suffixes_words_4, v_table_suffixes_size_4, v_table_suffixes_longest_4, v_formed_5, hcall, h⟩ := bd8_h h
        have hp := sp_of (ws := (ws_Le_doStep cI cJ cZ q_this q_asked q_table q_hypothesis q_representatives q_asked_entries q_table_prefixes q_table_suffixes q_table_known q_table_bits q_table_prefixes_words q_table_suffixes_words q_hypothesis_moves q_hypothesis_finals q_o1 q_o1_machine q_o1_lies q_o1_machine_moves q_o1_machine_finals q_o2 q_o2_seen q_o2_queue q_o2_origin q_o2_arrival q_o2_letters v_mode v_budget v_formed v_counterexample v_corrections v_deceived v_asked_size v_asked_entries v_table_letters v_table_prefixes_size v_table_prefixes_longest v_table_prefixes_words v_table_suffixes_size v_table_suffixes_longest v_table_suffixes_words v_table_known_1 v_table_bits_1 v_hypothesis_size v_hypothesis_letters v_hypothesis_moves v_hypothesis_finals v_representatives v_o1_lieCount v_o1_machine_size v_o1_machine_letters v_o1_machine_moves v_o1_machine_finals v_o1_lies v_o2_length v_o2_queued v_o2_seen v_o2_queue v_o2_origin v_o2_arrival v_o2_letters)) (wc := (ws_Le_addWord cI cJ cZ q_this q_asked q_table q_hypothesis q_representatives q_table_prefixes q_table_suffixes q_table_known q_table_bits q_table_prefixes_words q_table_suffixes_words v_mode v_budget v_formed v_counterexample v_corrections v_deceived v_table_letters v_table_prefixes_size v_table_prefixes_longest v_table_prefixes_words v_table_suffixes_size v_table_suffixes_longest v_table_suffixes_words)) [0, 3, 4, 5, 6, 7] [1, 2, 8, 9, 10, 11, 12, 13, 14, 15, 16, 17, 18, 19, 20, 21, 22, 23, 24] rfl rfl
        have hp' : Rp (pk (ws_Le_doStep cI cJ cZ q_this q_asked q_table q_hypothesis q_representatives q_asked_entries q_table_prefixes q_table_suffixes q_table_known q_table_bits q_table_prefixes_words q_table_suffixes_words q_hypothesis_moves q_hypothesis_finals q_o1 q_o1_machine q_o1_lies q_o1_machine_moves q_o1_machine_finals q_o2 q_o2_seen q_o2_queue q_o2_origin q_o2_arrival q_o2_letters v_mode v_budget v_formed v_counterexample v_corrections v_deceived v_asked_size v_asked_entries v_table_letters v_table_prefixes_size v_table_prefixes_longest v_table_prefixes_words v_table_suffixes_size v_table_suffixes_longest v_table_suffixes_words v_table_known_1 v_table_bits_1 v_hypothesis_size v_hypothesis_letters v_hypothesis_moves v_hypothesis_finals v_representatives v_o1_lieCount v_o1_machine_size v_o1_machine_letters v_o1_machine_moves v_o1_machine_finals v_o1_lies v_o2_length v_o2_queued v_o2_seen v_o2_queue v_o2_origin v_o2_arrival v_o2_letters) [1, 2, 8, 9, 10, 11, 12, 13, 14, 15, 16, 17, 18, 19, 20, 21, 22, 23, 24] ++ (ws_Le_addWord cI cJ cZ q_this q_asked q_table q_hypothesis q_representatives q_table_prefixes q_table_suffixes q_table_known q_table_bits q_table_prefixes_words q_table_suffixes_words v_mode v_budget v_formed_5 v_counterexample v_corrections v_deceived v_table_letters v_table_prefixes_size_4 v_table_prefixes_longest_4 v_table_prefixes_words_4 v_table_suffixes_size_4 v_table_suffixes_longest_4 v_table_suffixes_words_4)) (ws_Le_doStep cI cJ cZ q_this q_asked q_table q_hypothesis q_representatives q_asked_entries q_table_prefixes q_table_suffixes q_table_known q_table_bits q_table_prefixes_words q_table_suffixes_words q_hypothesis_moves q_hypothesis_finals q_o1 q_o1_machine q_o1_lies q_o1_machine_moves q_o1_machine_finals q_o2 q_o2_seen q_o2_queue q_o2_origin q_o2_arrival q_o2_letters v_mode v_budget v_formed_5 v_counterexample v_corrections v_deceived v_asked_size v_asked_entries v_table_letters v_table_prefixes_size_4 v_table_prefixes_longest_4 v_table_prefixes_words_4 v_table_suffixes_size_4 v_table_suffixes_longest_4 v_table_suffixes_words_4 v_table_known_1 v_table_bits_1 v_hypothesis_size v_hypothesis_letters v_hypothesis_moves v_hypothesis_finals v_representatives v_o1_lieCount v_o1_machine_size v_o1_machine_letters v_o1_machine_moves v_o1_machine_finals v_o1_lies v_o2_length v_o2_queued v_o2_seen v_o2_queue v_o2_origin v_o2_arrival v_o2_letters) := ⟨[19, 0, 1, 20, 21, 22, 23, 24, 2, 3, 4, 5, 6, 7, 8, 9, 10, 11, 12, 13, 14, 15, 16, 17, 18], rfl, rfl⟩
        refine r_VI (r := r_8) (As := [.int (0 : Int32), .long r_1]) (rest := []) (wc' := (ws_Le_addWord cI cJ cZ q_this q_asked q_table q_hypothesis q_representatives q_table_prefixes q_table_suffixes q_table_known q_table_bits q_table_prefixes_words q_table_suffixes_words v_mode v_budget v_formed_5 v_counterexample v_corrections v_deceived v_table_letters v_table_prefixes_size_4 v_table_prefixes_longest_4 v_table_prefixes_words_4 v_table_suffixes_size_4 v_table_suffixes_longest_4 v_table_suffixes_words_4)) (ws' := (ws_Le_doStep cI cJ cZ q_this q_asked q_table q_hypothesis q_representatives q_asked_entries q_table_prefixes q_table_suffixes q_table_known q_table_bits q_table_prefixes_words q_table_suffixes_words q_hypothesis_moves q_hypothesis_finals q_o1 q_o1_machine q_o1_lies q_o1_machine_moves q_o1_machine_finals q_o2 q_o2_seen q_o2_queue q_o2_origin q_o2_arrival q_o2_letters v_mode v_budget v_formed_5 v_counterexample v_corrections v_deceived v_asked_size v_asked_entries v_table_letters v_table_prefixes_size_4 v_table_prefixes_longest_4 v_table_prefixes_words_4 v_table_suffixes_size_4 v_table_suffixes_longest_4 v_table_suffixes_words_4 v_table_known_1 v_table_bits_1 v_hypothesis_size v_hypothesis_letters v_hypothesis_moves v_hypothesis_finals v_representatives v_o1_lieCount v_o1_machine_size v_o1_machine_letters v_o1_machine_moves v_o1_machine_finals v_o1_lies v_o2_length v_o2_queued v_o2_seen v_o2_queue v_o2_origin v_o2_arrival v_o2_letters)) C0 w (c_Le_addWord hcall) hp hp' lm_RX1_95 mv_Le_addWord ⟨rfl, rfl⟩ ⟨by decide, by decide⟩ ⟨Nat.zero_le _, Nat.zero_le _⟩ (q0 := 0) rfl rfl rfl rfl hl rfl (Nat.le_of_ble_eq_true rfl) dX1_doStep_70 (fun H locs w => ?_)
        refine lv_bipush (v := (-5 : Int32)) hx hb dX1_doStep_73 (by decide) ?_
        obtain ⟨t_2, et_2⟩ : ∃ y : Int32, y = (if r_8 = (-5 : Int32) then (-5 : Int32) else (2 : Int32)) := ⟨_, rfl⟩
        have h := bnd_at et_2 h
        have J : W p l e rm_Le_doStep s m args below meth c H locs 0 0 Q (F0 m 84 ls [.int t_2]) := by
          cases h
          exact hQ _ _ _ _ dX1_doStep_84 rfl w
        refine lv_icmp_ne (tgt := 83) hx hb dX1_doStep_75 (by decide) (fun hc => ?_) (fun hc => ?_)
        · refine lv_iconst (v := (2 : Int32)) hx hb dX1_doStep_83 (by decide) ?_
          exact r_eqi (et_2.trans (if_neg hc)) J
        · refine lv_bipush (v := (-5 : Int32)) hx hb dX1_doStep_78 (by decide) ?_
          refine lv_goto (tgt := 84) hx hb dX1_doStep_80 (by decide) ?_
          exact r_eqi (et_2.trans (if_pos hc)) J
    · have h := nf_h hc h
      refine lv_aload_n hx hb dX1_doStep_30 rfl (lv_at hl 1 rfl) ?_
      refine lv_lload_n hx hb dX1_doStep_31 rfl (lv_at hl 0 rfl) ?_
      refine lv_aload_n hx hb dX1_doStep_32 rfl (lv_at hl 2 rfl) ?_
      obtain ⟨r_9, v_asked_entries_2, v_asked_size_2, hcall, h⟩ := bd3_h h
      have hp := sp_of (ws := (ws_Le_doStep cI cJ cZ q_this q_asked q_table q_hypothesis q_representatives q_asked_entries q_table_prefixes q_table_suffixes q_table_known q_table_bits q_table_prefixes_words q_table_suffixes_words q_hypothesis_moves q_hypothesis_finals q_o1 q_o1_machine q_o1_lies q_o1_machine_moves q_o1_machine_finals q_o2 q_o2_seen q_o2_queue q_o2_origin q_o2_arrival q_o2_letters v_mode v_budget v_formed v_counterexample v_corrections v_deceived v_asked_size v_asked_entries v_table_letters v_table_prefixes_size v_table_prefixes_longest v_table_prefixes_words v_table_suffixes_size v_table_suffixes_longest v_table_suffixes_words v_table_known_1 v_table_bits_1 v_hypothesis_size v_hypothesis_letters v_hypothesis_moves v_hypothesis_finals v_representatives v_o1_lieCount v_o1_machine_size v_o1_machine_letters v_o1_machine_moves v_o1_machine_finals v_o1_lies v_o2_length v_o2_queued v_o2_seen v_o2_queue v_o2_origin v_o2_arrival v_o2_letters)) (wc := (ws_Le_askAbout cI cJ cZ q_this q_asked q_table q_hypothesis q_representatives q_asked_entries q_o1 q_o1_machine q_o1_lies q_o1_machine_moves q_o1_machine_finals v_mode v_budget v_formed v_counterexample v_corrections v_deceived v_asked_size v_asked_entries v_o1_lieCount v_o1_machine_size v_o1_machine_letters v_o1_machine_moves v_o1_machine_finals v_o1_lies)) [0, 1, 2, 14, 15, 16, 17, 18] [3, 4, 5, 6, 7, 8, 9, 10, 11, 12, 13, 19, 20, 21, 22, 23, 24] rfl rfl
      have hp' : Rp (pk (ws_Le_doStep cI cJ cZ q_this q_asked q_table q_hypothesis q_representatives q_asked_entries q_table_prefixes q_table_suffixes q_table_known q_table_bits q_table_prefixes_words q_table_suffixes_words q_hypothesis_moves q_hypothesis_finals q_o1 q_o1_machine q_o1_lies q_o1_machine_moves q_o1_machine_finals q_o2 q_o2_seen q_o2_queue q_o2_origin q_o2_arrival q_o2_letters v_mode v_budget v_formed v_counterexample v_corrections v_deceived v_asked_size v_asked_entries v_table_letters v_table_prefixes_size v_table_prefixes_longest v_table_prefixes_words v_table_suffixes_size v_table_suffixes_longest v_table_suffixes_words v_table_known_1 v_table_bits_1 v_hypothesis_size v_hypothesis_letters v_hypothesis_moves v_hypothesis_finals v_representatives v_o1_lieCount v_o1_machine_size v_o1_machine_letters v_o1_machine_moves v_o1_machine_finals v_o1_lies v_o2_length v_o2_queued v_o2_seen v_o2_queue v_o2_origin v_o2_arrival v_o2_letters) [3, 4, 5, 6, 7, 8, 9, 10, 11, 12, 13, 19, 20, 21, 22, 23, 24] ++ (ws_Le_askAbout cI cJ cZ q_this q_asked q_table q_hypothesis q_representatives q_asked_entries q_o1 q_o1_machine q_o1_lies q_o1_machine_moves q_o1_machine_finals v_mode v_budget v_formed v_counterexample v_corrections v_deceived v_asked_size_2 v_asked_entries_2 v_o1_lieCount v_o1_machine_size v_o1_machine_letters v_o1_machine_moves v_o1_machine_finals v_o1_lies)) (ws_Le_doStep cI cJ cZ q_this q_asked q_table q_hypothesis q_representatives q_asked_entries q_table_prefixes q_table_suffixes q_table_known q_table_bits q_table_prefixes_words q_table_suffixes_words q_hypothesis_moves q_hypothesis_finals q_o1 q_o1_machine q_o1_lies q_o1_machine_moves q_o1_machine_finals q_o2 q_o2_seen q_o2_queue q_o2_origin q_o2_arrival q_o2_letters v_mode v_budget v_formed v_counterexample v_corrections v_deceived v_asked_size_2 v_asked_entries_2 v_table_letters v_table_prefixes_size v_table_prefixes_longest v_table_prefixes_words v_table_suffixes_size v_table_suffixes_longest v_table_suffixes_words v_table_known_1 v_table_bits_1 v_hypothesis_size v_hypothesis_letters v_hypothesis_moves v_hypothesis_finals v_representatives v_o1_lieCount v_o1_machine_size v_o1_machine_letters v_o1_machine_moves v_o1_machine_finals v_o1_lies v_o2_length v_o2_queued v_o2_seen v_o2_queue v_o2_origin v_o2_arrival v_o2_letters) := ⟨[17, 18, 19, 0, 1, 2, 3, 4, 5, 6, 7, 8, 9, 10, 20, 21, 22, 23, 24, 11, 12, 13, 14, 15, 16], rfl, rfl⟩
      refine r_VI (r := r_9) (As := [.long r, .ref q_o1]) (rest := []) (wc' := (ws_Le_askAbout cI cJ cZ q_this q_asked q_table q_hypothesis q_representatives q_asked_entries q_o1 q_o1_machine q_o1_lies q_o1_machine_moves q_o1_machine_finals v_mode v_budget v_formed v_counterexample v_corrections v_deceived v_asked_size_2 v_asked_entries_2 v_o1_lieCount v_o1_machine_size v_o1_machine_letters v_o1_machine_moves v_o1_machine_finals v_o1_lies)) (ws' := (ws_Le_doStep cI cJ cZ q_this q_asked q_table q_hypothesis q_representatives q_asked_entries q_table_prefixes q_table_suffixes q_table_known q_table_bits q_table_prefixes_words q_table_suffixes_words q_hypothesis_moves q_hypothesis_finals q_o1 q_o1_machine q_o1_lies q_o1_machine_moves q_o1_machine_finals q_o2 q_o2_seen q_o2_queue q_o2_origin q_o2_arrival q_o2_letters v_mode v_budget v_formed v_counterexample v_corrections v_deceived v_asked_size_2 v_asked_entries_2 v_table_letters v_table_prefixes_size v_table_prefixes_longest v_table_prefixes_words v_table_suffixes_size v_table_suffixes_longest v_table_suffixes_words v_table_known_1 v_table_bits_1 v_hypothesis_size v_hypothesis_letters v_hypothesis_moves v_hypothesis_finals v_representatives v_o1_lieCount v_o1_machine_size v_o1_machine_letters v_o1_machine_moves v_o1_machine_finals v_o1_lies v_o2_length v_o2_queued v_o2_seen v_o2_queue v_o2_origin v_o2_arrival v_o2_letters)) C0 w (c_Le_askAbout hcall) hp hp' lm_RX1_87 mv_Le_askAbout ⟨rfl, rfl⟩ ⟨by decide, by decide⟩ ⟨Nat.zero_le _, Nat.zero_le _⟩ (q0 := 0) rfl rfl rfl rfl hl rfl (Nat.le_of_ble_eq_true rfl) dX1_doStep_33 (fun H locs w => ?_)
      refine lv_bipush (v := (-4 : Int32)) hx hb dX1_doStep_36 (by decide) ?_
      obtain ⟨t_3, et_3⟩ : ∃ y : Int32, y = (if r_9 = (-4 : Int32) then (-4 : Int32) else (1 : Int32)) := ⟨_, rfl⟩
      have h := bnd_at et_3 h
      have J : W p l e rm_Le_doStep s m args below meth c H locs 0 0 Q (F0 m 47 ls [.int t_3]) := by
        cases h
        exact hQ _ _ _ _ dX1_doStep_47 rfl w
      refine lv_icmp_ne (tgt := 46) hx hb dX1_doStep_38 (by decide) (fun hc => ?_) (fun hc => ?_)
      · refine lv_iconst (v := (1 : Int32)) hx hb dX1_doStep_46 (by decide) ?_
        exact r_eqi (et_3.trans (if_neg hc)) J
      · refine lv_bipush (v := (-4 : Int32)) hx hb dX1_doStep_41 (by decide) ?_
        refine lv_goto (tgt := 47) hx hb dX1_doStep_43 (by decide) ?_
        exact r_eqi (et_3.trans (if_pos hc)) J
  · have h := nf_h hc h
    refine lv_bipush (v := (7 : Int32)) hx hb dX1_doStep_7 (by decide) ?_
    cases h
    exact hQ _ _ _ _ dX1_doStep_9 rfl w

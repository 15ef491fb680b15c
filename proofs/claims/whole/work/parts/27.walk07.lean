theorem dX10_parts_0 : decode cX10_parts 0 = .ok (.iconst 0, 1) := by decide +kernel
theorem dX10_parts_1 : decode cX10_parts 1 = .ok (.istore 4, 2) := by decide +kernel
theorem dX10_parts_3 : decode cX10_parts 3 = .ok (.iload 4, 2) := by decide +kernel
theorem dX10_parts_5 : decode cX10_parts 5 = .ok (.sipush 320, 3) := by decide +kernel
theorem dX10_parts_8 : decode cX10_parts 8 = .ok (.if_icmp .ge 17, 3) := by decide +kernel
theorem dX10_parts_11 : decode cX10_parts 11 = .ok (.aload_n 0, 1) := by decide +kernel
theorem dX10_parts_12 : decode cX10_parts 12 = .ok (.getfield 42, 3) := by decide +kernel
theorem dX10_parts_15 : decode cX10_parts 15 = .ok (.iload 4, 2) := by decide +kernel
theorem dX10_parts_17 : decode cX10_parts 17 = .ok (.iconst 0, 1) := by decide +kernel
theorem dX10_parts_18 : decode cX10_parts 18 = .ok (.bastore, 1) := by decide +kernel
theorem dX10_parts_19 : decode cX10_parts 19 = .ok (.iinc 4 1, 3) := by decide +kernel
theorem dX10_parts_22 : decode cX10_parts 22 = .ok (.goto (-19), 3) := by decide +kernel
theorem dX10_parts_25 : decode cX10_parts 25 = .ok (.aload_n 0, 1) := by decide +kernel
theorem dX10_parts_26 : decode cX10_parts 26 = .ok (.getfield 33, 3) := by decide +kernel
theorem dX10_parts_29 : decode cX10_parts 29 = .ok (.iconst 0, 1) := by decide +kernel
theorem dX10_parts_30 : decode cX10_parts 30 = .ok (.bipush 8, 2) := by decide +kernel
theorem dX10_parts_32 : decode cX10_parts 32 = .ok (.iload_n 1, 1) := by decide +kernel
theorem dX10_parts_33 : decode cX10_parts 33 = .ok (.imul, 1) := by decide +kernel
theorem dX10_parts_34 : decode cX10_parts 34 = .ok (.iload_n 2, 1) := by decide +kernel
theorem dX10_parts_35 : decode cX10_parts 35 = .ok (.iadd, 1) := by decide +kernel
theorem dX10_parts_36 : decode cX10_parts 36 = .ok (.iastore, 1) := by decide +kernel
theorem dX10_parts_37 : decode cX10_parts 37 = .ok (.aload_n 0, 1) := by decide +kernel
theorem dX10_parts_38 : decode cX10_parts 38 = .ok (.getfield 36, 3) := by decide +kernel
theorem dX10_parts_41 : decode cX10_parts 41 = .ok (.iconst 0, 1) := by decide +kernel
theorem dX10_parts_42 : decode cX10_parts 42 = .ok (.iconst (-1), 1) := by decide +kernel
theorem dX10_parts_43 : decode cX10_parts 43 = .ok (.iastore, 1) := by decide +kernel
theorem dX10_parts_44 : decode cX10_parts 44 = .ok (.aload_n 0, 1) := by decide +kernel
theorem dX10_parts_45 : decode cX10_parts 45 = .ok (.getfield 42, 3) := by decide +kernel
theorem dX10_parts_48 : decode cX10_parts 48 = .ok (.aload_n 0, 1) := by decide +kernel
theorem dX10_parts_49 : decode cX10_parts 49 = .ok (.getfield 33, 3) := by decide +kernel
theorem dX10_parts_52 : decode cX10_parts 52 = .ok (.iconst 0, 1) := by decide +kernel
theorem dX10_parts_53 : decode cX10_parts 53 = .ok (.iaload, 1) := by decide +kernel
theorem dX10_parts_54 : decode cX10_parts 54 = .ok (.iconst 1, 1) := by decide +kernel
theorem dX10_parts_55 : decode cX10_parts 55 = .ok (.bastore, 1) := by decide +kernel
theorem dX10_parts_56 : decode cX10_parts 56 = .ok (.iconst 1, 1) := by decide +kernel
theorem dX10_parts_57 : decode cX10_parts 57 = .ok (.istore 4, 2) := by decide +kernel
theorem dX10_parts_59 : decode cX10_parts 59 = .ok (.iconst 0, 1) := by decide +kernel
theorem dX10_parts_60 : decode cX10_parts 60 = .ok (.istore 5, 2) := by decide +kernel
theorem dX10_parts_62 : decode cX10_parts 62 = .ok (.iload 5, 2) := by decide +kernel
theorem dX10_parts_64 : decode cX10_parts 64 = .ok (.iload 4, 2) := by decide +kernel
theorem dX10_parts_66 : decode cX10_parts 66 = .ok (.if_icmp .ge 210, 3) := by decide +kernel
theorem dX10_parts_69 : decode cX10_parts 69 = .ok (.aload_n 0, 1) := by decide +kernel
theorem dX10_parts_70 : decode cX10_parts 70 = .ok (.getfield 33, 3) := by decide +kernel
theorem dX10_parts_73 : decode cX10_parts 73 = .ok (.iload 5, 2) := by decide +kernel
theorem dX10_parts_75 : decode cX10_parts 75 = .ok (.iaload, 1) := by decide +kernel
theorem dX10_parts_76 : decode cX10_parts 76 = .ok (.bipush 8, 2) := by decide +kernel
theorem dX10_parts_78 : decode cX10_parts 78 = .ok (.idiv, 1) := by decide +kernel
theorem dX10_parts_79 : decode cX10_parts 79 = .ok (.istore 6, 2) := by decide +kernel
theorem dX10_parts_81 : decode cX10_parts 81 = .ok (.aload_n 0, 1) := by decide +kernel
theorem dX10_parts_82 : decode cX10_parts 82 = .ok (.getfield 33, 3) := by decide +kernel
theorem dX10_parts_85 : decode cX10_parts 85 = .ok (.iload 5, 2) := by decide +kernel
theorem dX10_parts_87 : decode cX10_parts 87 = .ok (.iaload, 1) := by decide +kernel
theorem dX10_parts_88 : decode cX10_parts 88 = .ok (.bipush 8, 2) := by decide +kernel
theorem dX10_parts_90 : decode cX10_parts 90 = .ok (.irem, 1) := by decide +kernel
theorem dX10_parts_91 : decode cX10_parts 91 = .ok (.istore 7, 2) := by decide +kernel
theorem dX10_parts_93 : decode cX10_parts 93 = .ok (.iload_n 3, 1) := by decide +kernel
theorem dX10_parts_94 : decode cX10_parts 94 = .ok (.ifCond .eq 17, 3) := by decide +kernel
theorem dX10_parts_97 : decode cX10_parts 97 = .ok (.aload_n 0, 1) := by decide +kernel
theorem dX10_parts_98 : decode cX10_parts 98 = .ok (.getfield 7, 3) := by decide +kernel
theorem dX10_parts_101 : decode cX10_parts 101 = .ok (.sipush 481, 3) := by decide +kernel
theorem dX10_parts_104 : decode cX10_parts 104 = .ok (.iload 6, 2) := by decide +kernel
theorem dX10_parts_106 : decode cX10_parts 106 = .ok (.iadd, 1) := by decide +kernel
theorem dX10_parts_107 : decode cX10_parts 107 = .ok (.iaload, 1) := by decide +kernel
theorem dX10_parts_108 : decode cX10_parts 108 = .ok (.goto 13, 3) := by decide +kernel
theorem dX10_parts_111 : decode cX10_parts 111 = .ok (.aload_n 0, 1) := by decide +kernel
theorem dX10_parts_112 : decode cX10_parts 112 = .ok (.getfield 7, 3) := by decide +kernel
theorem dX10_parts_115 : decode cX10_parts 115 = .ok (.bipush 26, 2) := by decide +kernel
theorem dX10_parts_117 : decode cX10_parts 117 = .ok (.iload 6, 2) := by decide +kernel
theorem dX10_parts_119 : decode cX10_parts 119 = .ok (.iadd, 1) := by decide +kernel
theorem dX10_parts_120 : decode cX10_parts 120 = .ok (.iaload, 1) := by decide +kernel
theorem dX10_parts_121 : decode cX10_parts 121 = .ok (.istore 8, 2) := by decide +kernel
theorem dX10_parts_123 : decode cX10_parts 123 = .ok (.iload 8, 2) := by decide +kernel
theorem dX10_parts_125 : decode cX10_parts 125 = .ok (.aload_n 0, 1) := by decide +kernel
theorem dX10_parts_126 : decode cX10_parts 126 = .ok (.getfield 7, 3) := by decide +kernel
theorem dX10_parts_129 : decode cX10_parts 129 = .ok (.bipush 26, 2) := by decide +kernel
theorem dX10_parts_131 : decode cX10_parts 131 = .ok (.iload 7, 2) := by decide +kernel
theorem dX10_parts_133 : decode cX10_parts 133 = .ok (.iadd, 1) := by decide +kernel
theorem dX10_parts_134 : decode cX10_parts 134 = .ok (.iaload, 1) := by decide +kernel
theorem dX10_parts_135 : decode cX10_parts 135 = .ok (.if_icmp .eq 10, 3) := by decide +kernel
theorem dX10_parts_138 : decode cX10_parts 138 = .ok (.aload_n 0, 1) := by decide +kernel
theorem dX10_parts_139 : decode cX10_parts 139 = .ok (.iload 5, 2) := by decide +kernel
theorem dX10_parts_141 : decode cX10_parts 141 = .ok (.invokevirtual 107, 3) := by decide +kernel
theorem dX10_parts_144 : decode cX10_parts 144 = .ok (.ireturn, 1) := by decide +kernel
theorem dX10_parts_145 : decode cX10_parts 145 = .ok (.iconst 0, 1) := by decide +kernel
theorem dX10_parts_146 : decode cX10_parts 146 = .ok (.istore 9, 2) := by decide +kernel
theorem dX10_parts_148 : decode cX10_parts 148 = .ok (.iload 9, 2) := by decide +kernel
theorem dX10_parts_150 : decode cX10_parts 150 = .ok (.aload_n 0, 1) := by decide +kernel
theorem dX10_parts_151 : decode cX10_parts 151 = .ok (.getfield 7, 3) := by decide +kernel
theorem dX10_parts_154 : decode cX10_parts 154 = .ok (.iconst 1, 1) := by decide +kernel
theorem dX10_parts_155 : decode cX10_parts 155 = .ok (.iaload, 1) := by decide +kernel
theorem dX10_parts_156 : decode cX10_parts 156 = .ok (.if_icmp .ge 114, 3) := by decide +kernel
theorem dX10_parts_159 : decode cX10_parts 159 = .ok (.bipush 8, 2) := by decide +kernel
theorem dX10_parts_161 : decode cX10_parts 161 = .ok (.iload_n 3, 1) := by decide +kernel
theorem dX10_parts_162 : decode cX10_parts 162 = .ok (.ifCond .eq 22, 3) := by decide +kernel
theorem dX10_parts_165 : decode cX10_parts 165 = .ok (.aload_n 0, 1) := by decide +kernel
theorem dX10_parts_166 : decode cX10_parts 166 = .ok (.getfield 7, 3) := by decide +kernel
theorem dX10_parts_169 : decode cX10_parts 169 = .ok (.sipush 361, 3) := by decide +kernel
theorem dX10_parts_172 : decode cX10_parts 172 = .ok (.iconst 3, 1) := by decide +kernel
theorem dX10_parts_173 : decode cX10_parts 173 = .ok (.iload 6, 2) := by decide +kernel
theorem dX10_parts_175 : decode cX10_parts 175 = .ok (.imul, 1) := by decide +kernel
theorem dX10_parts_176 : decode cX10_parts 176 = .ok (.iadd, 1) := by decide +kernel
theorem dX10_parts_177 : decode cX10_parts 177 = .ok (.iload 9, 2) := by decide +kernel
theorem dX10_parts_179 : decode cX10_parts 179 = .ok (.iadd, 1) := by decide +kernel
theorem dX10_parts_180 : decode cX10_parts 180 = .ok (.iaload, 1) := by decide +kernel
theorem dX10_parts_181 : decode cX10_parts 181 = .ok (.goto 17, 3) := by decide +kernel
theorem dX10_parts_184 : decode cX10_parts 184 = .ok (.aload_n 0, 1) := by decide +kernel
theorem dX10_parts_185 : decode cX10_parts 185 = .ok (.getfield 7, 3) := by decide +kernel
theorem dX10_parts_188 : decode cX10_parts 188 = .ok (.iconst 2, 1) := by decide +kernel
theorem dX10_parts_189 : decode cX10_parts 189 = .ok (.iconst 3, 1) := by decide +kernel
theorem dX10_parts_190 : decode cX10_parts 190 = .ok (.iload 6, 2) := by decide +kernel
theorem dX10_parts_192 : decode cX10_parts 192 = .ok (.imul, 1) := by decide +kernel
theorem dX10_parts_193 : decode cX10_parts 193 = .ok (.iadd, 1) := by decide +kernel
theorem dX10_parts_194 : decode cX10_parts 194 = .ok (.iload 9, 2) := by decide +kernel
theorem dX10_parts_196 : decode cX10_parts 196 = .ok (.iadd, 1) := by decide +kernel
theorem dX10_parts_197 : decode cX10_parts 197 = .ok (.iaload, 1) := by decide +kernel
theorem dX10_parts_198 : decode cX10_parts 198 = .ok (.imul, 1) := by decide +kernel
theorem dX10_parts_199 : decode cX10_parts 199 = .ok (.aload_n 0, 1) := by decide +kernel
theorem dX10_parts_200 : decode cX10_parts 200 = .ok (.getfield 7, 3) := by decide +kernel
theorem dX10_parts_203 : decode cX10_parts 203 = .ok (.iconst 2, 1) := by decide +kernel
theorem dX10_parts_204 : decode cX10_parts 204 = .ok (.iconst 3, 1) := by decide +kernel
theorem dX10_parts_205 : decode cX10_parts 205 = .ok (.iload 7, 2) := by decide +kernel
theorem dX10_parts_207 : decode cX10_parts 207 = .ok (.imul, 1) := by decide +kernel
theorem dX10_parts_208 : decode cX10_parts 208 = .ok (.iadd, 1) := by decide +kernel
theorem dX10_parts_209 : decode cX10_parts 209 = .ok (.iload 9, 2) := by decide +kernel
theorem dX10_parts_211 : decode cX10_parts 211 = .ok (.iadd, 1) := by decide +kernel
theorem dX10_parts_212 : decode cX10_parts 212 = .ok (.iaload, 1) := by decide +kernel
theorem dX10_parts_213 : decode cX10_parts 213 = .ok (.iadd, 1) := by decide +kernel
theorem dX10_parts_214 : decode cX10_parts 214 = .ok (.istore 10, 2) := by decide +kernel
theorem dX10_parts_216 : decode cX10_parts 216 = .ok (.aload_n 0, 1) := by decide +kernel
theorem dX10_parts_217 : decode cX10_parts 217 = .ok (.getfield 42, 3) := by decide +kernel
theorem dX10_parts_220 : decode cX10_parts 220 = .ok (.iload 10, 2) := by decide +kernel
theorem dX10_parts_222 : decode cX10_parts 222 = .ok (.baload, 1) := by decide +kernel
theorem dX10_parts_223 : decode cX10_parts 223 = .ok (.ifCond .ne 41, 3) := by decide +kernel
theorem dX10_parts_226 : decode cX10_parts 226 = .ok (.aload_n 0, 1) := by decide +kernel
theorem dX10_parts_227 : decode cX10_parts 227 = .ok (.getfield 42, 3) := by decide +kernel
theorem dX10_parts_230 : decode cX10_parts 230 = .ok (.iload 10, 2) := by decide +kernel
theorem dX10_parts_232 : decode cX10_parts 232 = .ok (.iconst 1, 1) := by decide +kernel
theorem dX10_parts_233 : decode cX10_parts 233 = .ok (.bastore, 1) := by decide +kernel
theorem dX10_parts_234 : decode cX10_parts 234 = .ok (.aload_n 0, 1) := by decide +kernel
theorem dX10_parts_235 : decode cX10_parts 235 = .ok (.getfield 33, 3) := by decide +kernel
theorem dX10_parts_238 : decode cX10_parts 238 = .ok (.iload 4, 2) := by decide +kernel
theorem dX10_parts_240 : decode cX10_parts 240 = .ok (.iload 10, 2) := by decide +kernel
theorem dX10_parts_242 : decode cX10_parts 242 = .ok (.iastore, 1) := by decide +kernel
theorem dX10_parts_243 : decode cX10_parts 243 = .ok (.aload_n 0, 1) := by decide +kernel
theorem dX10_parts_244 : decode cX10_parts 244 = .ok (.getfield 36, 3) := by decide +kernel
theorem dX10_parts_247 : decode cX10_parts 247 = .ok (.iload 4, 2) := by decide +kernel
theorem dX10_parts_249 : decode cX10_parts 249 = .ok (.iload 5, 2) := by decide +kernel
theorem dX10_parts_251 : decode cX10_parts 251 = .ok (.iastore, 1) := by decide +kernel
theorem dX10_parts_252 : decode cX10_parts 252 = .ok (.aload_n 0, 1) := by decide +kernel
theorem dX10_parts_253 : decode cX10_parts 253 = .ok (.getfield 39, 3) := by decide +kernel
theorem dX10_parts_256 : decode cX10_parts 256 = .ok (.iload 4, 2) := by decide +kernel
theorem dX10_parts_258 : decode cX10_parts 258 = .ok (.iload 9, 2) := by decide +kernel
theorem dX10_parts_260 : decode cX10_parts 260 = .ok (.iastore, 1) := by decide +kernel
theorem dX10_parts_261 : decode cX10_parts 261 = .ok (.iinc 4 1, 3) := by decide +kernel
theorem dX10_parts_264 : decode cX10_parts 264 = .ok (.iinc 9 1, 3) := by decide +kernel
theorem dX10_parts_267 : decode cX10_parts 267 = .ok (.goto (-119), 3) := by decide +kernel
theorem dX10_parts_270 : decode cX10_parts 270 = .ok (.iinc 5 1, 3) := by decide +kernel
theorem dX10_parts_273 : decode cX10_parts 273 = .ok (.goto (-211), 3) := by decide +kernel
theorem dX10_parts_276 : decode cX10_parts 276 = .ok (.iconst 0, 1) := by decide +kernel
theorem dX10_parts_277 : decode cX10_parts 277 = .ok (.ireturn, 1) := by decide +kernel
set_option maxRecDepth 100000 in
theorem w_Mo_parts_L3 {p : Program} {l : Launch} {e : Env} {s : State} {m : MethodId} {args : Array Value} {below : List Frame} {meth : Method} {c : Code} {Q : State → Prop} {A : Nat → Prop} {D : va_G} {cI cJ cZ cO : ClassId} {q_this q_m q_saved q_w q_savedWords q_isSaved q_text q_far q_queue q_parent q_by q_seen q_path q_row q_more q_stateOf : Nat} {v_textLength : Int32} {v_steps : Int32} {v_missing : Int64} {v_mores : Int32} {v_hash : Int64} {v_m : (Nat → Int32)} {v_queue : (Nat → Int32)} {v_parent : (Nat → Int32)} {v_by : (Nat → Int32)} {v_path : (Nat → Int32)} {x1 : Int32} {x2 : Int32} {x3 : Int32} {x : Int32 × (Nat → Int32) × (Nat → Int32) × (Nat → Int32) × (Nat → Int32) × (Nat → Int32) × Int32} (C0 : Cx p s m args c A D cI cJ cZ cO cX10_parts 11 RX10) (hQ : RtI p l e rm_Mo_parts s m args below meth c Q A D cX10_parts .boolean (ws_Mo_parts cI cJ cZ q_this q_m q_saved q_w q_savedWords q_isSaved q_text q_far q_queue q_parent q_by q_seen q_path q_row q_more q_stateOf v_textLength x.2.2.2.2.2.2 v_missing v_mores v_hash v_m x.2.1 x.2.2.1 x.2.2.2.1 x.2.2.2.2.1 x.2.2.2.2.2.1) x.1) {K : Int32 → (Nat → Int32) → Option (Int32 × (Nat → Int32) × (Nat → Int32) × (Nat → Int32) × (Nat → Int32) × (Nat → Int32) × Int32)} (hK : ∀ (x4 : Int32) (v_seen : (Nat → Int32)) (H : Heap) (locs : List Loc) (ls : Array Slot), K x4 v_seen = some x → Wd s A D (ws_Mo_parts cI cJ cZ q_this q_m q_saved q_w q_savedWords q_isSaved q_text q_far q_queue q_parent q_by q_seen q_path q_row q_more q_stateOf v_textLength v_steps v_missing v_mores v_hash v_m v_queue v_parent v_by v_seen v_path) H locs → lv_has ls 11 [(0, .ref q_this), (1, .int x1), (2, .int x2), (3, .int x3)] → W p l e rm_Mo_parts s m args below meth c H locs 0 0 Q (F0 m 25 ls [])) {rec : Int32 → (Nat → Int32) → Option (Int32 × (Nat → Int32) × (Nat → Int32) × (Nat → Int32) × (Nat → Int32) × (Nat → Int32) × Int32)} (hrec : ∀ (x4 : Int32) (v_seen : (Nat → Int32)) (H : Heap) (locs : List Loc) (ls : Array Slot), rec x4 v_seen = some x → Wd s A D (ws_Mo_parts cI cJ cZ q_this q_m q_saved q_w q_savedWords q_isSaved q_text q_far q_queue q_parent q_by q_seen q_path q_row q_more q_stateOf v_textLength v_steps v_missing v_mores v_hash v_m v_queue v_parent v_by v_seen v_path) H locs → lv_has ls 11 [(0, .ref q_this), (1, .int x1), (2, .int x2), (3, .int x3), (4, .int x4)] → W p l e rm_Mo_parts s m args below meth c H locs 0 0 Q (F0 m 3 ls [])) (x4 : Int32) (v_seen : (Nat → Int32)) {H : Heap} {locs : List Loc} {ls : Array Slot} (h : f_Mo_parts_L3 K rec x4 v_seen = some x) (w : Wd s A D (ws_Mo_parts cI cJ cZ q_this q_m q_saved q_w q_savedWords q_isSaved q_text q_far q_queue q_parent q_by q_seen q_path q_row q_more q_stateOf v_textLength v_steps v_missing v_mores v_hash v_m v_queue v_parent v_by v_seen v_path) H locs) (hl : lv_has ls 11 [(0, .ref q_this), (1, .int x1), (2, .int x2), (3, .int x3), (4, .int x4)]) : W p l e rm_Mo_parts s m args below meth c H locs 0 0 Q (F0 m 3 ls []) := by
  obtain ⟨hx, hb, hml, hown, hts, -, -⟩ := id C0
  unfold f_Mo_parts_L3 at h
  refine lv_iload hx hb dX10_parts_3 (lv_at hl 4 rfl) ?_
  refine lv_sipush (v := (320 : Int32)) hx hb dX10_parts_5 (by decide) ?_
  refine lv_icmp_ge (tgt := 25) hx hb dX10_parts_8 (by decide) (fun hc => ?_) (fun hc => ?_)
  · have h := if_h hc h
    exact hK _ _ _ _ _ h w (lv_sub hl [0, 1, 2, 3] rfl)
  · have h := nf_h hc h
    refine lv_aload_n hx hb dX10_parts_11 rfl (lv_at hl 0 rfl) ?_
    refine r_get C0 w 0 rfl kf_Mo 11 (by decide) lf_RX10_42 rfl dX10_parts_12 ?_
    refine lv_iload hx hb dX10_parts_15 (lv_at hl 4 rfl) ?_
    refine lv_iconst (v := (0 : Int32)) hx hb dX10_parts_17 (by decide) ?_
    obtain ⟨hi, h⟩ := gIn_h h
    obtain ⟨v_seen_1, ev_seen_1⟩ : ∃ y, y = (upd v_seen x4.toNatClampNeg (0 : Int32)) := ⟨_, rfl⟩
    have h := bnd_at ev_seen_1 h
    refine r_zast C0 w 5 rfl (f' := v_seen_1) rfl hi ev_seen_1 dX10_parts_18 (ws' := (ws_Mo_parts cI cJ cZ q_this q_m q_saved q_w q_savedWords q_isSaved q_text q_far q_queue q_parent q_by q_seen q_path q_row q_more q_stateOf v_textLength v_steps v_missing v_mores v_hash v_m v_queue v_parent v_by v_seen_1 v_path)) rfl (fun H locs w => ?_)
    obtain ⟨x4_1, ex4_1⟩ : ∃ y : Int32, y = (x4 + 1) := ⟨_, rfl⟩
    have h := bnd_at ex4_1 h
    refine lv_iinc (v := x4_1) (lv' := [(4, .int x4_1), (0, .ref q_this), (1, .int x1), (2, .int x2), (3, .int x3)]) hx hb dX10_parts_19 hl (k := 4) rfl (by rw [ex4_1]; rfl) (by decide) rfl (fun ls hl => ?_)
    refine lv_goto (tgt := 3) hx hb dX10_parts_22 (by decide) ?_
    exact hrec _ _ _ _ _ h w (lv_sub hl [1, 2, 3, 4, 0] rfl)
set_option maxRecDepth 100000 in
theorem wl_Mo_parts_L3 {p : Program} {l : Launch} {e : Env} {s : State} {m : MethodId} {args : Array Value} {below : List Frame} {meth : Method} {c : Code} {Q : State → Prop} {A : Nat → Prop} {D : va_G} {cI cJ cZ cO : ClassId} {q_this q_m q_saved q_w q_savedWords q_isSaved q_text q_far q_queue q_parent q_by q_seen q_path q_row q_more q_stateOf : Nat} {v_textLength : Int32} {v_steps : Int32} {v_missing : Int64} {v_mores : Int32} {v_hash : Int64} {v_m : (Nat → Int32)} {v_queue : (Nat → Int32)} {v_parent : (Nat → Int32)} {v_by : (Nat → Int32)} {v_path : (Nat → Int32)} {x1 : Int32} {x2 : Int32} {x3 : Int32} {x : Int32 × (Nat → Int32) × (Nat → Int32) × (Nat → Int32) × (Nat → Int32) × (Nat → Int32) × Int32} (C0 : Cx p s m args c A D cI cJ cZ cO cX10_parts 11 RX10) (hQ : RtI p l e rm_Mo_parts s m args below meth c Q A D cX10_parts .boolean (ws_Mo_parts cI cJ cZ q_this q_m q_saved q_w q_savedWords q_isSaved q_text q_far q_queue q_parent q_by q_seen q_path q_row q_more q_stateOf v_textLength x.2.2.2.2.2.2 v_missing v_mores v_hash v_m x.2.1 x.2.2.1 x.2.2.2.1 x.2.2.2.2.1 x.2.2.2.2.2.1) x.1) {K : Int32 → (Nat → Int32) → Option (Int32 × (Nat → Int32) × (Nat → Int32) × (Nat → Int32) × (Nat → Int32) × (Nat → Int32) × Int32)} (hK : ∀ (x4 : Int32) (v_seen : (Nat → Int32)) (H : Heap) (locs : List Loc) (ls : Array Slot), K x4 v_seen = some x → Wd s A D (ws_Mo_parts cI cJ cZ q_this q_m q_saved q_w q_savedWords q_isSaved q_text q_far q_queue q_parent q_by q_seen q_path q_row q_more q_stateOf v_textLength v_steps v_missing v_mores v_hash v_m v_queue v_parent v_by v_seen v_path) H locs → lv_has ls 11 [(0, .ref q_this), (1, .int x1), (2, .int x2), (3, .int x3)] → W p l e rm_Mo_parts s m args below meth c H locs 0 0 Q (F0 m 25 ls [])) : ∀ (n : Nat) (x4 : Int32) (v_seen : (Nat → Int32)) (H : Heap) (locs : List Loc) (ls : Array Slot), itr (fun _ _ => none) (f_Mo_parts_L3 K) n x4 v_seen = some x → Wd s A D (ws_Mo_parts cI cJ cZ q_this q_m q_saved q_w q_savedWords q_isSaved q_text q_far q_queue q_parent q_by q_seen q_path q_row q_more q_stateOf v_textLength v_steps v_missing v_mores v_hash v_m v_queue v_parent v_by v_seen v_path) H locs → lv_has ls 11 [(0, .ref q_this), (1, .int x1), (2, .int x2), (3, .int x3), (4, .int x4)] → W p l e rm_Mo_parts s m args below meth c H locs 0 0 Q (F0 m 3 ls []) := by
  intro n
  induction n with
  | zero => intro _ _ _ _ _ h; cases (show none = some _ from h)
  | succ n ih => intro _ _ _ _ _ h w hl; exact w_Mo_parts_L3 C0 hQ hK ih _ _ h w hl
set_option maxRecDepth 100000 in
theorem w_Mo_parts_J264 {p : Program} {l : Launch} {e : Env} {s : State} {m : MethodId} {args : Array Value} {below : List Frame} {meth : Method} {c : Code} {Q : State → Prop} {A : Nat → Prop} {D : va_G} {cI cJ cZ cO : ClassId} {q_this q_m q_saved q_w q_savedWords q_isSaved q_text q_far q_queue q_parent q_by q_seen q_path q_row q_more q_stateOf : Nat} {v_textLength : Int32} {v_steps : Int32} {v_missing : Int64} {v_mores : Int32} {v_hash : Int64} {v_m : (Nat → Int32)} {v_queue : (Nat → Int32)} {v_parent : (Nat → Int32)} {v_by : (Nat → Int32)} {v_seen : (Nat → Int32)} {v_path : (Nat → Int32)} {x : Int32 × (Nat → Int32) × (Nat → Int32) × (Nat → Int32) × (Nat → Int32) × (Nat → Int32) × Int32} {x3 : Int32} {x4 : Int32} {x5 : Int32} {x6 : Int32} {x7 : Int32} {x9 : Int32} (C0 : Cx p s m args c A D cI cJ cZ cO cX10_parts 11 RX10) (hQ : RtI p l e rm_Mo_parts s m args below meth c Q A D cX10_parts .boolean (ws_Mo_parts cI cJ cZ q_this q_m q_saved q_w q_savedWords q_isSaved q_text q_far q_queue q_parent q_by q_seen q_path q_row q_more q_stateOf v_textLength x.2.2.2.2.2.2 v_missing v_mores v_hash v_m x.2.1 x.2.2.1 x.2.2.2.1 x.2.2.2.2.1 x.2.2.2.2.2.1) x.1) {K : Int32 → Int32 → (Nat → Int32) → (Nat → Int32) → (Nat → Int32) → (Nat → Int32) → Option (Int32 × (Nat → Int32) × (Nat → Int32) × (Nat → Int32) × (Nat → Int32) × (Nat → Int32) × Int32)} (hK : ∀ (y4 : Int32) (y9 : Int32) (u_queue : (Nat → Int32)) (u_parent : (Nat → Int32)) (u_by : (Nat → Int32)) (u_seen : (Nat → Int32)) (H : Heap) (locs : List Loc) (ls : Array Slot), K y4 y9 u_queue u_parent u_by u_seen = some x → Wd s A D (ws_Mo_parts cI cJ cZ q_this q_m q_saved q_w q_savedWords q_isSaved q_text q_far q_queue q_parent q_by q_seen q_path q_row q_more q_stateOf v_textLength v_steps v_missing v_mores v_hash v_m u_queue u_parent u_by u_seen v_path) H locs → lv_has ls 11 [(0, .ref q_this), (3, .int x3), (4, .int y4), (5, .int x5)] → W p l e rm_Mo_parts s m args below meth c H locs 0 0 Q (F0 m 270 ls [])) {rec : Int32 → Int32 → (Nat → Int32) → (Nat → Int32) → (Nat → Int32) → (Nat → Int32) → Option (Int32 × (Nat → Int32) × (Nat → Int32) × (Nat → Int32) × (Nat → Int32) × (Nat → Int32) × Int32)} (hrec : ∀ (y4 : Int32) (y9 : Int32) (u_queue : (Nat → Int32)) (u_parent : (Nat → Int32)) (u_by : (Nat → Int32)) (u_seen : (Nat → Int32)) (H : Heap) (locs : List Loc) (ls : Array Slot), rec y4 y9 u_queue u_parent u_by u_seen = some x → Wd s A D (ws_Mo_parts cI cJ cZ q_this q_m q_saved q_w q_savedWords q_isSaved q_text q_far q_queue q_parent q_by q_seen q_path q_row q_more q_stateOf v_textLength v_steps v_missing v_mores v_hash v_m u_queue u_parent u_by u_seen v_path) H locs → lv_has ls 11 [(0, .ref q_this), (3, .int x3), (4, .int y4), (5, .int x5), (6, .int x6), (7, .int x7), (9, .int y9)] → W p l e rm_Mo_parts s m args below meth c H locs 0 0 Q (F0 m 148 ls [])) {H : Heap} {locs : List Loc} {ls : Array Slot} (h : f_Mo_parts_J264 rec x4 x9 v_queue v_parent v_by v_seen = some x) (w : Wd s A D (ws_Mo_parts cI cJ cZ q_this q_m q_saved q_w q_savedWords q_isSaved q_text q_far q_queue q_parent q_by q_seen q_path q_row q_more q_stateOf v_textLength v_steps v_missing v_mores v_hash v_m v_queue v_parent v_by v_seen v_path) H locs) (hl : lv_has ls 11 [(0, .ref q_this), (3, .int x3), (4, .int x4), (5, .int x5), (6, .int x6), (7, .int x7), (9, .int x9)]) : W p l e rm_Mo_parts s m args below meth c H locs 0 0 Q (F0 m 264 ls []) := by
  obtain ⟨hx, hb, hml, hown, hts, -, -⟩ := id C0
  unfold f_Mo_parts_J264 at h
  obtain ⟨x9_1, ex9_1⟩ : ∃ y : Int32, y = (x9 + 1) := ⟨_, rfl⟩
  have h := bnd_at ex9_1 h
  refine lv_iinc (v := x9_1) (lv' := [(9, .int x9_1), (0, .ref q_this), (3, .int x3), (4, .int x4), (5, .int x5), (6, .int x6), (7, .int x7)]) hx hb dX10_parts_264 hl (k := 6) rfl (by rw [ex9_1]; rfl) (by decide) rfl (fun ls hl => ?_)
  refine lv_goto (tgt := 148) hx hb dX10_parts_267 (by decide) ?_
  exact hrec _ _ _ _ _ _ _ _ _ h w (lv_sub hl [1, 2, 3, 4, 5, 6, 0] rfl)
set_option maxRecDepth 100000 in
theorem w_Mo_parts_J198 {p : Program} {l : Launch} {e : Env} {s : State} {m : MethodId} {args : Array Value} {below : List Frame} {meth : Method} {c : Code} {Q : State → Prop} {A : Nat → Prop} {D : va_G} {cI cJ cZ cO : ClassId} {q_this q_m q_saved q_w q_savedWords q_isSaved q_text q_far q_queue q_parent q_by q_seen q_path q_row q_more q_stateOf : Nat} {v_textLength : Int32} {v_steps : Int32} {v_missing : Int64} {v_mores : Int32} {v_hash : Int64} {v_m : (Nat → Int32)} {v_queue : (Nat → Int32)} {v_parent : (Nat → Int32)} {v_by : (Nat → Int32)} {v_seen : (Nat → Int32)} {v_path : (Nat → Int32)} {x : Int32 × (Nat → Int32) × (Nat → Int32) × (Nat → Int32) × (Nat → Int32) × (Nat → Int32) × Int32} {x3 : Int32} {x4 : Int32} {x5 : Int32} {x6 : Int32} {x7 : Int32} {x9 : Int32} {s0 : Int32} {s1 : Int32} (C0 : Cx p s m args c A D cI cJ cZ cO cX10_parts 11 RX10) (hQ : RtI p l e rm_Mo_parts s m args below meth c Q A D cX10_parts .boolean (ws_Mo_parts cI cJ cZ q_this q_m q_saved q_w q_savedWords q_isSaved q_text q_far q_queue q_parent q_by q_seen q_path q_row q_more q_stateOf v_textLength x.2.2.2.2.2.2 v_missing v_mores v_hash v_m x.2.1 x.2.2.1 x.2.2.2.1 x.2.2.2.2.1 x.2.2.2.2.2.1) x.1) {K : Int32 → Int32 → (Nat → Int32) → (Nat → Int32) → (Nat → Int32) → (Nat → Int32) → Option (Int32 × (Nat → Int32) × (Nat → Int32) × (Nat → Int32) × (Nat → Int32) × (Nat → Int32) × Int32)} (hK : ∀ (y4 : Int32) (y9 : Int32) (u_queue : (Nat → Int32)) (u_parent : (Nat → Int32)) (u_by : (Nat → Int32)) (u_seen : (Nat → Int32)) (H : Heap) (locs : List Loc) (ls : Array Slot), K y4 y9 u_queue u_parent u_by u_seen = some x → Wd s A D (ws_Mo_parts cI cJ cZ q_this q_m q_saved q_w q_savedWords q_isSaved q_text q_far q_queue q_parent q_by q_seen q_path q_row q_more q_stateOf v_textLength v_steps v_missing v_mores v_hash v_m u_queue u_parent u_by u_seen v_path) H locs → lv_has ls 11 [(0, .ref q_this), (3, .int x3), (4, .int y4), (5, .int x5)] → W p l e rm_Mo_parts s m args below meth c H locs 0 0 Q (F0 m 270 ls [])) {rec : Int32 → Int32 → (Nat → Int32) → (Nat → Int32) → (Nat → Int32) → (Nat → Int32) → Option (Int32 × (Nat → Int32) × (Nat → Int32) × (Nat → Int32) × (Nat → Int32) × (Nat → Int32) × Int32)} (hrec : ∀ (y4 : Int32) (y9 : Int32) (u_queue : (Nat → Int32)) (u_parent : (Nat → Int32)) (u_by : (Nat → Int32)) (u_seen : (Nat → Int32)) (H : Heap) (locs : List Loc) (ls : Array Slot), rec y4 y9 u_queue u_parent u_by u_seen = some x → Wd s A D (ws_Mo_parts cI cJ cZ q_this q_m q_saved q_w q_savedWords q_isSaved q_text q_far q_queue q_parent q_by q_seen q_path q_row q_more q_stateOf v_textLength v_steps v_missing v_mores v_hash v_m u_queue u_parent u_by u_seen v_path) H locs → lv_has ls 11 [(0, .ref q_this), (3, .int x3), (4, .int y4), (5, .int x5), (6, .int x6), (7, .int x7), (9, .int y9)] → W p l e rm_Mo_parts s m args below meth c H locs 0 0 Q (F0 m 148 ls [])) {H : Heap} {locs : List Loc} {ls : Array Slot} (h : f_Mo_parts_J198 rec x4 x5 x7 x9 s0 s1 v_m v_queue v_parent v_by v_seen = some x) (w : Wd s A D (ws_Mo_parts cI cJ cZ q_this q_m q_saved q_w q_savedWords q_isSaved q_text q_far q_queue q_parent q_by q_seen q_path q_row q_more q_stateOf v_textLength v_steps v_missing v_mores v_hash v_m v_queue v_parent v_by v_seen v_path) H locs) (hl : lv_has ls 11 [(0, .ref q_this), (3, .int x3), (4, .int x4), (5, .int x5), (6, .int x6), (7, .int x7), (9, .int x9)]) : W p l e rm_Mo_parts s m args below meth c H locs 0 0 Q (F0 m 198 ls [.int s1, .int s0]) := by
  obtain ⟨hx, hb, hml, hown, hts, -, -⟩ := id C0
  unfold f_Mo_parts_J198 at h
  refine lv_imul hx hb dX10_parts_198 ?_
  refine lv_aload_n hx hb dX10_parts_199 rfl (lv_at hl 0 rfl) ?_
  refine r_get C0 w 0 rfl kf_Mo 0 (by decide) lf_RX10_7 rfl dX10_parts_200 ?_
  refine lv_iconst (v := (2 : Int32)) hx hb dX10_parts_203 (by decide) ?_
  refine lv_iconst (v := (3 : Int32)) hx hb dX10_parts_204 (by decide) ?_
  refine lv_iload hx hb dX10_parts_205 (lv_at hl 5 rfl) ?_
  refine lv_imul hx hb dX10_parts_207 ?_
  refine lv_iadd hx hb dX10_parts_208 ?_
  refine lv_iload hx hb dX10_parts_209 (lv_at hl 6 rfl) ?_
  refine lv_iadd hx hb dX10_parts_211 ?_
  obtain ⟨hi, h⟩ := gIn_h h
  refine r_iald C0 w 1 rfl rfl hi dX10_parts_212 ?_
  refine lv_iadd hx hb dX10_parts_213 ?_
  refine lv_topi (fun x10 ex10 => ?_)
  have h := bnd_at ex10 h
  refine lv_istore (lv' := [(10, .int x10), (0, .ref q_this), (3, .int x3), (4, .int x4), (5, .int x5), (6, .int x6), (7, .int x7), (9, .int x9)]) hx hb dX10_parts_214 hl (by decide) rfl (fun ls hl => ?_)
  refine lv_aload_n hx hb dX10_parts_216 rfl (lv_at hl 1 rfl) ?_
  refine r_get C0 w 0 rfl kf_Mo 11 (by decide) lf_RX10_42 rfl dX10_parts_217 ?_
  refine lv_iload hx hb dX10_parts_220 (lv_at hl 0 rfl) ?_
  obtain ⟨hi, h⟩ := gIn_h h
  refine r_zald C0 w 5 rfl rfl hi dX10_parts_222 ?_
  refine lv_if_ne (tgt := 264) hx hb dX10_parts_223 (by decide) (fun hc => ?_) (fun hc => ?_)
  · have h := nf_h hc h
    exact w_Mo_parts_J264 C0 hQ hK hrec h w (lv_sub hl [1, 2, 3, 4, 5, 6, 7] rfl)
  · have h := if_h hc h
    refine lv_aload_n hx hb dX10_parts_226 rfl (lv_at hl 1 rfl) ?_
    refine r_get C0 w 0 rfl kf_Mo 11 (by decide) lf_RX10_42 rfl dX10_parts_227 ?_
    refine lv_iload hx hb dX10_parts_230 (lv_at hl 0 rfl) ?_
    refine lv_iconst (v := (1 : Int32)) hx hb dX10_parts_232 (by decide) ?_
    obtain ⟨hi, h⟩ := gIn_h h
    obtain ⟨v_seen_1, ev_seen_1⟩ : ∃ y, y = (upd v_seen x10.toNatClampNeg (1 : Int32)) := ⟨_, rfl⟩
    have h := bnd_at ev_seen_1 h
    refine r_zast C0 w 5 rfl (f' := v_seen_1) rfl hi ev_seen_1 dX10_parts_233 (ws' := (ws_Mo_parts cI cJ cZ q_this q_m q_saved q_w q_savedWords q_isSaved q_text q_far q_queue q_parent q_by q_seen q_path q_row q_more q_stateOf v_textLength v_steps v_missing v_mores v_hash v_m v_queue v_parent v_by v_seen_1 v_path)) rfl (fun H locs w => ?_)
    refine lv_aload_n hx hb dX10_parts_234 rfl (lv_at hl 1 rfl) ?_
    refine r_get C0 w 0 rfl kf_Mo 8 (by decide) lf_RX10_33 rfl dX10_parts_235 ?_
    refine lv_iload hx hb dX10_parts_238 (lv_at hl 3 rfl) ?_
    refine lv_iload hx hb dX10_parts_240 (lv_at hl 0 rfl) ?_
    obtain ⟨hi, h⟩ := gIn_h h
    obtain ⟨v_queue_1, ev_queue_1⟩ : ∃ y, y = (upd v_queue x4.toNatClampNeg x10) := ⟨_, rfl⟩
    have h := bnd_at ev_queue_1 h
    refine r_iast C0 w 2 rfl (f' := v_queue_1) rfl hi ev_queue_1 dX10_parts_242 (ws' := (ws_Mo_parts cI cJ cZ q_this q_m q_saved q_w q_savedWords q_isSaved q_text q_far q_queue q_parent q_by q_seen q_path q_row q_more q_stateOf v_textLength v_steps v_missing v_mores v_hash v_m v_queue_1 v_parent v_by v_seen_1 v_path)) rfl (fun H locs w => ?_)
    refine lv_aload_n hx hb dX10_parts_243 rfl (lv_at hl 1 rfl) ?_
    refine r_get C0 w 0 rfl kf_Mo 9 (by decide) lf_RX10_36 rfl dX10_parts_244 ?_
    refine lv_iload hx hb dX10_parts_247 (lv_at hl 3 rfl) ?_
    refine lv_iload hx hb dX10_parts_249 (lv_at hl 4 rfl) ?_
    obtain ⟨hi, h⟩ := gIn_h h
    obtain ⟨v_parent_1, ev_parent_1⟩ : ∃ y, y = (upd v_parent x4.toNatClampNeg x5) := ⟨_, rfl⟩
    have h := bnd_at ev_parent_1 h
    refine r_iast C0 w 3 rfl (f' := v_parent_1) rfl hi ev_parent_1 dX10_parts_251 (ws' := (ws_Mo_parts cI cJ cZ q_this q_m q_saved q_w q_savedWords q_isSaved q_text q_far q_queue q_parent q_by q_seen q_path q_row q_more q_stateOf v_textLength v_steps v_missing v_mores v_hash v_m v_queue_1 v_parent_1 v_by v_seen_1 v_path)) rfl (fun H locs w => ?_)
    refine lv_aload_n hx hb dX10_parts_252 rfl (lv_at hl 1 rfl) ?_
    refine r_get C0 w 0 rfl kf_Mo 10 (by decide) lf_RX10_39 rfl dX10_parts_253 ?_
    refine lv_iload hx hb dX10_parts_256 (lv_at hl 3 rfl) ?_
    refine lv_iload hx hb dX10_parts_258 (lv_at hl 7 rfl) ?_
    obtain ⟨hi, h⟩ := gIn_h h
    obtain ⟨v_by_1, ev_by_1⟩ : ∃ y, y = (upd v_by x4.toNatClampNeg x9) := ⟨_, rfl⟩
    have h := bnd_at ev_by_1 h
    refine r_iast C0 w 4 rfl (f' := v_by_1) rfl hi ev_by_1 dX10_parts_260 (ws' := (ws_Mo_parts cI cJ cZ q_this q_m q_saved q_w q_savedWords q_isSaved q_text q_far q_queue q_parent q_by q_seen q_path q_row q_more q_stateOf v_textLength v_steps v_missing v_mores v_hash v_m v_queue_1 v_parent_1 v_by_1 v_seen_1 v_path)) rfl (fun H locs w => ?_)
    obtain ⟨x4_1, ex4_1⟩ : ∃ y : Int32, y = (x4 + 1) := ⟨_, rfl⟩
    have h := bnd_at ex4_1 h
    refine lv_iinc (v := x4_1) (lv' := [(4, .int x4_1), (10, .int x10), (0, .ref q_this), (3, .int x3), (5, .int x5), (6, .int x6), (7, .int x7), (9, .int x9)]) hx hb dX10_parts_261 hl (k := 3) rfl (by rw [ex4_1]; rfl) (by decide) rfl (fun ls hl => ?_)
    exact w_Mo_parts_J264 C0 hQ hK hrec h w (lv_sub hl [2, 3, 0, 4, 5, 6, 7] rfl)
set_option maxRecDepth 100000 in
theorem w_Mo_parts_L148 {p : Program} {l : Launch} {e : Env} {s : State} {m : MethodId} {args : Array Value} {below : List Frame} {meth : Method} {c : Code} {Q : State → Prop} {A : Nat → Prop} {D : va_G} {cI cJ cZ cO : ClassId} {q_this q_m q_saved q_w q_savedWords q_isSaved q_text q_far q_queue q_parent q_by q_seen q_path q_row q_more q_stateOf : Nat} {v_textLength : Int32} {v_steps : Int32} {v_missing : Int64} {v_mores : Int32} {v_hash : Int64} {v_m : (Nat → Int32)} {v_path : (Nat → Int32)} {x3 : Int32} {x5 : Int32} {x6 : Int32} {x7 : Int32} {x : Int32 × (Nat → Int32) × (Nat → Int32) × (Nat → Int32) × (Nat → Int32) × (Nat → Int32) × Int32} (C0 : Cx p s m args c A D cI cJ cZ cO cX10_parts 11 RX10) (hQ : RtI p l e rm_Mo_parts s m args below meth c Q A D cX10_parts .boolean (ws_Mo_parts cI cJ cZ q_this q_m q_saved q_w q_savedWords q_isSaved q_text q_far q_queue q_parent q_by q_seen q_path q_row q_more q_stateOf v_textLength x.2.2.2.2.2.2 v_missing v_mores v_hash v_m x.2.1 x.2.2.1 x.2.2.2.1 x.2.2.2.2.1 x.2.2.2.2.2.1) x.1) {K : Int32 → Int32 → (Nat → Int32) → (Nat → Int32) → (Nat → Int32) → (Nat → Int32) → Option (Int32 × (Nat → Int32) × (Nat → Int32) × (Nat → Int32) × (Nat → Int32) × (Nat → Int32) × Int32)} (hK : ∀ (x4 : Int32) (x9 : Int32) (v_queue : (Nat → Int32)) (v_parent : (Nat → Int32)) (v_by : (Nat → Int32)) (v_seen : (Nat → Int32)) (H : Heap) (locs : List Loc) (ls : Array Slot), K x4 x9 v_queue v_parent v_by v_seen = some x → Wd s A D (ws_Mo_parts cI cJ cZ q_this q_m q_saved q_w q_savedWords q_isSaved q_text q_far q_queue q_parent q_by q_seen q_path q_row q_more q_stateOf v_textLength v_steps v_missing v_mores v_hash v_m v_queue v_parent v_by v_seen v_path) H locs → lv_has ls 11 [(0, .ref q_this), (3, .int x3), (4, .int x4), (5, .int x5)] → W p l e rm_Mo_parts s m args below meth c H locs 0 0 Q (F0 m 270 ls [])) {rec : Int32 → Int32 → (Nat → Int32) → (Nat → Int32) → (Nat → Int32) → (Nat → Int32) → Option (Int32 × (Nat → Int32) × (Nat → Int32) × (Nat → Int32) × (Nat → Int32) × (Nat → Int32) × Int32)} (hrec : ∀ (x4 : Int32) (x9 : Int32) (v_queue : (Nat → Int32)) (v_parent : (Nat → Int32)) (v_by : (Nat → Int32)) (v_seen : (Nat → Int32)) (H : Heap) (locs : List Loc) (ls : Array Slot), rec x4 x9 v_queue v_parent v_by v_seen = some x → Wd s A D (ws_Mo_parts cI cJ cZ q_this q_m q_saved q_w q_savedWords q_isSaved q_text q_far q_queue q_parent q_by q_seen q_path q_row q_more q_stateOf v_textLength v_steps v_missing v_mores v_hash v_m v_queue v_parent v_by v_seen v_path) H locs → lv_has ls 11 [(0, .ref q_this), (3, .int x3), (4, .int x4), (5, .int x5), (6, .int x6), (7, .int x7), (9, .int x9)] → W p l e rm_Mo_parts s m args below meth c H locs 0 0 Q (F0 m 148 ls [])) (x4 : Int32) (x9 : Int32) (v_queue : (Nat → Int32)) (v_parent : (Nat → Int32)) (v_by : (Nat → Int32)) (v_seen : (Nat → Int32)) {H : Heap} {locs : List Loc} {ls : Array Slot} (h : f_Mo_parts_L148 v_m x3 x5 x6 x7 K rec x4 x9 v_queue v_parent v_by v_seen = some x) (w : Wd s A D (ws_Mo_parts cI cJ cZ q_this q_m q_saved q_w q_savedWords q_isSaved q_text q_far q_queue q_parent q_by q_seen q_path q_row q_more q_stateOf v_textLength v_steps v_missing v_mores v_hash v_m v_queue v_parent v_by v_seen v_path) H locs) (hl : lv_has ls 11 [(0, .ref q_this), (3, .int x3), (4, .int x4), (5, .int x5), (6, .int x6), (7, .int x7), (9, .int x9)]) : W p l e rm_Mo_parts s m args below meth c H locs 0 0 Q (F0 m 148 ls []) := by
  obtain ⟨hx, hb, hml, hown, hts, -, -⟩ := id C0
  unfold f_Mo_parts_L148 at h
  refine lv_iload hx hb dX10_parts_148 (lv_at hl 6 rfl) ?_
  refine lv_aload_n hx hb dX10_parts_150 rfl (lv_at hl 0 rfl) ?_
  refine r_get C0 w 0 rfl kf_Mo 0 (by decide) lf_RX10_7 rfl dX10_parts_151 ?_
  refine lv_iconst (v := (1 : Int32)) hx hb dX10_parts_154 (by decide) ?_
  refine r_iald C0 w 1 rfl (k := 1) (by decide) (inl (by decide)) dX10_parts_155 ?_
  refine lv_icmp_ge (tgt := 270) hx hb dX10_parts_156 (by decide) (fun hc => ?_) (fun hc => ?_)
  · have h := if_h hc h
    exact hK _ _ _ _ _ _ _ _ _ h w (lv_sub hl [0, 1, 2, 3] rfl)
  · have h := nf_h hc h
    refine lv_bipush (v := (8 : Int32)) hx hb dX10_parts_159 (by decide) ?_
    refine lv_iload_n hx hb dX10_parts_161 rfl (lv_at hl 1 rfl) ?_
    refine lv_if_eq (tgt := 184) hx hb dX10_parts_162 (by decide) (fun hc => ?_) (fun hc => ?_)
    · have h := if_h hc h
      refine lv_aload_n hx hb dX10_parts_184 rfl (lv_at hl 0 rfl) ?_
      refine r_get C0 w 0 rfl kf_Mo 0 (by decide) lf_RX10_7 rfl dX10_parts_185 ?_
      refine lv_iconst (v := (2 : Int32)) hx hb dX10_parts_188 (by decide) ?_
      refine lv_iconst (v := (3 : Int32)) hx hb dX10_parts_189 (by decide) ?_
      refine lv_iload hx hb dX10_parts_190 (lv_at hl 4 rfl) ?_
      refine lv_imul hx hb dX10_parts_192 ?_
      refine lv_iadd hx hb dX10_parts_193 ?_
      refine lv_iload hx hb dX10_parts_194 (lv_at hl 6 rfl) ?_
      refine lv_iadd hx hb dX10_parts_196 ?_
      obtain ⟨hi, h⟩ := gIn_h h
      refine r_iald C0 w 1 rfl rfl hi dX10_parts_197 ?_
      exact w_Mo_parts_J198 C0 hQ hK hrec h w (lv_sub hl [0, 1, 2, 3, 4, 5, 6] rfl)
    · have h := nf_h hc h
      refine lv_aload_n hx hb dX10_parts_165 rfl (lv_at hl 0 rfl) ?_
      refine r_get C0 w 0 rfl kf_Mo 0 (by decide) lf_RX10_7 rfl dX10_parts_166 ?_
      refine lv_sipush (v := (361 : Int32)) hx hb dX10_parts_169 (by decide) ?_
      refine lv_iconst (v := (3 : Int32)) hx hb dX10_parts_172 (by decide) ?_
      refine lv_iload hx hb dX10_parts_173 (lv_at hl 4 rfl) ?_
      refine lv_imul hx hb dX10_parts_175 ?_
      refine lv_iadd hx hb dX10_parts_176 ?_
      refine lv_iload hx hb dX10_parts_177 (lv_at hl 6 rfl) ?_
      refine lv_iadd hx hb dX10_parts_179 ?_
      obtain ⟨hi, h⟩ := gIn_h h
      refine r_iald C0 w 1 rfl rfl hi dX10_parts_180 ?_
      refine lv_goto (tgt := 198) hx hb dX10_parts_181 (by decide) ?_
      exact w_Mo_parts_J198 C0 hQ hK hrec h w (lv_sub hl [0, 1, 2, 3, 4, 5, 6] rfl)
set_option maxRecDepth 100000 in
theorem wl_Mo_parts_L148 {p : Program} {l : Launch} {e : Env} {s : State} {m : MethodId} {args : Array Value} {below : List Frame} {meth : Method} {c : Code} {Q : State → Prop} {A : Nat → Prop} {D : va_G} {cI cJ cZ cO : ClassId} {q_this q_m q_saved q_w q_savedWords q_isSaved q_text q_far q_queue q_parent q_by q_seen q_path q_row q_more q_stateOf : Nat} {v_textLength : Int32} {v_steps : Int32} {v_missing : Int64} {v_mores : Int32} {v_hash : Int64} {v_m : (Nat → Int32)} {v_path : (Nat → Int32)} {x3 : Int32} {x5 : Int32} {x6 : Int32} {x7 : Int32} {x : Int32 × (Nat → Int32) × (Nat → Int32) × (Nat → Int32) × (Nat → Int32) × (Nat → Int32) × Int32} (C0 : Cx p s m args c A D cI cJ cZ cO cX10_parts 11 RX10) (hQ : RtI p l e rm_Mo_parts s m args below meth c Q A D cX10_parts .boolean (ws_Mo_parts cI cJ cZ q_this q_m q_saved q_w q_savedWords q_isSaved q_text q_far q_queue q_parent q_by q_seen q_path q_row q_more q_stateOf v_textLength x.2.2.2.2.2.2 v_missing v_mores v_hash v_m x.2.1 x.2.2.1 x.2.2.2.1 x.2.2.2.2.1 x.2.2.2.2.2.1) x.1) {K : Int32 → Int32 → (Nat → Int32) → (Nat → Int32) → (Nat → Int32) → (Nat → Int32) → Option (Int32 × (Nat → Int32) × (Nat → Int32) × (Nat → Int32) × (Nat → Int32) × (Nat → Int32) × Int32)} (hK : ∀ (x4 : Int32) (x9 : Int32) (v_queue : (Nat → Int32)) (v_parent : (Nat → Int32)) (v_by : (Nat → Int32)) (v_seen : (Nat → Int32)) (H : Heap) (locs : List Loc) (ls : Array Slot), K x4 x9 v_queue v_parent v_by v_seen = some x → Wd s A D (ws_Mo_parts cI cJ cZ q_this q_m q_saved q_w q_savedWords q_isSaved q_text q_far q_queue q_parent q_by q_seen q_path q_row q_more q_stateOf v_textLength v_steps v_missing v_mores v_hash v_m v_queue v_parent v_by v_seen v_path) H locs → lv_has ls 11 [(0, .ref q_this), (3, .int x3), (4, .int x4), (5, .int x5)] → W p l e rm_Mo_parts s m args below meth c H locs 0 0 Q (F0 m 270 ls [])) : ∀ (n : Nat) (x4 : Int32) (x9 : Int32) (v_queue : (Nat → Int32)) (v_parent : (Nat → Int32)) (v_by : (Nat → Int32)) (v_seen : (Nat → Int32)) (H : Heap) (locs : List Loc) (ls : Array Slot), itr (fun _ _ _ _ _ _ => none) (f_Mo_parts_L148 v_m x3 x5 x6 x7 K) n x4 x9 v_queue v_parent v_by v_seen = some x → Wd s A D (ws_Mo_parts cI cJ cZ q_this q_m q_saved q_w q_savedWords q_isSaved q_text q_far q_queue q_parent q_by q_seen q_path q_row q_more q_stateOf v_textLength v_steps v_missing v_mores v_hash v_m v_queue v_parent v_by v_seen v_path) H locs → lv_has ls 11 [(0, .ref q_this), (3, .int x3), (4, .int x4), (5, .int x5), (6, .int x6), (7, .int x7), (9, .int x9)] → W p l e rm_Mo_parts s m args below meth c H locs 0 0 Q (F0 m 148 ls []) := by
  intro n
  induction n with
  | zero => intro _ _ _ _ _ _ _ _ _ h; cases (show none = some _ from h)
  | succ n ih => intro _ _ _ _ _ _ _ _ _ h w hl; exact w_Mo_parts_L148 C0 hQ hK ih _ _ _ _ _ _ h w hl
set_option maxRecDepth 100000 in
theorem w_Mo_parts_J121 {p : Program} {l : Launch} {e : Env} {s : State} {m : MethodId} {args : Array Value} {below : List Frame} {meth : Method} {c : Code} {Q : State → Prop} {A : Nat → Prop} {D : va_G} {cI cJ cZ cO : ClassId} {q_this q_m q_saved q_w q_savedWords q_isSaved q_text q_far q_queue q_parent q_by q_seen q_path q_row q_more q_stateOf : Nat} {v_textLength : Int32} {v_steps : Int32} {v_missing : Int64} {v_mores : Int32} {v_hash : Int64} {v_m : (Nat → Int32)} {v_queue : (Nat → Int32)} {v_parent : (Nat → Int32)} {v_by : (Nat → Int32)} {v_seen : (Nat → Int32)} {v_path : (Nat → Int32)} {x : Int32 × (Nat → Int32) × (Nat → Int32) × (Nat → Int32) × (Nat → Int32) × (Nat → Int32) × Int32} {x3 : Int32} {x4 : Int32} {x5 : Int32} {x6 : Int32} {x7 : Int32} {s0 : Int32} (C0 : Cx p s m args c A D cI cJ cZ cO cX10_parts 11 RX10) (hQ : RtI p l e rm_Mo_parts s m args below meth c Q A D cX10_parts .boolean (ws_Mo_parts cI cJ cZ q_this q_m q_saved q_w q_savedWords q_isSaved q_text q_far q_queue q_parent q_by q_seen q_path q_row q_more q_stateOf v_textLength x.2.2.2.2.2.2 v_missing v_mores v_hash v_m x.2.1 x.2.2.1 x.2.2.2.1 x.2.2.2.2.1 x.2.2.2.2.2.1) x.1) {K : Int32 → Int32 → (Nat → Int32) → (Nat → Int32) → (Nat → Int32) → (Nat → Int32) → Option (Int32 × (Nat → Int32) × (Nat → Int32) × (Nat → Int32) × (Nat → Int32) × (Nat → Int32) × Int32)} (hK : ∀ (y4 : Int32) (y5 : Int32) (u_queue : (Nat → Int32)) (u_parent : (Nat → Int32)) (u_by : (Nat → Int32)) (u_seen : (Nat → Int32)) (H : Heap) (locs : List Loc) (ls : Array Slot), K y4 y5 u_queue u_parent u_by u_seen = some x → Wd s A D (ws_Mo_parts cI cJ cZ q_this q_m q_saved q_w q_savedWords q_isSaved q_text q_far q_queue q_parent q_by q_seen q_path q_row q_more q_stateOf v_textLength v_steps v_missing v_mores v_hash v_m u_queue u_parent u_by u_seen v_path) H locs → lv_has ls 11 [] → W p l e rm_Mo_parts s m args below meth c H locs 0 0 Q (F0 m 276 ls [])) {rec : Int32 → Int32 → (Nat → Int32) → (Nat → Int32) → (Nat → Int32) → (Nat → Int32) → Option (Int32 × (Nat → Int32) × (Nat → Int32) × (Nat → Int32) × (Nat → Int32) × (Nat → Int32) × Int32)} (hrec : ∀ (y4 : Int32) (y5 : Int32) (u_queue : (Nat → Int32)) (u_parent : (Nat → Int32)) (u_by : (Nat → Int32)) (u_seen : (Nat → Int32)) (H : Heap) (locs : List Loc) (ls : Array Slot), rec y4 y5 u_queue u_parent u_by u_seen = some x → Wd s A D (ws_Mo_parts cI cJ cZ q_this q_m q_saved q_w q_savedWords q_isSaved q_text q_far q_queue q_parent q_by q_seen q_path q_row q_more q_stateOf v_textLength v_steps v_missing v_mores v_hash v_m u_queue u_parent u_by u_seen v_path) H locs → lv_has ls 11 [(0, .ref q_this), (3, .int x3), (4, .int y4), (5, .int y5)] → W p l e rm_Mo_parts s m args below meth c H locs 0 0 Q (F0 m 62 ls [])) {H : Heap} {locs : List Loc} {ls : Array Slot} (h : f_Mo_parts_J121 rec x3 x4 x5 x6 x7 s0 v_m v_queue v_parent v_by v_seen v_path = some x) (w : Wd s A D (ws_Mo_parts cI cJ cZ q_this q_m q_saved q_w q_savedWords q_isSaved q_text q_far q_queue q_parent q_by q_seen q_path q_row q_more q_stateOf v_textLength v_steps v_missing v_mores v_hash v_m v_queue v_parent v_by v_seen v_path) H locs) (hl : lv_has ls 11 [(0, .ref q_this), (3, .int x3), (4, .int x4), (5, .int x5), (6, .int x6), (7, .int x7)]) : W p l e rm_Mo_parts s m args below meth c H locs 0 0 Q (F0 m 121 ls [.int s0]) := by
  obtain ⟨hx, hb, hml, hown, hts, -, -⟩ := id C0
  unfold f_Mo_parts_J121 at h
  refine lv_istore (lv' := [(8, .int s0), (0, .ref q_this), (3, .int x3), (4, .int x4), (5, .int x5), (6, .int x6), (7, .int x7)]) hx hb dX10_parts_121 hl (by decide) rfl (fun ls hl => ?_)
  refine lv_iload hx hb dX10_parts_123 (lv_at hl 0 rfl) ?_
  refine lv_aload_n hx hb dX10_parts_125 rfl (lv_at hl 1 rfl) ?_
  refine r_get C0 w 0 rfl kf_Mo 0 (by decide) lf_RX10_7 rfl dX10_parts_126 ?_
  refine lv_bipush (v := (26 : Int32)) hx hb dX10_parts_129 (by decide) ?_
  refine lv_iload hx hb dX10_parts_131 (lv_at hl 6 rfl) ?_
  refine lv_iadd hx hb dX10_parts_133 ?_
  obtain ⟨hi, h⟩ := gIn_h h
  refine r_iald C0 w 1 rfl rfl hi dX10_parts_134 ?_
  refine lv_icmp_eq (tgt := 145) hx hb dX10_parts_135 (by decide) (fun hc => ?_) (fun hc => ?_)
  · have h := if_h hc h
    refine lv_iconst (v := (0 : Int32)) hx hb dX10_parts_145 (by decide) ?_
    refine lv_istore (lv' := [(9, .int (0 : Int32)), (8, .int s0), (0, .ref q_this), (3, .int x3), (4, .int x4), (5, .int x5), (6, .int x6), (7, .int x7)]) hx hb dX10_parts_146 hl (by decide) rfl (fun ls hl => ?_)
    refine wl_Mo_parts_L148 C0 hQ (fun x4_1 x9 v_queue_1 v_parent_1 v_by_1 v_seen_1 H locs ls h w hl => ?_) _ _ _ _ _ _ _ _ _ _ h w (lv_sub hl [2, 3, 4, 5, 6, 7, 0] rfl)
    obtain ⟨x5_1, ex5_1⟩ : ∃ y : Int32, y = (x5 + 1) := ⟨_, rfl⟩
    have h := bnd_at ex5_1 h
    refine lv_iinc (v := x5_1) (lv' := [(5, .int x5_1), (0, .ref q_this), (3, .int x3), (4, .int x4_1)]) hx hb dX10_parts_270 hl (k := 3) rfl (by rw [ex5_1]; rfl) (by decide) rfl (fun ls hl => ?_)
    refine lv_goto (tgt := 62) hx hb dX10_parts_273 (by decide) ?_
    exact hrec _ _ _ _ _ _ _ _ _ h w (lv_sub hl [1, 2, 3, 0] rfl)
  · have h := nf_h hc h
    refine lv_aload_n hx hb dX10_parts_138 rfl (lv_at hl 1 rfl) ?_
    refine lv_iload hx hb dX10_parts_139 (lv_at hl 4 rfl) ?_
    obtain ⟨r, v_path_1, v_steps_1, hcall, h⟩ := bd3_h h
    have hp := sp_of (ws := (ws_Mo_parts cI cJ cZ q_this q_m q_saved q_w q_savedWords q_isSaved q_text q_far q_queue q_parent q_by q_seen q_path q_row q_more q_stateOf v_textLength v_steps v_missing v_mores v_hash v_m v_queue v_parent v_by v_seen v_path)) (wc := (ws_Mo_goesBack cI cJ cZ q_this q_m q_saved q_w q_savedWords q_isSaved q_text q_far q_queue q_parent q_by q_seen q_path q_row q_more q_stateOf v_textLength v_steps v_missing v_mores v_hash v_parent v_by v_path)) [0, 3, 4, 6] [1, 2, 5] rfl rfl
    have hp' : Rp (pk (ws_Mo_parts cI cJ cZ q_this q_m q_saved q_w q_savedWords q_isSaved q_text q_far q_queue q_parent q_by q_seen q_path q_row q_more q_stateOf v_textLength v_steps v_missing v_mores v_hash v_m v_queue v_parent v_by v_seen v_path) [1, 2, 5] ++ (ws_Mo_goesBack cI cJ cZ q_this q_m q_saved q_w q_savedWords q_isSaved q_text q_far q_queue q_parent q_by q_seen q_path q_row q_more q_stateOf v_textLength v_steps_1 v_missing v_mores v_hash v_parent v_by v_path_1)) (ws_Mo_parts cI cJ cZ q_this q_m q_saved q_w q_savedWords q_isSaved q_text q_far q_queue q_parent q_by q_seen q_path q_row q_more q_stateOf v_textLength v_steps_1 v_missing v_mores v_hash v_m v_queue v_parent v_by v_seen v_path_1) := ⟨[3, 0, 1, 4, 5, 2, 6], rfl, rfl⟩
    refine r_VI (r := r) (As := [.int x5]) (rest := []) (wc' := (ws_Mo_goesBack cI cJ cZ q_this q_m q_saved q_w q_savedWords q_isSaved q_text q_far q_queue q_parent q_by q_seen q_path q_row q_more q_stateOf v_textLength v_steps_1 v_missing v_mores v_hash v_parent v_by v_path_1)) (ws' := (ws_Mo_parts cI cJ cZ q_this q_m q_saved q_w q_savedWords q_isSaved q_text q_far q_queue q_parent q_by q_seen q_path q_row q_more q_stateOf v_textLength v_steps_1 v_missing v_mores v_hash v_m v_queue v_parent v_by v_seen v_path_1)) C0 w (c_Mo_goesBack hcall) hp hp' lm_RX10_107 mv_Mo_goesBack ⟨rfl, rfl⟩ ⟨by decide, by decide⟩ ⟨Nat.zero_le _, Nat.zero_le _⟩ (q0 := 0) rfl rfl rfl rfl hl rfl (Nat.le_of_ble_eq_true rfl) dX10_parts_141 (fun H locs w => ?_)
    obtain ⟨hg, h⟩ := gB_h h
    cases h
    exact hQ _ _ _ _ dX10_parts_144 (gB_n hg) w
set_option maxRecDepth 100000 in
theorem w_Mo_parts_L62 {p : Program} {l : Launch} {e : Env} {s : State} {m : MethodId} {args : Array Value} {below : List Frame} {meth : Method} {c : Code} {Q : State → Prop} {A : Nat → Prop} {D : va_G} {cI cJ cZ cO : ClassId} {q_this q_m q_saved q_w q_savedWords q_isSaved q_text q_far q_queue q_parent q_by q_seen q_path q_row q_more q_stateOf : Nat} {v_textLength : Int32} {v_steps : Int32} {v_missing : Int64} {v_mores : Int32} {v_hash : Int64} {v_m : (Nat → Int32)} {v_path : (Nat → Int32)} {x3 : Int32} {x : Int32 × (Nat → Int32) × (Nat → Int32) × (Nat → Int32) × (Nat → Int32) × (Nat → Int32) × Int32} (C0 : Cx p s m args c A D cI cJ cZ cO cX10_parts 11 RX10) (hQ : RtI p l e rm_Mo_parts s m args below meth c Q A D cX10_parts .boolean (ws_Mo_parts cI cJ cZ q_this q_m q_saved q_w q_savedWords q_isSaved q_text q_far q_queue q_parent q_by q_seen q_path q_row q_more q_stateOf v_textLength x.2.2.2.2.2.2 v_missing v_mores v_hash v_m x.2.1 x.2.2.1 x.2.2.2.1 x.2.2.2.2.1 x.2.2.2.2.2.1) x.1) {K : Int32 → Int32 → (Nat → Int32) → (Nat → Int32) → (Nat → Int32) → (Nat → Int32) → Option (Int32 × (Nat → Int32) × (Nat → Int32) × (Nat → Int32) × (Nat → Int32) × (Nat → Int32) × Int32)} (hK : ∀ (x4 : Int32) (x5 : Int32) (v_queue : (Nat → Int32)) (v_parent : (Nat → Int32)) (v_by : (Nat → Int32)) (v_seen : (Nat → Int32)) (H : Heap) (locs : List Loc) (ls : Array Slot), K x4 x5 v_queue v_parent v_by v_seen = some x → Wd s A D (ws_Mo_parts cI cJ cZ q_this q_m q_saved q_w q_savedWords q_isSaved q_text q_far q_queue q_parent q_by q_seen q_path q_row q_more q_stateOf v_textLength v_steps v_missing v_mores v_hash v_m v_queue v_parent v_by v_seen v_path) H locs → lv_has ls 11 [] → W p l e rm_Mo_parts s m args below meth c H locs 0 0 Q (F0 m 276 ls [])) {rec : Int32 → Int32 → (Nat → Int32) → (Nat → Int32) → (Nat → Int32) → (Nat → Int32) → Option (Int32 × (Nat → Int32) × (Nat → Int32) × (Nat → Int32) × (Nat → Int32) × (Nat → Int32) × Int32)} (hrec : ∀ (x4 : Int32) (x5 : Int32) (v_queue : (Nat → Int32)) (v_parent : (Nat → Int32)) (v_by : (Nat → Int32)) (v_seen : (Nat → Int32)) (H : Heap) (locs : List Loc) (ls : Array Slot), rec x4 x5 v_queue v_parent v_by v_seen = some x → Wd s A D (ws_Mo_parts cI cJ cZ q_this q_m q_saved q_w q_savedWords q_isSaved q_text q_far q_queue q_parent q_by q_seen q_path q_row q_more q_stateOf v_textLength v_steps v_missing v_mores v_hash v_m v_queue v_parent v_by v_seen v_path) H locs → lv_has ls 11 [(0, .ref q_this), (3, .int x3), (4, .int x4), (5, .int x5)] → W p l e rm_Mo_parts s m args below meth c H locs 0 0 Q (F0 m 62 ls [])) (x4 : Int32) (x5 : Int32) (v_queue : (Nat → Int32)) (v_parent : (Nat → Int32)) (v_by : (Nat → Int32)) (v_seen : (Nat → Int32)) {H : Heap} {locs : List Loc} {ls : Array Slot} (h : f_Mo_parts_L62 v_m v_path x3 K rec x4 x5 v_queue v_parent v_by v_seen = some x) (w : Wd s A D (ws_Mo_parts cI cJ cZ q_this q_m q_saved q_w q_savedWords q_isSaved q_text q_far q_queue q_parent q_by q_seen q_path q_row q_more q_stateOf v_textLength v_steps v_missing v_mores v_hash v_m v_queue v_parent v_by v_seen v_path) H locs) (hl : lv_has ls 11 [(0, .ref q_this), (3, .int x3), (4, .int x4), (5, .int x5)]) : W p l e rm_Mo_parts s m args below meth c H locs 0 0 Q (F0 m 62 ls []) := by
  obtain ⟨hx, hb, hml, hown, hts, -, -⟩ := id C0
  unfold f_Mo_parts_L62 at h
  refine lv_iload hx hb dX10_parts_62 (lv_at hl 3 rfl) ?_
  refine lv_iload hx hb dX10_parts_64 (lv_at hl 2 rfl) ?_
  refine lv_icmp_ge (tgt := 276) hx hb dX10_parts_66 (by decide) (fun hc => ?_) (fun hc => ?_)
  · have h := if_h hc h
    exact hK _ _ _ _ _ _ _ _ _ h w (lv_sub hl [] rfl)
  · have h := nf_h hc h
    refine lv_aload_n hx hb dX10_parts_69 rfl (lv_at hl 0 rfl) ?_
    refine r_get C0 w 0 rfl kf_Mo 8 (by decide) lf_RX10_33 rfl dX10_parts_70 ?_
    refine lv_iload hx hb dX10_parts_73 (lv_at hl 3 rfl) ?_
    obtain ⟨hi, h⟩ := gIn_h h
    refine r_iald C0 w 2 rfl rfl hi dX10_parts_75 ?_
    refine lv_bipush (v := (8 : Int32)) hx hb dX10_parts_76 (by decide) ?_
    refine lv_idiv hx hb dX10_parts_78 (by decide) ?_
    refine lv_topi (fun x6 ex6 => ?_)
    have h := bnd_at ex6 h
    refine lv_istore (lv' := [(6, .int x6), (0, .ref q_this), (3, .int x3), (4, .int x4), (5, .int x5)]) hx hb dX10_parts_79 hl (by decide) rfl (fun ls hl => ?_)
    refine lv_aload_n hx hb dX10_parts_81 rfl (lv_at hl 1 rfl) ?_
    refine r_get C0 w 0 rfl kf_Mo 8 (by decide) lf_RX10_33 rfl dX10_parts_82 ?_
    refine lv_iload hx hb dX10_parts_85 (lv_at hl 4 rfl) ?_
    obtain ⟨hi, h⟩ := gIn_h h
    refine r_iald C0 w 2 rfl rfl hi dX10_parts_87 ?_
    refine lv_bipush (v := (8 : Int32)) hx hb dX10_parts_88 (by decide) ?_
    refine lv_irem hx hb dX10_parts_90 (by decide) ?_
    refine lv_topi (fun x7 ex7 => ?_)
    have h := bnd_at ex7 h
    refine lv_istore (lv' := [(7, .int x7), (6, .int x6), (0, .ref q_this), (3, .int x3), (4, .int x4), (5, .int x5)]) hx hb dX10_parts_91 hl (by decide) rfl (fun ls hl => ?_)
    refine lv_iload_n hx hb dX10_parts_93 rfl (lv_at hl 3 rfl) ?_
    refine lv_if_eq (tgt := 111) hx hb dX10_parts_94 (by decide) (fun hc => ?_) (fun hc => ?_)
    · have h := if_h hc h
      refine lv_aload_n hx hb dX10_parts_111 rfl (lv_at hl 2 rfl) ?_
      refine r_get C0 w 0 rfl kf_Mo 0 (by decide) lf_RX10_7 rfl dX10_parts_112 ?_
      refine lv_bipush (v := (26 : Int32)) hx hb dX10_parts_115 (by decide) ?_
      refine lv_iload hx hb dX10_parts_117 (lv_at hl 1 rfl) ?_
      refine lv_iadd hx hb dX10_parts_119 ?_
      obtain ⟨hi, h⟩ := gIn_h h
      refine r_iald C0 w 1 rfl rfl hi dX10_parts_120 ?_
      exact w_Mo_parts_J121 C0 hQ hK hrec h w (lv_sub hl [2, 3, 4, 5, 1, 0] rfl)
    · have h := nf_h hc h
      refine lv_aload_n hx hb dX10_parts_97 rfl (lv_at hl 2 rfl) ?_
      refine r_get C0 w 0 rfl kf_Mo 0 (by decide) lf_RX10_7 rfl dX10_parts_98 ?_
      refine lv_sipush (v := (481 : Int32)) hx hb dX10_parts_101 (by decide) ?_
      refine lv_iload hx hb dX10_parts_104 (lv_at hl 1 rfl) ?_
      refine lv_iadd hx hb dX10_parts_106 ?_
      obtain ⟨hi, h⟩ := gIn_h h
      refine r_iald C0 w 1 rfl rfl hi dX10_parts_107 ?_
      refine lv_goto (tgt := 121) hx hb dX10_parts_108 (by decide) ?_
      exact w_Mo_parts_J121 C0 hQ hK hrec h w (lv_sub hl [2, 3, 4, 5, 1, 0] rfl)
set_option maxRecDepth 100000 in
theorem wl_Mo_parts_L62 {p : Program} {l : Launch} {e : Env} {s : State} {m : MethodId} {args : Array Value} {below : List Frame} {meth : Method} {c : Code} {Q : State → Prop} {A : Nat → Prop} {D : va_G} {cI cJ cZ cO : ClassId} {q_this q_m q_saved q_w q_savedWords q_isSaved q_text q_far q_queue q_parent q_by q_seen q_path q_row q_more q_stateOf : Nat} {v_textLength : Int32} {v_steps : Int32} {v_missing : Int64} {v_mores : Int32} {v_hash : Int64} {v_m : (Nat → Int32)} {v_path : (Nat → Int32)} {x3 : Int32} {x : Int32 × (Nat → Int32) × (Nat → Int32) × (Nat → Int32) × (Nat → Int32) × (Nat → Int32) × Int32} (C0 : Cx p s m args c A D cI cJ cZ cO cX10_parts 11 RX10) (hQ : RtI p l e rm_Mo_parts s m args below meth c Q A D cX10_parts .boolean (ws_Mo_parts cI cJ cZ q_this q_m q_saved q_w q_savedWords q_isSaved q_text q_far q_queue q_parent q_by q_seen q_path q_row q_more q_stateOf v_textLength x.2.2.2.2.2.2 v_missing v_mores v_hash v_m x.2.1 x.2.2.1 x.2.2.2.1 x.2.2.2.2.1 x.2.2.2.2.2.1) x.1) {K : Int32 → Int32 → (Nat → Int32) → (Nat → Int32) → (Nat → Int32) → (Nat → Int32) → Option (Int32 × (Nat → Int32) × (Nat → Int32) × (Nat → Int32) × (Nat → Int32) × (Nat → Int32) × Int32)} (hK : ∀ (x4 : Int32) (x5 : Int32) (v_queue : (Nat → Int32)) (v_parent : (Nat → Int32)) (v_by : (Nat → Int32)) (v_seen : (Nat → Int32)) (H : Heap) (locs : List Loc) (ls : Array Slot), K x4 x5 v_queue v_parent v_by v_seen = some x → Wd s A D (ws_Mo_parts cI cJ cZ q_this q_m q_saved q_w q_savedWords q_isSaved q_text q_far q_queue q_parent q_by q_seen q_path q_row q_more q_stateOf v_textLength v_steps v_missing v_mores v_hash v_m v_queue v_parent v_by v_seen v_path) H locs → lv_has ls 11 [] → W p l e rm_Mo_parts s m args below meth c H locs 0 0 Q (F0 m 276 ls [])) : ∀ (n : Nat) (x4 : Int32) (x5 : Int32) (v_queue : (Nat → Int32)) (v_parent : (Nat → Int32)) (v_by : (Nat → Int32)) (v_seen : (Nat → Int32)) (H : Heap) (locs : List Loc) (ls : Array Slot), itr (fun _ _ _ _ _ _ => none) (f_Mo_parts_L62 v_m v_path x3 K) n x4 x5 v_queue v_parent v_by v_seen = some x → Wd s A D (ws_Mo_parts cI cJ cZ q_this q_m q_saved q_w q_savedWords q_isSaved q_text q_far q_queue q_parent q_by q_seen q_path q_row q_more q_stateOf v_textLength v_steps v_missing v_mores v_hash v_m v_queue v_parent v_by v_seen v_path) H locs → lv_has ls 11 [(0, .ref q_this), (3, .int x3), (4, .int x4), (5, .int x5)] → W p l e rm_Mo_parts s m args below meth c H locs 0 0 Q (F0 m 62 ls []) := by
  intro n
  induction n with
  | zero => intro _ _ _ _ _ _ _ _ _ h; cases (show none = some _ from h)
  | succ n ih => intro _ _ _ _ _ _ _ _ _ h w hl; exact w_Mo_parts_L62 C0 hQ hK ih _ _ _ _ _ _ h w hl
set_option maxRecDepth 100000 in
theorem c_Mo_parts {l : Launch} {D : va_G} {cI cJ cZ cO : ClassId} {q_this q_m q_saved q_w q_savedWords q_isSaved q_text q_far q_queue q_parent q_by q_seen q_path q_row q_more q_stateOf : Nat} {x1 : Int32} {x2 : Int32} {x3 : Int32} {v_textLength : Int32} {v_steps : Int32} {v_missing : Int64} {v_mores : Int32} {v_hash : Int64} {v_m : (Nat → Int32)} {v_queue : (Nat → Int32)} {v_parent : (Nat → Int32)} {v_by : (Nat → Int32)} {v_seen : (Nat → Int32)} {v_path : (Nat → Int32)} {x : Int32 × (Nat → Int32) × (Nat → Int32) × (Nat → Int32) × (Nat → Int32) × (Nat → Int32) × Int32} (h : f_Mo_parts x1 x2 x3 v_steps v_m v_queue v_parent v_by v_seen v_path = some x) : ctI l D cI cJ cZ cO yX10_parts cX10_parts 11 .boolean rm_Mo_parts [.ref q_this, .int x1, .int x2, .int x3] (ws_Mo_parts cI cJ cZ q_this q_m q_saved q_w q_savedWords q_isSaved q_text q_far q_queue q_parent q_by q_seen q_path q_row q_more q_stateOf v_textLength v_steps v_missing v_mores v_hash v_m v_queue v_parent v_by v_seen v_path) (ws_Mo_parts cI cJ cZ q_this q_m q_saved q_w q_savedWords q_isSaved q_text q_far q_queue q_parent q_by q_seen q_path q_row q_more q_stateOf v_textLength x.2.2.2.2.2.2 v_missing v_mores v_hash v_m x.2.1 x.2.2.1 x.2.2.2.1 x.2.2.2.2.1 x.2.2.2.2.2.1) x.1 := by
  refine ctI_of (by decide) (Nat.le_of_ble_eq_true rfl) ?_
  intro p e s m below meth c Q A ls C0 hQ w hl
  have hl : lv_has ls 11 [(0, .ref q_this), (1, .int x1), (2, .int x2), (3, .int x3)] := hl
  generalize List.toArray (α := Value) [.ref q_this, .int x1, .int x2, .int x3] = args at C0 hQ ⊢
  obtain ⟨hx, hb, hml, hown, hts, -, -⟩ := id C0
  unfold f_Mo_parts at h
  refine lv_iconst (v := (0 : Int32)) hx hb dX10_parts_0 (by decide) ?_
  refine lv_istore (lv' := [(4, .int (0 : Int32)), (0, .ref q_this), (1, .int x1), (2, .int x2), (3, .int x3)]) hx hb dX10_parts_1 hl (by decide) rfl (fun ls hl => ?_)
  refine wl_Mo_parts_L3 C0 hQ (fun x4 v_seen_1 H locs ls h w hl => ?_) _ _ _ _ _ _ h w (lv_sub hl [1, 2, 3, 4, 0] rfl)
  refine lv_aload_n hx hb dX10_parts_25 rfl (lv_at hl 0 rfl) ?_
  refine r_get C0 w 0 rfl kf_Mo 8 (by decide) lf_RX10_33 rfl dX10_parts_26 ?_
  refine lv_iconst (v := (0 : Int32)) hx hb dX10_parts_29 (by decide) ?_
  refine lv_bipush (v := (8 : Int32)) hx hb dX10_parts_30 (by decide) ?_
  refine lv_iload_n hx hb dX10_parts_32 rfl (lv_at hl 1 rfl) ?_
  refine lv_imul hx hb dX10_parts_33 ?_
  refine lv_iload_n hx hb dX10_parts_34 rfl (lv_at hl 2 rfl) ?_
  refine lv_iadd hx hb dX10_parts_35 ?_
  obtain ⟨v_queue_1, ev_queue_1⟩ : ∃ y, y = (upd v_queue 0 (((8 : Int32) * x1) + x2)) := ⟨_, rfl⟩
  have h := bnd_at ev_queue_1 h
  refine r_iast C0 w 2 rfl (f' := v_queue_1) (k := 0) (by decide) (inl (by decide)) ev_queue_1 dX10_parts_36 (ws' := (ws_Mo_parts cI cJ cZ q_this q_m q_saved q_w q_savedWords q_isSaved q_text q_far q_queue q_parent q_by q_seen q_path q_row q_more q_stateOf v_textLength v_steps v_missing v_mores v_hash v_m v_queue_1 v_parent v_by v_seen_1 v_path)) rfl (fun H locs w => ?_)
  refine lv_aload_n hx hb dX10_parts_37 rfl (lv_at hl 0 rfl) ?_
  refine r_get C0 w 0 rfl kf_Mo 9 (by decide) lf_RX10_36 rfl dX10_parts_38 ?_
  refine lv_iconst (v := (0 : Int32)) hx hb dX10_parts_41 (by decide) ?_
  refine lv_iconst (v := (-1 : Int32)) hx hb dX10_parts_42 (by decide) ?_
  obtain ⟨v_parent_1, ev_parent_1⟩ : ∃ y, y = (upd v_parent 0 (-1 : Int32)) := ⟨_, rfl⟩
  have h := bnd_at ev_parent_1 h
  refine r_iast C0 w 3 rfl (f' := v_parent_1) (k := 0) (by decide) (inl (by decide)) ev_parent_1 dX10_parts_43 (ws' := (ws_Mo_parts cI cJ cZ q_this q_m q_saved q_w q_savedWords q_isSaved q_text q_far q_queue q_parent q_by q_seen q_path q_row q_more q_stateOf v_textLength v_steps v_missing v_mores v_hash v_m v_queue_1 v_parent_1 v_by v_seen_1 v_path)) rfl (fun H locs w => ?_)
  refine lv_aload_n hx hb dX10_parts_44 rfl (lv_at hl 0 rfl) ?_
  refine r_get C0 w 0 rfl kf_Mo 11 (by decide) lf_RX10_42 rfl dX10_parts_45 ?_
  refine lv_aload_n hx hb dX10_parts_48 rfl (lv_at hl 0 rfl) ?_
  refine r_get C0 w 0 rfl kf_Mo 8 (by decide) lf_RX10_33 rfl dX10_parts_49 ?_
  refine lv_iconst (v := (0 : Int32)) hx hb dX10_parts_52 (by decide) ?_
  refine r_iald C0 w 2 rfl (k := 0) (by decide) (inl (by decide)) dX10_parts_53 ?_
  refine lv_iconst (v := (1 : Int32)) hx hb dX10_parts_54 (by decide) ?_
  obtain ⟨hi, h⟩ := gIn_h h
  obtain ⟨v_seen_2, ev_seen_2⟩ : ∃ y, y = (upd v_seen_1 (v_queue_1 0).toNatClampNeg (1 : Int32)) := ⟨_, rfl⟩
  have h := bnd_at ev_seen_2 h
  refine r_zast C0 w 5 rfl (f' := v_seen_2) rfl hi ev_seen_2 dX10_parts_55 (ws' := (ws_Mo_parts cI cJ cZ q_this q_m q_saved q_w q_savedWords q_isSaved q_text q_far q_queue q_parent q_by q_seen q_path q_row q_more q_stateOf v_textLength v_steps v_missing v_mores v_hash v_m v_queue_1 v_parent_1 v_by v_seen_2 v_path)) rfl (fun H locs w => ?_)
  refine lv_iconst (v := (1 : Int32)) hx hb dX10_parts_56 (by decide) ?_
  refine lv_istore (lv' := [(4, .int (1 : Int32)), (0, .ref q_this), (1, .int x1), (2, .int x2), (3, .int x3)]) hx hb dX10_parts_57 hl (by decide) rfl (fun ls hl => ?_)
  refine lv_iconst (v := (0 : Int32)) hx hb dX10_parts_59 (by decide) ?_
  refine lv_istore (lv' := [(5, .int (0 : Int32)), (4, .int (1 : Int32)), (0, .ref q_this), (1, .int x1), (2, .int x2), (3, .int x3)]) hx hb dX10_parts_60 hl (by decide) rfl (fun ls hl => ?_)
  refine wl_Mo_parts_L62 C0 hQ (fun x4_1 x5 v_queue_2 v_parent_2 v_by_1 v_seen_3 H locs ls h w hl => ?_) _ _ _ _ _ _ _ _ _ _ h w (lv_sub hl [2, 5, 1, 0] rfl)
  refine lv_iconst (v := (0 : Int32)) hx hb dX10_parts_276 (by decide) ?_
  cases h
  exact hQ _ _ _ _ dX10_parts_277 (gB_n (v := (0 : Int32)) (Or.inl rfl)) w
theorem dX10_pathPart_0 : decode cX10_pathPart 0 = .ok (.iload_n 1, 1) := by decide +kernel
theorem dX10_pathPart_1 : decode cX10_pathPart 1 = .ok (.iconst (-1), 1) := by decide +kernel
theorem dX10_pathPart_2 : decode cX10_pathPart 2 = .ok (.if_icmp .ne 10, 3) := by decide +kernel
theorem dX10_pathPart_5 : decode cX10_pathPart 5 = .ok (.aload_n 0, 1) := by decide +kernel
theorem dX10_pathPart_6 : decode cX10_pathPart 6 = .ok (.getfield 110, 3) := by decide +kernel
theorem dX10_pathPart_9 : decode cX10_pathPart 9 = .ok (.goto 21, 3) := by decide +kernel
theorem dX10_pathPart_12 : decode cX10_pathPart 12 = .ok (.iload_n 1, 1) := by decide +kernel
theorem dX10_pathPart_13 : decode cX10_pathPart 13 = .ok (.aload_n 0, 1) := by decide +kernel
theorem dX10_pathPart_14 : decode cX10_pathPart 14 = .ok (.getfield 110, 3) := by decide +kernel
theorem dX10_pathPart_17 : decode cX10_pathPart 17 = .ok (.if_icmp .ge 12, 3) := by decide +kernel
theorem dX10_pathPart_20 : decode cX10_pathPart 20 = .ok (.aload_n 0, 1) := by decide +kernel
theorem dX10_pathPart_21 : decode cX10_pathPart 21 = .ok (.getfield 45, 3) := by decide +kernel
theorem dX10_pathPart_24 : decode cX10_pathPart 24 = .ok (.iload_n 1, 1) := by decide +kernel
theorem dX10_pathPart_25 : decode cX10_pathPart 25 = .ok (.iaload, 1) := by decide +kernel
theorem dX10_pathPart_26 : decode cX10_pathPart 26 = .ok (.goto 4, 3) := by decide +kernel
theorem dX10_pathPart_29 : decode cX10_pathPart 29 = .ok (.iconst (-1), 1) := by decide +kernel
theorem dX10_pathPart_30 : decode cX10_pathPart 30 = .ok (.ireturn, 1) := by decide +kernel
set_option maxRecDepth 100000 in
theorem c_Mo_pathPart {l : Launch} {D : va_G} {cI cJ cZ cO : ClassId} {q_this q_m q_saved q_w q_savedWords q_isSaved q_text q_far q_queue q_parent q_by q_seen q_path q_row q_more q_stateOf : Nat} {x1 : Int32} {v_textLength : Int32} {v_steps : Int32} {v_missing : Int64} {v_mores : Int32} {v_hash : Int64} {v_path : (Nat → Int32)} {x : Int32} (h : f_Mo_pathPart x1 v_steps v_path = some x) : ctI l D cI cJ cZ cO yX10_pathPart cX10_pathPart 2 .int rm_Mo_pathPart [.ref q_this, .int x1] (ws_Mo_pathPart cI cJ cZ q_this q_m q_saved q_w q_savedWords q_isSaved q_text q_far q_queue q_parent q_by q_seen q_path q_row q_more q_stateOf v_textLength v_steps v_missing v_mores v_hash v_path) (ws_Mo_pathPart cI cJ cZ q_this q_m q_saved q_w q_savedWords q_isSaved q_text q_far q_queue q_parent q_by q_seen q_path q_row q_more q_stateOf v_textLength v_steps v_missing v_mores v_hash v_path) x := by
  refine ctI_of (by decide) (Nat.le_of_ble_eq_true rfl) ?_
  intro p e s m below meth c Q A ls C0 hQ w hl
  have hl : lv_has ls 2 [(0, .ref q_this), (1, .int x1)] := hl
  generalize List.toArray (α := Value) [.ref q_this, .int x1] = args at C0 hQ ⊢
  obtain ⟨hx, hb, hml, hown, hts, -, -⟩ := id C0
  unfold f_Mo_pathPart at h
  refine lv_iload_n hx hb dX10_pathPart_0 rfl (lv_at hl 1 rfl) ?_
  refine lv_iconst (v := (-1 : Int32)) hx hb dX10_pathPart_1 (by decide) ?_
  refine lv_icmp_ne (tgt := 12) hx hb dX10_pathPart_2 (by decide) (fun hc => ?_) (fun hc => ?_)
  · have h := nf_h hc h
    refine lv_iload_n hx hb dX10_pathPart_12 rfl (lv_at hl 1 rfl) ?_
    refine lv_aload_n hx hb dX10_pathPart_13 rfl (lv_at hl 0 rfl) ?_
    refine r_get C0 w 0 rfl kf_Mo 13 (by decide) lf_RX10_110 rfl dX10_pathPart_14 ?_
    refine lv_icmp_ge (tgt := 29) hx hb dX10_pathPart_17 (by decide) (fun hc => ?_) (fun hc => ?_)
    · have h := if_h hc h
      refine lv_iconst (v := (-1 : Int32)) hx hb dX10_pathPart_29 (by decide) ?_
      cases h
      exact hQ _ _ _ _ dX10_pathPart_30 rfl w
    · have h := nf_h hc h
      refine lv_aload_n hx hb dX10_pathPart_20 rfl (lv_at hl 0 rfl) ?_
      refine r_get C0 w 0 rfl kf_Mo 12 (by decide) lf_RX10_45 rfl dX10_pathPart_21 ?_
      refine lv_iload_n hx hb dX10_pathPart_24 rfl (lv_at hl 1 rfl) ?_
      obtain ⟨hi, h⟩ := gIn_h h
      refine r_iald C0 w 1 rfl rfl hi dX10_pathPart_25 ?_
      refine lv_goto (tgt := 30) hx hb dX10_pathPart_26 (by decide) ?_
      cases h
      exact hQ _ _ _ _ dX10_pathPart_30 rfl w
  · have h := if_h hc h
    refine lv_aload_n hx hb dX10_pathPart_5 rfl (lv_at hl 0 rfl) ?_
    refine r_get C0 w 0 rfl kf_Mo 13 (by decide) lf_RX10_110 rfl dX10_pathPart_6 ?_
    refine lv_goto (tgt := 30) hx hb dX10_pathPart_9 (by decide) ?_
    cases h
    exact hQ _ _ _ _ dX10_pathPart_30 rfl w
theorem dX10_distinguish_0 : decode cX10_distinguish 0 = .ok (.aload_n 0, 1) := by decide +kernel
theorem dX10_distinguish_1 : decode cX10_distinguish 1 = .ok (.iload_n 1, 1) := by decide +kernel
theorem dX10_distinguish_2 : decode cX10_distinguish 2 = .ok (.invokevirtual 86, 3) := by decide +kernel
theorem dX10_distinguish_5 : decode cX10_distinguish 5 = .ok (.ifCond .eq 16, 3) := by decide +kernel
theorem dX10_distinguish_8 : decode cX10_distinguish 8 = .ok (.aload_n 0, 1) := by decide +kernel
theorem dX10_distinguish_9 : decode cX10_distinguish 9 = .ok (.iload_n 2, 1) := by decide +kernel
theorem dX10_distinguish_10 : decode cX10_distinguish 10 = .ok (.invokevirtual 86, 3) := by decide +kernel
theorem dX10_distinguish_13 : decode cX10_distinguish 13 = .ok (.ifCond .eq 8, 3) := by decide +kernel
theorem dX10_distinguish_16 : decode cX10_distinguish 16 = .ok (.iload_n 3, 1) := by decide +kernel
theorem dX10_distinguish_17 : decode cX10_distinguish 17 = .ok (.iconst (-1), 1) := by decide +kernel
theorem dX10_distinguish_18 : decode cX10_distinguish 18 = .ok (.if_icmp .ge 6, 3) := by decide +kernel
theorem dX10_distinguish_21 : decode cX10_distinguish 21 = .ok (.bipush (-2), 2) := by decide +kernel
theorem dX10_distinguish_23 : decode cX10_distinguish 23 = .ok (.ireturn, 1) := by decide +kernel
theorem dX10_distinguish_24 : decode cX10_distinguish 24 = .ok (.aload_n 0, 1) := by decide +kernel
theorem dX10_distinguish_25 : decode cX10_distinguish 25 = .ok (.iload_n 1, 1) := by decide +kernel
theorem dX10_distinguish_26 : decode cX10_distinguish 26 = .ok (.iload_n 2, 1) := by decide +kernel
theorem dX10_distinguish_27 : decode cX10_distinguish 27 = .ok (.iconst 0, 1) := by decide +kernel
theorem dX10_distinguish_28 : decode cX10_distinguish 28 = .ok (.invokevirtual 113, 3) := by decide +kernel
theorem dX10_distinguish_31 : decode cX10_distinguish 31 = .ok (.ifCond .eq 11, 3) := by decide +kernel
theorem dX10_distinguish_34 : decode cX10_distinguish 34 = .ok (.aload_n 0, 1) := by decide +kernel
theorem dX10_distinguish_35 : decode cX10_distinguish 35 = .ok (.iload_n 3, 1) := by decide +kernel
theorem dX10_distinguish_36 : decode cX10_distinguish 36 = .ok (.invokevirtual 117, 3) := by decide +kernel
theorem dX10_distinguish_39 : decode cX10_distinguish 39 = .ok (.goto 4, 3) := by decide +kernel
theorem dX10_distinguish_42 : decode cX10_distinguish 42 = .ok (.iconst (-1), 1) := by decide +kernel
theorem dX10_distinguish_43 : decode cX10_distinguish 43 = .ok (.ireturn, 1) := by decide +kernel
set_option maxRecDepth 100000 in
theorem c_Mo_distinguish {l : Launch} {D : va_G} {cI cJ cZ cO : ClassId} {q_this q_m q_saved q_w q_savedWords q_isSaved q_text q_far q_queue q_parent q_by q_seen q_path q_row q_more q_stateOf : Nat} {x1 : Int32} {x2 : Int32} {x3 : Int32} {v_textLength : Int32} {v_steps : Int32} {v_missing : Int64} {v_mores : Int32} {v_hash : Int64} {v_m : (Nat → Int32)} {v_queue : (Nat → Int32)} {v_parent : (Nat → Int32)} {v_by : (Nat → Int32)} {v_seen : (Nat → Int32)} {v_path : (Nat → Int32)} {x : Int32 × (Nat → Int32) × (Nat → Int32) × (Nat → Int32) × (Nat → Int32) × (Nat → Int32) × Int32} (h : f_Mo_distinguish x1 x2 x3 v_steps v_m v_queue v_parent v_by v_seen v_path = some x) : ctI l D cI cJ cZ cO yX10_distinguish cX10_distinguish 4 .int rm_Mo_distinguish [.ref q_this, .int x1, .int x2, .int x3] (ws_Mo_distinguish cI cJ cZ q_this q_m q_saved q_w q_savedWords q_isSaved q_text q_far q_queue q_parent q_by q_seen q_path q_row q_more q_stateOf v_textLength v_steps v_missing v_mores v_hash v_m v_queue v_parent v_by v_seen v_path) (ws_Mo_distinguish cI cJ cZ q_this q_m q_saved q_w q_savedWords q_isSaved q_text q_far q_queue q_parent q_by q_seen q_path q_row q_more q_stateOf v_textLength x.2.2.2.2.2.2 v_missing v_mores v_hash v_m x.2.1 x.2.2.1 x.2.2.2.1 x.2.2.2.2.1 x.2.2.2.2.2.1) x.1 := by
  refine ctI_of (by decide) (Nat.le_of_ble_eq_true rfl) ?_
  intro p e s m below meth c Q A ls C0 hQ w hl
  have hl : lv_has ls 4 [(0, .ref q_this), (1, .int x1), (2, .int x2), (3, .int x3)] := hl
  generalize List.toArray (α := Value) [.ref q_this, .int x1, .int x2, .int x3] = args at C0 hQ ⊢
  obtain ⟨hx, hb, hml, hown, hts, -, -⟩ := id C0
  unfold f_Mo_distinguish at h
  refine lv_aload_n hx hb dX10_distinguish_0 rfl (lv_at hl 0 rfl) ?_
  refine lv_iload_n hx hb dX10_distinguish_1 rfl (lv_at hl 1 rfl) ?_
  obtain ⟨r, hcall, h⟩ := bd1_h h
  obtain ⟨wr, hp, hp'⟩ := rd_of (ws := (ws_Mo_distinguish cI cJ cZ q_this q_m q_saved q_w q_savedWords q_isSaved q_text q_far q_queue q_parent q_by q_seen q_path q_row q_more q_stateOf v_textLength v_steps v_missing v_mores v_hash v_m v_queue v_parent v_by v_seen v_path)) (wc := (ws_Mo_isState cI cJ cZ q_this q_m q_saved q_w q_savedWords q_isSaved q_text q_far q_queue q_parent q_by q_seen q_path q_row q_more q_stateOf v_textLength v_steps v_missing v_mores v_hash v_m)) [0, 1] rfl rfl
  refine r_VI (r := r) (As := [.int x1]) (rest := []) (wc' := (ws_Mo_isState cI cJ cZ q_this q_m q_saved q_w q_savedWords q_isSaved q_text q_far q_queue q_parent q_by q_seen q_path q_row q_more q_stateOf v_textLength v_steps v_missing v_mores v_hash v_m)) (ws' := (ws_Mo_distinguish cI cJ cZ q_this q_m q_saved q_w q_savedWords q_isSaved q_text q_far q_queue q_parent q_by q_seen q_path q_row q_more q_stateOf v_textLength v_steps v_missing v_mores v_hash v_m v_queue v_parent v_by v_seen v_path)) C0 w (c_Mo_isState hcall) hp hp' lm_RX10_86 mv_Mo_isState ⟨rfl, rfl⟩ ⟨by decide, by decide⟩ ⟨Nat.zero_le _, Nat.zero_le _⟩ (q0 := 0) rfl rfl rfl rfl hl rfl (Nat.le_of_ble_eq_true rfl) dX10_distinguish_2 (fun H locs w => ?_)
  refine lv_if_eq (tgt := 21) hx hb dX10_distinguish_5 (by decide) (fun hc => ?_) (fun hc => ?_)
  · have h := if_h hc h
    refine lv_bipush (v := (-2 : Int32)) hx hb dX10_distinguish_21 (by decide) ?_
    cases h
    exact hQ _ _ _ _ dX10_distinguish_23 rfl w
  · have h := nf_h hc h
    refine lv_aload_n hx hb dX10_distinguish_8 rfl (lv_at hl 0 rfl) ?_
    refine lv_iload_n hx hb dX10_distinguish_9 rfl (lv_at hl 2 rfl) ?_
    obtain ⟨r_1, hcall, h⟩ := bd1_h h
    obtain ⟨wr, hp, hp'⟩ := rd_of (ws := (ws_Mo_distinguish cI cJ cZ q_this q_m q_saved q_w q_savedWords q_isSaved q_text q_far q_queue q_parent q_by q_seen q_path q_row q_more q_stateOf v_textLength v_steps v_missing v_mores v_hash v_m v_queue v_parent v_by v_seen v_path)) (wc := (ws_Mo_isState cI cJ cZ q_this q_m q_saved q_w q_savedWords q_isSaved q_text q_far q_queue q_parent q_by q_seen q_path q_row q_more q_stateOf v_textLength v_steps v_missing v_mores v_hash v_m)) [0, 1] rfl rfl
    refine r_VI (r := r_1) (As := [.int x2]) (rest := []) (wc' := (ws_Mo_isState cI cJ cZ q_this q_m q_saved q_w q_savedWords q_isSaved q_text q_far q_queue q_parent q_by q_seen q_path q_row q_more q_stateOf v_textLength v_steps v_missing v_mores v_hash v_m)) (ws' := (ws_Mo_distinguish cI cJ cZ q_this q_m q_saved q_w q_savedWords q_isSaved q_text q_far q_queue q_parent q_by q_seen q_path q_row q_more q_stateOf v_textLength v_steps v_missing v_mores v_hash v_m v_queue v_parent v_by v_seen v_path)) C0 w (c_Mo_isState hcall) hp hp' lm_RX10_86 mv_Mo_isState ⟨rfl, rfl⟩ ⟨by decide, by decide⟩ ⟨Nat.zero_le _, Nat.zero_le _⟩ (q0 := 0) rfl rfl rfl rfl hl rfl (Nat.le_of_ble_eq_true rfl) dX10_distinguish_10 (fun H locs w => ?_)
    refine lv_if_eq (tgt := 21) hx hb dX10_distinguish_13 (by decide) (fun hc => ?_) (fun hc => ?_)
    · have h := if_h hc h
      refine lv_bipush (v := (-2 : Int32)) hx hb dX10_distinguish_21 (by decide) ?_
      cases h
      exact hQ _ _ _ _ dX10_distinguish_23 rfl w
    · have h := nf_h hc h
      refine lv_iload_n hx hb dX10_distinguish_16 rfl (lv_at hl 3 rfl) ?_
      refine lv_iconst (v := (-1 : Int32)) hx hb dX10_distinguish_17 (by decide) ?_
      refine lv_icmp_ge (tgt := 24) hx hb dX10_distinguish_18 (by decide) (fun hc => ?_) (fun hc => ?_)
      · have h := if_h hc h
        refine lv_aload_n hx hb dX10_distinguish_24 rfl (lv_at hl 0 rfl) ?_
        refine lv_iload_n hx hb dX10_distinguish_25 rfl (lv_at hl 1 rfl) ?_
        refine lv_iload_n hx hb dX10_distinguish_26 rfl (lv_at hl 2 rfl) ?_
        refine lv_iconst (v := (0 : Int32)) hx hb dX10_distinguish_27 (by decide) ?_
        obtain ⟨r_2, v_queue_1, v_parent_1, v_by_1, v_seen_1, v_path_1, v_steps_1, hcall, h⟩ := bd7_h h
        have hp := sp_of (ws := (ws_Mo_distinguish cI cJ cZ q_this q_m q_saved q_w q_savedWords q_isSaved q_text q_far q_queue q_parent q_by q_seen q_path q_row q_more q_stateOf v_textLength v_steps v_missing v_mores v_hash v_m v_queue v_parent v_by v_seen v_path)) (wc := (ws_Mo_parts cI cJ cZ q_this q_m q_saved q_w q_savedWords q_isSaved q_text q_far q_queue q_parent q_by q_seen q_path q_row q_more q_stateOf v_textLength v_steps v_missing v_mores v_hash v_m v_queue v_parent v_by v_seen v_path)) [0, 1, 2, 3, 4, 5, 6] [] rfl rfl
        have hp' : Rp (pk (ws_Mo_distinguish cI cJ cZ q_this q_m q_saved q_w q_savedWords q_isSaved q_text q_far q_queue q_parent q_by q_seen q_path q_row q_more q_stateOf v_textLength v_steps v_missing v_mores v_hash v_m v_queue v_parent v_by v_seen v_path) [] ++ (ws_Mo_parts cI cJ cZ q_this q_m q_saved q_w q_savedWords q_isSaved q_text q_far q_queue q_parent q_by q_seen q_path q_row q_more q_stateOf v_textLength v_steps_1 v_missing v_mores v_hash v_m v_queue_1 v_parent_1 v_by_1 v_seen_1 v_path_1)) (ws_Mo_distinguish cI cJ cZ q_this q_m q_saved q_w q_savedWords q_isSaved q_text q_far q_queue q_parent q_by q_seen q_path q_row q_more q_stateOf v_textLength v_steps_1 v_missing v_mores v_hash v_m v_queue_1 v_parent_1 v_by_1 v_seen_1 v_path_1) := ⟨[0, 1, 2, 3, 4, 5, 6], rfl, rfl⟩
        refine r_VI (r := r_2) (As := [.int x1, .int x2, .int (0 : Int32)]) (rest := []) (wc' := (ws_Mo_parts cI cJ cZ q_this q_m q_saved q_w q_savedWords q_isSaved q_text q_far q_queue q_parent q_by q_seen q_path q_row q_more q_stateOf v_textLength v_steps_1 v_missing v_mores v_hash v_m v_queue_1 v_parent_1 v_by_1 v_seen_1 v_path_1)) (ws' := (ws_Mo_distinguish cI cJ cZ q_this q_m q_saved q_w q_savedWords q_isSaved q_text q_far q_queue q_parent q_by q_seen q_path q_row q_more q_stateOf v_textLength v_steps_1 v_missing v_mores v_hash v_m v_queue_1 v_parent_1 v_by_1 v_seen_1 v_path_1)) C0 w (c_Mo_parts hcall) hp hp' lm_RX10_113 mv_Mo_parts ⟨rfl, rfl⟩ ⟨by decide, by decide⟩ ⟨Nat.zero_le _, Nat.zero_le _⟩ (q0 := 0) rfl rfl rfl rfl hl rfl (Nat.le_of_ble_eq_true rfl) dX10_distinguish_28 (fun H locs w => ?_)
        refine lv_if_eq (tgt := 42) hx hb dX10_distinguish_31 (by decide) (fun hc => ?_) (fun hc => ?_)
        · have h := if_h hc h
          refine lv_iconst (v := (-1 : Int32)) hx hb dX10_distinguish_42 (by decide) ?_
          cases h
          exact hQ _ _ _ _ dX10_distinguish_43 rfl w
        · have h := nf_h hc h
          refine lv_aload_n hx hb dX10_distinguish_34 rfl (lv_at hl 0 rfl) ?_
          refine lv_iload_n hx hb dX10_distinguish_35 rfl (lv_at hl 3 rfl) ?_
          obtain ⟨r_3, hcall, h⟩ := bd1_h h
          obtain ⟨wr, hp, hp'⟩ := rd_of (ws := (ws_Mo_distinguish cI cJ cZ q_this q_m q_saved q_w q_savedWords q_isSaved q_text q_far q_queue q_parent q_by q_seen q_path q_row q_more q_stateOf v_textLength v_steps_1 v_missing v_mores v_hash v_m v_queue_1 v_parent_1 v_by_1 v_seen_1 v_path_1)) (wc := (ws_Mo_pathPart cI cJ cZ q_this q_m q_saved q_w q_savedWords q_isSaved q_text q_far q_queue q_parent q_by q_seen q_path q_row q_more q_stateOf v_textLength v_steps_1 v_missing v_mores v_hash v_path_1)) [0, 6] rfl rfl
          refine r_VI (r := r_3) (As := [.int x3]) (rest := []) (wc' := (ws_Mo_pathPart cI cJ cZ q_this q_m q_saved q_w q_savedWords q_isSaved q_text q_far q_queue q_parent q_by q_seen q_path q_row q_more q_stateOf v_textLength v_steps_1 v_missing v_mores v_hash v_path_1)) (ws' := (ws_Mo_distinguish cI cJ cZ q_this q_m q_saved q_w q_savedWords q_isSaved q_text q_far q_queue q_parent q_by q_seen q_path q_row q_more q_stateOf v_textLength v_steps_1 v_missing v_mores v_hash v_m v_queue_1 v_parent_1 v_by_1 v_seen_1 v_path_1)) C0 w (c_Mo_pathPart hcall) hp hp' lm_RX10_117 mv_Mo_pathPart ⟨rfl, rfl⟩ ⟨by decide, by decide⟩ ⟨Nat.zero_le _, Nat.zero_le _⟩ (q0 := 0) rfl rfl rfl rfl hl rfl (Nat.le_of_ble_eq_true rfl) dX10_distinguish_36 (fun H locs w => ?_)
          refine lv_goto (tgt := 43) hx hb dX10_distinguish_39 (by decide) ?_
          cases h
          exact hQ _ _ _ _ dX10_distinguish_43 rfl w
      · have h := nf_h hc h
        refine lv_bipush (v := (-2 : Int32)) hx hb dX10_distinguish_21 (by decide) ?_
        cases h
        exact hQ _ _ _ _ dX10_distinguish_23 rfl w
theorem dX10_leastStates_0 : decode cX10_leastStates 0 = .ok (.aload_n 0, 1) := by decide +kernel
theorem dX10_leastStates_1 : decode cX10_leastStates 1 = .ok (.invokevirtual 104, 3) := by decide +kernel
theorem dX10_leastStates_4 : decode cX10_leastStates 4 = .ok (.iconst 0, 1) := by decide +kernel
theorem dX10_leastStates_5 : decode cX10_leastStates 5 = .ok (.istore_n 1, 1) := by decide +kernel
theorem dX10_leastStates_6 : decode cX10_leastStates 6 = .ok (.iconst 0, 1) := by decide +kernel
theorem dX10_leastStates_7 : decode cX10_leastStates 7 = .ok (.istore_n 2, 1) := by decide +kernel
theorem dX10_leastStates_8 : decode cX10_leastStates 8 = .ok (.iload_n 2, 1) := by decide +kernel
theorem dX10_leastStates_9 : decode cX10_leastStates 9 = .ok (.aload_n 0, 1) := by decide +kernel
theorem dX10_leastStates_10 : decode cX10_leastStates 10 = .ok (.getfield 7, 3) := by decide +kernel
theorem dX10_leastStates_13 : decode cX10_leastStates 13 = .ok (.iconst 0, 1) := by decide +kernel
theorem dX10_leastStates_14 : decode cX10_leastStates 14 = .ok (.iaload, 1) := by decide +kernel
theorem dX10_leastStates_15 : decode cX10_leastStates 15 = .ok (.if_icmp .ge 84, 3) := by decide +kernel
theorem dX10_leastStates_18 : decode cX10_leastStates 18 = .ok (.aload_n 0, 1) := by decide +kernel
theorem dX10_leastStates_19 : decode cX10_leastStates 19 = .ok (.getfield 30, 3) := by decide +kernel
theorem dX10_leastStates_22 : decode cX10_leastStates 22 = .ok (.iload_n 2, 1) := by decide +kernel
theorem dX10_leastStates_23 : decode cX10_leastStates 23 = .ok (.iaload, 1) := by decide +kernel
theorem dX10_leastStates_24 : decode cX10_leastStates 24 = .ok (.iconst (-1), 1) := by decide +kernel
theorem dX10_leastStates_25 : decode cX10_leastStates 25 = .ok (.if_icmp .eq 7, 3) := by decide +kernel
theorem dX10_leastStates_28 : decode cX10_leastStates 28 = .ok (.iconst 1, 1) := by decide +kernel
theorem dX10_leastStates_29 : decode cX10_leastStates 29 = .ok (.goto 4, 3) := by decide +kernel
theorem dX10_leastStates_32 : decode cX10_leastStates 32 = .ok (.iconst 0, 1) := by decide +kernel
theorem dX10_leastStates_33 : decode cX10_leastStates 33 = .ok (.istore_n 3, 1) := by decide +kernel
theorem dX10_leastStates_34 : decode cX10_leastStates 34 = .ok (.iconst 0, 1) := by decide +kernel
theorem dX10_leastStates_35 : decode cX10_leastStates 35 = .ok (.istore 4, 2) := by decide +kernel
theorem dX10_leastStates_37 : decode cX10_leastStates 37 = .ok (.iload 4, 2) := by decide +kernel
theorem dX10_leastStates_39 : decode cX10_leastStates 39 = .ok (.iload_n 2, 1) := by decide +kernel
theorem dX10_leastStates_40 : decode cX10_leastStates 40 = .ok (.if_icmp .ge 41, 3) := by decide +kernel
theorem dX10_leastStates_43 : decode cX10_leastStates 43 = .ok (.iload_n 3, 1) := by decide +kernel
theorem dX10_leastStates_44 : decode cX10_leastStates 44 = .ok (.ifCond .eq 37, 3) := by decide +kernel
theorem dX10_leastStates_47 : decode cX10_leastStates 47 = .ok (.aload_n 0, 1) := by decide +kernel
theorem dX10_leastStates_48 : decode cX10_leastStates 48 = .ok (.getfield 30, 3) := by decide +kernel
theorem dX10_leastStates_51 : decode cX10_leastStates 51 = .ok (.iload 4, 2) := by decide +kernel
theorem dX10_leastStates_53 : decode cX10_leastStates 53 = .ok (.iaload, 1) := by decide +kernel
theorem dX10_leastStates_54 : decode cX10_leastStates 54 = .ok (.iconst (-1), 1) := by decide +kernel
theorem dX10_leastStates_55 : decode cX10_leastStates 55 = .ok (.if_icmp .eq 14, 3) := by decide +kernel
theorem dX10_leastStates_58 : decode cX10_leastStates 58 = .ok (.aload_n 0, 1) := by decide +kernel
theorem dX10_leastStates_59 : decode cX10_leastStates 59 = .ok (.iload 4, 2) := by decide +kernel
theorem dX10_leastStates_61 : decode cX10_leastStates 61 = .ok (.iload_n 2, 1) := by decide +kernel
theorem dX10_leastStates_62 : decode cX10_leastStates 62 = .ok (.iconst 0, 1) := by decide +kernel
theorem dX10_leastStates_63 : decode cX10_leastStates 63 = .ok (.invokevirtual 113, 3) := by decide +kernel
theorem dX10_leastStates_66 : decode cX10_leastStates 66 = .ok (.ifCond .eq 7, 3) := by decide +kernel
theorem dX10_leastStates_69 : decode cX10_leastStates 69 = .ok (.iconst 1, 1) := by decide +kernel
theorem dX10_leastStates_70 : decode cX10_leastStates 70 = .ok (.goto 4, 3) := by decide +kernel
theorem dX10_leastStates_73 : decode cX10_leastStates 73 = .ok (.iconst 0, 1) := by decide +kernel
theorem dX10_leastStates_74 : decode cX10_leastStates 74 = .ok (.istore_n 3, 1) := by decide +kernel
theorem dX10_leastStates_75 : decode cX10_leastStates 75 = .ok (.iinc 4 1, 3) := by decide +kernel
theorem dX10_leastStates_78 : decode cX10_leastStates 78 = .ok (.goto (-41), 3) := by decide +kernel
theorem dX10_leastStates_81 : decode cX10_leastStates 81 = .ok (.iload_n 1, 1) := by decide +kernel
theorem dX10_leastStates_82 : decode cX10_leastStates 82 = .ok (.iload_n 3, 1) := by decide +kernel
theorem dX10_leastStates_83 : decode cX10_leastStates 83 = .ok (.ifCond .eq 7, 3) := by decide +kernel
theorem dX10_leastStates_86 : decode cX10_leastStates 86 = .ok (.iconst 1, 1) := by decide +kernel
theorem dX10_leastStates_87 : decode cX10_leastStates 87 = .ok (.goto 4, 3) := by decide +kernel
theorem dX10_leastStates_90 : decode cX10_leastStates 90 = .ok (.iconst 0, 1) := by decide +kernel
theorem dX10_leastStates_91 : decode cX10_leastStates 91 = .ok (.iadd, 1) := by decide +kernel
theorem dX10_leastStates_92 : decode cX10_leastStates 92 = .ok (.istore_n 1, 1) := by decide +kernel
theorem dX10_leastStates_93 : decode cX10_leastStates 93 = .ok (.iinc 2 1, 3) := by decide +kernel
theorem dX10_leastStates_96 : decode cX10_leastStates 96 = .ok (.goto (-88), 3) := by decide +kernel
theorem dX10_leastStates_99 : decode cX10_leastStates 99 = .ok (.iload_n 1, 1) := by decide +kernel
theorem dX10_leastStates_100 : decode cX10_leastStates 100 = .ok (.ireturn, 1) := by decide +kernel
set_option maxRecDepth 100000 in
theorem w_Mo_leastStates_J74 {p : Program} {l : Launch} {e : Env} {s : State} {m : MethodId} {args : Array Value} {below : List Frame} {meth : Method} {c : Code} {Q : State → Prop} {A : Nat → Prop} {D : va_G} {cI cJ cZ cO : ClassId} {q_this q_m q_saved q_w q_savedWords q_isSaved q_text q_far q_queue q_parent q_by q_seen q_path q_row q_more q_stateOf : Nat} {v_textLength : Int32} {v_steps : Int32} {v_missing : Int64} {v_mores : Int32} {v_hash : Int64} {v_m : (Nat → Int32)} {v_far : (Nat → Int32)} {v_queue : (Nat → Int32)} {v_parent : (Nat → Int32)} {v_by : (Nat → Int32)} {v_seen : (Nat → Int32)} {v_path : (Nat → Int32)} {x : Int32 × (Nat → Int32) × (Nat → Int32) × (Nat → Int32) × (Nat → Int32) × (Nat → Int32) × (Nat → Int32) × Int32} {x1 : Int32} {x2 : Int32} {x4 : Int32} {s0 : Int32} (C0 : Cx p s m args c A D cI cJ cZ cO cX10_leastStates 5 RX10) (hQ : RtI p l e rm_Mo_leastStates s m args below meth c Q A D cX10_leastStates .int (ws_Mo_leastStates cI cJ cZ q_this q_m q_saved q_w q_savedWords q_isSaved q_text q_far q_queue q_parent q_by q_seen q_path q_row q_more q_stateOf v_textLength x.2.2.2.2.2.2.2 v_missing v_mores v_hash v_m x.2.1 x.2.2.1 x.2.2.2.1 x.2.2.2.2.1 x.2.2.2.2.2.1 x.2.2.2.2.2.2.1) x.1) {K : Int32 → Int32 → (Nat → Int32) → (Nat → Int32) → (Nat → Int32) → (Nat → Int32) → (Nat → Int32) → Int32 → Option (Int32 × (Nat → Int32) × (Nat → Int32) × (Nat → Int32) × (Nat → Int32) × (Nat → Int32) × (Nat → Int32) × Int32)} (hK : ∀ (y3 : Int32) (y4 : Int32) (u_queue : (Nat → Int32)) (u_parent : (Nat → Int32)) (u_by : (Nat → Int32)) (u_seen : (Nat → Int32)) (u_path : (Nat → Int32)) (u_steps : Int32) (H : Heap) (locs : List Loc) (ls : Array Slot), K y3 y4 u_queue u_parent u_by u_seen u_path u_steps = some x → Wd s A D (ws_Mo_leastStates cI cJ cZ q_this q_m q_saved q_w q_savedWords q_isSaved q_text q_far q_queue q_parent q_by q_seen q_path q_row q_more q_stateOf v_textLength u_steps v_missing v_mores v_hash v_m v_far u_queue u_parent u_by u_seen u_path) H locs → lv_has ls 5 [(0, .ref q_this), (1, .int x1), (2, .int x2), (3, .int y3)] → W p l e rm_Mo_leastStates s m args below meth c H locs 0 0 Q (F0 m 81 ls [])) {rec : Int32 → Int32 → (Nat → Int32) → (Nat → Int32) → (Nat → Int32) → (Nat → Int32) → (Nat → Int32) → Int32 → Option (Int32 × (Nat → Int32) × (Nat → Int32) × (Nat → Int32) × (Nat → Int32) × (Nat → Int32) × (Nat → Int32) × Int32)} (hrec : ∀ (y3 : Int32) (y4 : Int32) (u_queue : (Nat → Int32)) (u_parent : (Nat → Int32)) (u_by : (Nat → Int32)) (u_seen : (Nat → Int32)) (u_path : (Nat → Int32)) (u_steps : Int32) (H : Heap) (locs : List Loc) (ls : Array Slot), rec y3 y4 u_queue u_parent u_by u_seen u_path u_steps = some x → Wd s A D (ws_Mo_leastStates cI cJ cZ q_this q_m q_saved q_w q_savedWords q_isSaved q_text q_far q_queue q_parent q_by q_seen q_path q_row q_more q_stateOf v_textLength u_steps v_missing v_mores v_hash v_m v_far u_queue u_parent u_by u_seen u_path) H locs → lv_has ls 5 [(0, .ref q_this), (1, .int x1), (2, .int x2), (3, .int y3), (4, .int y4)] → W p l e rm_Mo_leastStates s m args below meth c H locs 0 0 Q (F0 m 37 ls [])) {H : Heap} {locs : List Loc} {ls : Array Slot} (h : f_Mo_leastStates_J74 rec x4 s0 v_steps v_queue v_parent v_by v_seen v_path = some x) (w : Wd s A D (ws_Mo_leastStates cI cJ cZ q_this q_m q_saved q_w q_savedWords q_isSaved q_text q_far q_queue q_parent q_by q_seen q_path q_row q_more q_stateOf v_textLength v_steps v_missing v_mores v_hash v_m v_far v_queue v_parent v_by v_seen v_path) H locs) (hl : lv_has ls 5 [(0, .ref q_this), (1, .int x1), (2, .int x2), (4, .int x4)]) : W p l e rm_Mo_leastStates s m args below meth c H locs 0 0 Q (F0 m 74 ls [.int s0]) := by
  obtain ⟨hx, hb, hml, hown, hts, -, -⟩ := id C0
  unfold f_Mo_leastStates_J74 at h
  refine lv_istore_n (lv' := [(3, .int s0), (0, .ref q_this), (1, .int x1), (2, .int x2), (4, .int x4)]) hx hb dX10_leastStates_74 rfl hl (by decide) rfl (fun ls hl => ?_)
  obtain ⟨x4_1, ex4_1⟩ : ∃ y : Int32, y = (x4 + 1) := ⟨_, rfl⟩
  have h := bnd_at ex4_1 h
  refine lv_iinc (v := x4_1) (lv' := [(4, .int x4_1), (3, .int s0), (0, .ref q_this), (1, .int x1), (2, .int x2)]) hx hb dX10_leastStates_75 hl (k := 4) rfl (by rw [ex4_1]; rfl) (by decide) rfl (fun ls hl => ?_)
  refine lv_goto (tgt := 37) hx hb dX10_leastStates_78 (by decide) ?_
  exact hrec _ _ _ _ _ _ _ _ _ _ _ h w (lv_sub hl [2, 3, 4, 1, 0] rfl)
set_option maxRecDepth 100000 in
theorem w_Mo_leastStates_J69 {p : Program} {l : Launch} {e : Env} {s : State} {m : MethodId} {args : Array Value} {below : List Frame} {meth : Method} {c : Code} {Q : State → Prop} {A : Nat → Prop} {D : va_G} {cI cJ cZ cO : ClassId} {q_this q_m q_saved q_w q_savedWords q_isSaved q_text q_far q_queue q_parent q_by q_seen q_path q_row q_more q_stateOf : Nat} {v_textLength : Int32} {v_steps : Int32} {v_missing : Int64} {v_mores : Int32} {v_hash : Int64} {v_m : (Nat → Int32)} {v_far : (Nat → Int32)} {v_queue : (Nat → Int32)} {v_parent : (Nat → Int32)} {v_by : (Nat → Int32)} {v_seen : (Nat → Int32)} {v_path : (Nat → Int32)} {x : Int32 × (Nat → Int32) × (Nat → Int32) × (Nat → Int32) × (Nat → Int32) × (Nat → Int32) × (Nat → Int32) × Int32} {x1 : Int32} {x2 : Int32} {x4 : Int32} (C0 : Cx p s m args c A D cI cJ cZ cO cX10_leastStates 5 RX10) (hQ : RtI p l e rm_Mo_leastStates s m args below meth c Q A D cX10_leastStates .int (ws_Mo_leastStates cI cJ cZ q_this q_m q_saved q_w q_savedWords q_isSaved q_text q_far q_queue q_parent q_by q_seen q_path q_row q_more q_stateOf v_textLength x.2.2.2.2.2.2.2 v_missing v_mores v_hash v_m x.2.1 x.2.2.1 x.2.2.2.1 x.2.2.2.2.1 x.2.2.2.2.2.1 x.2.2.2.2.2.2.1) x.1) {K : Int32 → Int32 → (Nat → Int32) → (Nat → Int32) → (Nat → Int32) → (Nat → Int32) → (Nat → Int32) → Int32 → Option (Int32 × (Nat → Int32) × (Nat → Int32) × (Nat → Int32) × (Nat → Int32) × (Nat → Int32) × (Nat → Int32) × Int32)} (hK : ∀ (y3 : Int32) (y4 : Int32) (u_queue : (Nat → Int32)) (u_parent : (Nat → Int32)) (u_by : (Nat → Int32)) (u_seen : (Nat → Int32)) (u_path : (Nat → Int32)) (u_steps : Int32) (H : Heap) (locs : List Loc) (ls : Array Slot), K y3 y4 u_queue u_parent u_by u_seen u_path u_steps = some x → Wd s A D (ws_Mo_leastStates cI cJ cZ q_this q_m q_saved q_w q_savedWords q_isSaved q_text q_far q_queue q_parent q_by q_seen q_path q_row q_more q_stateOf v_textLength u_steps v_missing v_mores v_hash v_m v_far u_queue u_parent u_by u_seen u_path) H locs → lv_has ls 5 [(0, .ref q_this), (1, .int x1), (2, .int x2), (3, .int y3)] → W p l e rm_Mo_leastStates s m args below meth c H locs 0 0 Q (F0 m 81 ls [])) {rec : Int32 → Int32 → (Nat → Int32) → (Nat → Int32) → (Nat → Int32) → (Nat → Int32) → (Nat → Int32) → Int32 → Option (Int32 × (Nat → Int32) × (Nat → Int32) × (Nat → Int32) × (Nat → Int32) × (Nat → Int32) × (Nat → Int32) × Int32)} (hrec : ∀ (y3 : Int32) (y4 : Int32) (u_queue : (Nat → Int32)) (u_parent : (Nat → Int32)) (u_by : (Nat → Int32)) (u_seen : (Nat → Int32)) (u_path : (Nat → Int32)) (u_steps : Int32) (H : Heap) (locs : List Loc) (ls : Array Slot), rec y3 y4 u_queue u_parent u_by u_seen u_path u_steps = some x → Wd s A D (ws_Mo_leastStates cI cJ cZ q_this q_m q_saved q_w q_savedWords q_isSaved q_text q_far q_queue q_parent q_by q_seen q_path q_row q_more q_stateOf v_textLength u_steps v_missing v_mores v_hash v_m v_far u_queue u_parent u_by u_seen u_path) H locs → lv_has ls 5 [(0, .ref q_this), (1, .int x1), (2, .int x2), (3, .int y3), (4, .int y4)] → W p l e rm_Mo_leastStates s m args below meth c H locs 0 0 Q (F0 m 37 ls [])) {H : Heap} {locs : List Loc} {ls : Array Slot} (h : f_Mo_leastStates_J69 rec x4 v_steps v_queue v_parent v_by v_seen v_path = some x) (w : Wd s A D (ws_Mo_leastStates cI cJ cZ q_this q_m q_saved q_w q_savedWords q_isSaved q_text q_far q_queue q_parent q_by q_seen q_path q_row q_more q_stateOf v_textLength v_steps v_missing v_mores v_hash v_m v_far v_queue v_parent v_by v_seen v_path) H locs) (hl : lv_has ls 5 [(0, .ref q_this), (1, .int x1), (2, .int x2), (4, .int x4)]) : W p l e rm_Mo_leastStates s m args below meth c H locs 0 0 Q (F0 m 69 ls []) := by
  obtain ⟨hx, hb, hml, hown, hts, -, -⟩ := id C0
  unfold f_Mo_leastStates_J69 at h
  refine lv_iconst (v := (1 : Int32)) hx hb dX10_leastStates_69 (by decide) ?_
  refine lv_goto (tgt := 74) hx hb dX10_leastStates_70 (by decide) ?_
  exact w_Mo_leastStates_J74 C0 hQ hK hrec h w (lv_sub hl [0, 1, 2, 3] rfl)
set_option maxRecDepth 100000 in
theorem w_Mo_leastStates_L37 {p : Program} {l : Launch} {e : Env} {s : State} {m : MethodId} {args : Array Value} {below : List Frame} {meth : Method} {c : Code} {Q : State → Prop} {A : Nat → Prop} {D : va_G} {cI cJ cZ cO : ClassId} {q_this q_m q_saved q_w q_savedWords q_isSaved q_text q_far q_queue q_parent q_by q_seen q_path q_row q_more q_stateOf : Nat} {v_textLength : Int32} {v_missing : Int64} {v_mores : Int32} {v_hash : Int64} {v_m : (Nat → Int32)} {v_far : (Nat → Int32)} {x1 : Int32} {x2 : Int32} {x : Int32 × (Nat → Int32) × (Nat → Int32) × (Nat → Int32) × (Nat → Int32) × (Nat → Int32) × (Nat → Int32) × Int32} (C0 : Cx p s m args c A D cI cJ cZ cO cX10_leastStates 5 RX10) (hQ : RtI p l e rm_Mo_leastStates s m args below meth c Q A D cX10_leastStates .int (ws_Mo_leastStates cI cJ cZ q_this q_m q_saved q_w q_savedWords q_isSaved q_text q_far q_queue q_parent q_by q_seen q_path q_row q_more q_stateOf v_textLength x.2.2.2.2.2.2.2 v_missing v_mores v_hash v_m x.2.1 x.2.2.1 x.2.2.2.1 x.2.2.2.2.1 x.2.2.2.2.2.1 x.2.2.2.2.2.2.1) x.1) {K : Int32 → Int32 → (Nat → Int32) → (Nat → Int32) → (Nat → Int32) → (Nat → Int32) → (Nat → Int32) → Int32 → Option (Int32 × (Nat → Int32) × (Nat → Int32) × (Nat → Int32) × (Nat → Int32) × (Nat → Int32) × (Nat → Int32) × Int32)} (hK : ∀ (x3 : Int32) (x4 : Int32) (v_queue : (Nat → Int32)) (v_parent : (Nat → Int32)) (v_by : (Nat → Int32)) (v_seen : (Nat → Int32)) (v_path : (Nat → Int32)) (v_steps : Int32) (H : Heap) (locs : List Loc) (ls : Array Slot), K x3 x4 v_queue v_parent v_by v_seen v_path v_steps = some x → Wd s A D (ws_Mo_leastStates cI cJ cZ q_this q_m q_saved q_w q_savedWords q_isSaved q_text q_far q_queue q_parent q_by q_seen q_path q_row q_more q_stateOf v_textLength v_steps v_missing v_mores v_hash v_m v_far v_queue v_parent v_by v_seen v_path) H locs → lv_has ls 5 [(0, .ref q_this), (1, .int x1), (2, .int x2), (3, .int x3)] → W p l e rm_Mo_leastStates s m args below meth c H locs 0 0 Q (F0 m 81 ls [])) {rec : Int32 → Int32 → (Nat → Int32) → (Nat → Int32) → (Nat → Int32) → (Nat → Int32) → (Nat → Int32) → Int32 → Option (Int32 × (Nat → Int32) × (Nat → Int32) × (Nat → Int32) × (Nat → Int32) × (Nat → Int32) × (Nat → Int32) × Int32)} (hrec : ∀ (x3 : Int32) (x4 : Int32) (v_queue : (Nat → Int32)) (v_parent : (Nat → Int32)) (v_by : (Nat → Int32)) (v_seen : (Nat → Int32)) (v_path : (Nat → Int32)) (v_steps : Int32) (H : Heap) (locs : List Loc) (ls : Array Slot), rec x3 x4 v_queue v_parent v_by v_seen v_path v_steps = some x → Wd s A D (ws_Mo_leastStates cI cJ cZ q_this q_m q_saved q_w q_savedWords q_isSaved q_text q_far q_queue q_parent q_by q_seen q_path q_row q_more q_stateOf v_textLength v_steps v_missing v_mores v_hash v_m v_far v_queue v_parent v_by v_seen v_path) H locs → lv_has ls 5 [(0, .ref q_this), (1, .int x1), (2, .int x2), (3, .int x3), (4, .int x4)] → W p l e rm_Mo_leastStates s m args below meth c H locs 0 0 Q (F0 m 37 ls [])) (x3 : Int32) (x4 : Int32) (v_queue : (Nat → Int32)) (v_parent : (Nat → Int32)) (v_by : (Nat → Int32)) (v_seen : (Nat → Int32)) (v_path : (Nat → Int32)) (v_steps : Int32) {H : Heap} {locs : List Loc} {ls : Array Slot} (h : f_Mo_leastStates_L37 v_m v_far x2 K rec x3 x4 v_queue v_parent v_by v_seen v_path v_steps = some x) (w : Wd s A D (ws_Mo_leastStates cI cJ cZ q_this q_m q_saved q_w q_savedWords q_isSaved q_text q_far q_queue q_parent q_by q_seen q_path q_row q_more q_stateOf v_textLength v_steps v_missing v_mores v_hash v_m v_far v_queue v_parent v_by v_seen v_path) H locs) (hl : lv_has ls 5 [(0, .ref q_this), (1, .int x1), (2, .int x2), (3, .int x3), (4, .int x4)]) : W p l e rm_Mo_leastStates s m args below meth c H locs 0 0 Q (F0 m 37 ls []) := by
  obtain ⟨hx, hb, hml, hown, hts, -, -⟩ := id C0
  unfold f_Mo_leastStates_L37 at h
  refine lv_iload hx hb dX10_leastStates_37 (lv_at hl 4 rfl) ?_
  refine lv_iload_n hx hb dX10_leastStates_39 rfl (lv_at hl 2 rfl) ?_
  refine lv_icmp_ge (tgt := 81) hx hb dX10_leastStates_40 (by decide) (fun hc => ?_) (fun hc => ?_)
  · have h := if_h hc h
    exact hK _ _ _ _ _ _ _ _ _ _ _ h w (lv_sub hl [0, 1, 2, 3] rfl)
  · have h := nf_h hc h
    refine lv_iload_n hx hb dX10_leastStates_43 rfl (lv_at hl 3 rfl) ?_
    refine lv_if_eq (tgt := 81) hx hb dX10_leastStates_44 (by decide) (fun hc => ?_) (fun hc => ?_)
    · have h := if_h hc h
      exact hK _ _ _ _ _ _ _ _ _ _ _ h w (lv_sub hl [0, 1, 2, 3] rfl)
    · have h := nf_h hc h
      refine lv_aload_n hx hb dX10_leastStates_47 rfl (lv_at hl 0 rfl) ?_
      refine r_get C0 w 0 rfl kf_Mo 7 (by decide) lf_RX10_30 rfl dX10_leastStates_48 ?_
      refine lv_iload hx hb dX10_leastStates_51 (lv_at hl 4 rfl) ?_
      obtain ⟨hi, h⟩ := gIn_h h
      refine r_iald C0 w 2 rfl rfl hi dX10_leastStates_53 ?_
      refine lv_iconst (v := (-1 : Int32)) hx hb dX10_leastStates_54 (by decide) ?_
      refine lv_icmp_eq (tgt := 69) hx hb dX10_leastStates_55 (by decide) (fun hc => ?_) (fun hc => ?_)
      · have h := if_h hc h
        exact w_Mo_leastStates_J69 C0 hQ hK hrec h w (lv_sub hl [0, 1, 2, 4] rfl)
      · have h := nf_h hc h
        refine lv_aload_n hx hb dX10_leastStates_58 rfl (lv_at hl 0 rfl) ?_
        refine lv_iload hx hb dX10_leastStates_59 (lv_at hl 4 rfl) ?_
        refine lv_iload_n hx hb dX10_leastStates_61 rfl (lv_at hl 2 rfl) ?_
        refine lv_iconst (v := (0 : Int32)) hx hb dX10_leastStates_62 (by decide) ?_
        obtain ⟨r, v_queue_1, v_parent_1, v_by_1, v_seen_1, v_path_1, v_steps_1, hcall, h⟩ := bd7_h h
        have hp := sp_of (ws := (ws_Mo_leastStates cI cJ cZ q_this q_m q_saved q_w q_savedWords q_isSaved q_text q_far q_queue q_parent q_by q_seen q_path q_row q_more q_stateOf v_textLength v_steps v_missing v_mores v_hash v_m v_far v_queue v_parent v_by v_seen v_path)) (wc := (ws_Mo_parts cI cJ cZ q_this q_m q_saved q_w q_savedWords q_isSaved q_text q_far q_queue q_parent q_by q_seen q_path q_row q_more q_stateOf v_textLength v_steps v_missing v_mores v_hash v_m v_queue v_parent v_by v_seen v_path)) [0, 1, 3, 4, 5, 6, 7] [2] rfl rfl
        have hp' : Rp (pk (ws_Mo_leastStates cI cJ cZ q_this q_m q_saved q_w q_savedWords q_isSaved q_text q_far q_queue q_parent q_by q_seen q_path q_row q_more q_stateOf v_textLength v_steps v_missing v_mores v_hash v_m v_far v_queue v_parent v_by v_seen v_path) [2] ++ (ws_Mo_parts cI cJ cZ q_this q_m q_saved q_w q_savedWords q_isSaved q_text q_far q_queue q_parent q_by q_seen q_path q_row q_more q_stateOf v_textLength v_steps_1 v_missing v_mores v_hash v_m v_queue_1 v_parent_1 v_by_1 v_seen_1 v_path_1)) (ws_Mo_leastStates cI cJ cZ q_this q_m q_saved q_w q_savedWords q_isSaved q_text q_far q_queue q_parent q_by q_seen q_path q_row q_more q_stateOf v_textLength v_steps_1 v_missing v_mores v_hash v_m v_far v_queue_1 v_parent_1 v_by_1 v_seen_1 v_path_1) := ⟨[1, 2, 0, 3, 4, 5, 6, 7], rfl, rfl⟩
        refine r_VI (r := r) (As := [.int x4, .int x2, .int (0 : Int32)]) (rest := []) (wc' := (ws_Mo_parts cI cJ cZ q_this q_m q_saved q_w q_savedWords q_isSaved q_text q_far q_queue q_parent q_by q_seen q_path q_row q_more q_stateOf v_textLength v_steps_1 v_missing v_mores v_hash v_m v_queue_1 v_parent_1 v_by_1 v_seen_1 v_path_1)) (ws' := (ws_Mo_leastStates cI cJ cZ q_this q_m q_saved q_w q_savedWords q_isSaved q_text q_far q_queue q_parent q_by q_seen q_path q_row q_more q_stateOf v_textLength v_steps_1 v_missing v_mores v_hash v_m v_far v_queue_1 v_parent_1 v_by_1 v_seen_1 v_path_1)) C0 w (c_Mo_parts hcall) hp hp' lm_RX10_113 mv_Mo_parts ⟨rfl, rfl⟩ ⟨by decide, by decide⟩ ⟨Nat.zero_le _, Nat.zero_le _⟩ (q0 := 0) rfl rfl rfl rfl hl rfl (Nat.le_of_ble_eq_true rfl) dX10_leastStates_63 (fun H locs w => ?_)
        obtain ⟨t, et⟩ : ∃ y : Int32, y = (if r = 0 then (0 : Int32) else (1 : Int32)) := ⟨_, rfl⟩
        have h := bnd_at et h
        have J : W p l e rm_Mo_leastStates s m args below meth c H locs 0 0 Q (F0 m 74 ls [.int t]) := by
          refine lv_istore_n (lv' := [(3, .int t), (0, .ref q_this), (1, .int x1), (2, .int x2), (4, .int x4)]) hx hb dX10_leastStates_74 rfl hl (by decide) rfl (fun ls hl => ?_)
          obtain ⟨x4_1, ex4_1⟩ : ∃ y : Int32, y = (x4 + 1) := ⟨_, rfl⟩
          have h := bnd_at ex4_1 h
          refine lv_iinc (v := x4_1) (lv' := [(4, .int x4_1), (3, .int t), (0, .ref q_this), (1, .int x1), (2, .int x2)]) hx hb dX10_leastStates_75 hl (k := 4) rfl (by rw [ex4_1]; rfl) (by decide) rfl (fun ls hl => ?_)
          refine lv_goto (tgt := 37) hx hb dX10_leastStates_78 (by decide) ?_
          exact hrec _ _ _ _ _ _ _ _ _ _ _ h w (lv_sub hl [2, 3, 4, 1, 0] rfl)
        refine lv_if_eq (tgt := 73) hx hb dX10_leastStates_66 (by decide) (fun hc => ?_) (fun hc => ?_)
        · refine lv_iconst (v := (0 : Int32)) hx hb dX10_leastStates_73 (by decide) ?_
          exact r_eqi (et.trans (if_pos hc)) J
        · refine lv_iconst (v := (1 : Int32)) hx hb dX10_leastStates_69 (by decide) ?_
          refine lv_goto (tgt := 74) hx hb dX10_leastStates_70 (by decide) ?_
          exact r_eqi (et.trans (if_neg hc)) J
set_option maxRecDepth 100000 in
theorem wl_Mo_leastStates_L37 {p : Program} {l : Launch} {e : Env} {s : State} {m : MethodId} {args : Array Value} {below : List Frame} {meth : Method} {c : Code} {Q : State → Prop} {A : Nat → Prop} {D : va_G} {cI cJ cZ cO : ClassId} {q_this q_m q_saved q_w q_savedWords q_isSaved q_text q_far q_queue q_parent q_by q_seen q_path q_row q_more q_stateOf : Nat} {v_textLength : Int32} {v_missing : Int64} {v_mores : Int32} {v_hash : Int64} {v_m : (Nat → Int32)} {v_far : (Nat → Int32)} {x1 : Int32} {x2 : Int32} {x : Int32 × (Nat → Int32) × (Nat → Int32) × (Nat → Int32) × (Nat → Int32) × (Nat → Int32) × (Nat → Int32) × Int32} (C0 : Cx p s m args c A D cI cJ cZ cO cX10_leastStates 5 RX10) (hQ : RtI p l e rm_Mo_leastStates s m args below meth c Q A D cX10_leastStates .int (ws_Mo_leastStates cI cJ cZ q_this q_m q_saved q_w q_savedWords q_isSaved q_text q_far q_queue q_parent q_by q_seen q_path q_row q_more q_stateOf v_textLength x.2.2.2.2.2.2.2 v_missing v_mores v_hash v_m x.2.1 x.2.2.1 x.2.2.2.1 x.2.2.2.2.1 x.2.2.2.2.2.1 x.2.2.2.2.2.2.1) x.1) {K : Int32 → Int32 → (Nat → Int32) → (Nat → Int32) → (Nat → Int32) → (Nat → Int32) → (Nat → Int32) → Int32 → Option (Int32 × (Nat → Int32) × (Nat → Int32) × (Nat → Int32) × (Nat → Int32) × (Nat → Int32) × (Nat → Int32) × Int32)} (hK : ∀ (x3 : Int32) (x4 : Int32) (v_queue : (Nat → Int32)) (v_parent : (Nat → Int32)) (v_by : (Nat → Int32)) (v_seen : (Nat → Int32)) (v_path : (Nat → Int32)) (v_steps : Int32) (H : Heap) (locs : List Loc) (ls : Array Slot), K x3 x4 v_queue v_parent v_by v_seen v_path v_steps = some x → Wd s A D (ws_Mo_leastStates cI cJ cZ q_this q_m q_saved q_w q_savedWords q_isSaved q_text q_far q_queue q_parent q_by q_seen q_path q_row q_more q_stateOf v_textLength v_steps v_missing v_mores v_hash v_m v_far v_queue v_parent v_by v_seen v_path) H locs → lv_has ls 5 [(0, .ref q_this), (1, .int x1), (2, .int x2), (3, .int x3)] → W p l e rm_Mo_leastStates s m args below meth c H locs 0 0 Q (F0 m 81 ls [])) : ∀ (n : Nat) (x3 : Int32) (x4 : Int32) (v_queue : (Nat → Int32)) (v_parent : (Nat → Int32)) (v_by : (Nat → Int32)) (v_seen : (Nat → Int32)) (v_path : (Nat → Int32)) (v_steps : Int32) (H : Heap) (locs : List Loc) (ls : Array Slot), itr (fun _ _ _ _ _ _ _ _ => none) (f_Mo_leastStates_L37 v_m v_far x2 K) n x3 x4 v_queue v_parent v_by v_seen v_path v_steps = some x → Wd s A D (ws_Mo_leastStates cI cJ cZ q_this q_m q_saved q_w q_savedWords q_isSaved q_text q_far q_queue q_parent q_by q_seen q_path q_row q_more q_stateOf v_textLength v_steps v_missing v_mores v_hash v_m v_far v_queue v_parent v_by v_seen v_path) H locs → lv_has ls 5 [(0, .ref q_this), (1, .int x1), (2, .int x2), (3, .int x3), (4, .int x4)] → W p l e rm_Mo_leastStates s m args below meth c H locs 0 0 Q (F0 m 37 ls []) := by
  intro n
  induction n with
  | zero => intro _ _ _ _ _ _ _ _ _ _ _ h; cases (show none = some _ from h)
  | succ n ih => intro _ _ _ _ _ _ _ _ _ _ _ h w hl; exact w_Mo_leastStates_L37 C0 hQ hK ih _ _ _ _ _ _ _ _ h w hl
set_option maxRecDepth 100000 in
theorem w_Mo_leastStates_L8 {p : Program} {l : Launch} {e : Env} {s : State} {m : MethodId} {args : Array Value} {below : List Frame} {meth : Method} {c : Code} {Q : State → Prop} {A : Nat → Prop} {D : va_G} {cI cJ cZ cO : ClassId} {q_this q_m q_saved q_w q_savedWords q_isSaved q_text q_far q_queue q_parent q_by q_seen q_path q_row q_more q_stateOf : Nat} {v_textLength : Int32} {v_missing : Int64} {v_mores : Int32} {v_hash : Int64} {v_m : (Nat → Int32)} {v_far : (Nat → Int32)} {x : Int32 × (Nat → Int32) × (Nat → Int32) × (Nat → Int32) × (Nat → Int32) × (Nat → Int32) × (Nat → Int32) × Int32} (C0 : Cx p s m args c A D cI cJ cZ cO cX10_leastStates 5 RX10) (hQ : RtI p l e rm_Mo_leastStates s m args below meth c Q A D cX10_leastStates .int (ws_Mo_leastStates cI cJ cZ q_this q_m q_saved q_w q_savedWords q_isSaved q_text q_far q_queue q_parent q_by q_seen q_path q_row q_more q_stateOf v_textLength x.2.2.2.2.2.2.2 v_missing v_mores v_hash v_m x.2.1 x.2.2.1 x.2.2.2.1 x.2.2.2.2.1 x.2.2.2.2.2.1 x.2.2.2.2.2.2.1) x.1) {K : Int32 → Int32 → (Nat → Int32) → (Nat → Int32) → (Nat → Int32) → (Nat → Int32) → (Nat → Int32) → Int32 → Option (Int32 × (Nat → Int32) × (Nat → Int32) × (Nat → Int32) × (Nat → Int32) × (Nat → Int32) × (Nat → Int32) × Int32)} (hK : ∀ (x1 : Int32) (x2 : Int32) (v_queue : (Nat → Int32)) (v_parent : (Nat → Int32)) (v_by : (Nat → Int32)) (v_seen : (Nat → Int32)) (v_path : (Nat → Int32)) (v_steps : Int32) (H : Heap) (locs : List Loc) (ls : Array Slot), K x1 x2 v_queue v_parent v_by v_seen v_path v_steps = some x → Wd s A D (ws_Mo_leastStates cI cJ cZ q_this q_m q_saved q_w q_savedWords q_isSaved q_text q_far q_queue q_parent q_by q_seen q_path q_row q_more q_stateOf v_textLength v_steps v_missing v_mores v_hash v_m v_far v_queue v_parent v_by v_seen v_path) H locs → lv_has ls 5 [(1, .int x1)] → W p l e rm_Mo_leastStates s m args below meth c H locs 0 0 Q (F0 m 99 ls [])) {rec : Int32 → Int32 → (Nat → Int32) → (Nat → Int32) → (Nat → Int32) → (Nat → Int32) → (Nat → Int32) → Int32 → Option (Int32 × (Nat → Int32) × (Nat → Int32) × (Nat → Int32) × (Nat → Int32) × (Nat → Int32) × (Nat → Int32) × Int32)} (hrec : ∀ (x1 : Int32) (x2 : Int32) (v_queue : (Nat → Int32)) (v_parent : (Nat → Int32)) (v_by : (Nat → Int32)) (v_seen : (Nat → Int32)) (v_path : (Nat → Int32)) (v_steps : Int32) (H : Heap) (locs : List Loc) (ls : Array Slot), rec x1 x2 v_queue v_parent v_by v_seen v_path v_steps = some x → Wd s A D (ws_Mo_leastStates cI cJ cZ q_this q_m q_saved q_w q_savedWords q_isSaved q_text q_far q_queue q_parent q_by q_seen q_path q_row q_more q_stateOf v_textLength v_steps v_missing v_mores v_hash v_m v_far v_queue v_parent v_by v_seen v_path) H locs → lv_has ls 5 [(0, .ref q_this), (1, .int x1), (2, .int x2)] → W p l e rm_Mo_leastStates s m args below meth c H locs 0 0 Q (F0 m 8 ls [])) (x1 : Int32) (x2 : Int32) (v_queue : (Nat → Int32)) (v_parent : (Nat → Int32)) (v_by : (Nat → Int32)) (v_seen : (Nat → Int32)) (v_path : (Nat → Int32)) (v_steps : Int32) {H : Heap} {locs : List Loc} {ls : Array Slot} (h : f_Mo_leastStates_L8 v_m v_far K rec x1 x2 v_queue v_parent v_by v_seen v_path v_steps = some x) (w : Wd s A D (ws_Mo_leastStates cI cJ cZ q_this q_m q_saved q_w q_savedWords q_isSaved q_text q_far q_queue q_parent q_by q_seen q_path q_row q_more q_stateOf v_textLength v_steps v_missing v_mores v_hash v_m v_far v_queue v_parent v_by v_seen v_path) H locs) (hl : lv_has ls 5 [(0, .ref q_this), (1, .int x1), (2, .int x2)]) : W p l e rm_Mo_leastStates s m args below meth c H locs 0 0 Q (F0 m 8 ls []) := by
  obtain ⟨hx, hb, hml, hown, hts, -, -⟩ := id C0
  unfold f_Mo_leastStates_L8 at h
  refine lv_iload_n hx hb dX10_leastStates_8 rfl (lv_at hl 2 rfl) ?_
  refine lv_aload_n hx hb dX10_leastStates_9 rfl (lv_at hl 0 rfl) ?_
  refine r_get C0 w 0 rfl kf_Mo 0 (by decide) lf_RX10_7 rfl dX10_leastStates_10 ?_
  refine lv_iconst (v := (0 : Int32)) hx hb dX10_leastStates_13 (by decide) ?_
  refine r_iald C0 w 1 rfl (k := 0) (by decide) (inl (by decide)) dX10_leastStates_14 ?_
  refine lv_icmp_ge (tgt := 99) hx hb dX10_leastStates_15 (by decide) (fun hc => ?_) (fun hc => ?_)
  · have h := if_h hc h
    exact hK _ _ _ _ _ _ _ _ _ _ _ h w (lv_sub hl [1] rfl)
  · have h := nf_h hc h
    refine lv_aload_n hx hb dX10_leastStates_18 rfl (lv_at hl 0 rfl) ?_
    refine r_get C0 w 0 rfl kf_Mo 7 (by decide) lf_RX10_30 rfl dX10_leastStates_19 ?_
    refine lv_iload_n hx hb dX10_leastStates_22 rfl (lv_at hl 2 rfl) ?_
    obtain ⟨hi, h⟩ := gIn_h h
    refine r_iald C0 w 2 rfl rfl hi dX10_leastStates_23 ?_
    refine lv_iconst (v := (-1 : Int32)) hx hb dX10_leastStates_24 (by decide) ?_
    obtain ⟨t, et⟩ : ∃ y : Int32, y = (if (v_far x2.toNatClampNeg) = (-1 : Int32) then (0 : Int32) else (1 : Int32)) := ⟨_, rfl⟩
    have h := bnd_at et h
    have J : W p l e rm_Mo_leastStates s m args below meth c H locs 0 0 Q (F0 m 33 ls [.int t]) := by
      refine lv_istore_n (lv' := [(3, .int t), (0, .ref q_this), (1, .int x1), (2, .int x2)]) hx hb dX10_leastStates_33 rfl hl (by decide) rfl (fun ls hl => ?_)
      refine lv_iconst (v := (0 : Int32)) hx hb dX10_leastStates_34 (by decide) ?_
      refine lv_istore (lv' := [(4, .int (0 : Int32)), (3, .int t), (0, .ref q_this), (1, .int x1), (2, .int x2)]) hx hb dX10_leastStates_35 hl (by decide) rfl (fun ls hl => ?_)
      refine wl_Mo_leastStates_L37 C0 hQ (fun x3 x4 v_queue_1 v_parent_1 v_by_1 v_seen_1 v_path_1 v_steps_1 H locs ls h w hl => ?_) _ _ _ _ _ _ _ _ _ _ _ _ h w (lv_sub hl [2, 3, 4, 1, 0] rfl)
      refine lv_iload_n hx hb dX10_leastStates_81 rfl (lv_at hl 1 rfl) ?_
      refine lv_iload_n hx hb dX10_leastStates_82 rfl (lv_at hl 3 rfl) ?_
      obtain ⟨t_1, et_1⟩ : ∃ y : Int32, y = (if x3 = 0 then (0 : Int32) else (1 : Int32)) := ⟨_, rfl⟩
      have h := bnd_at et_1 h
      have J : W p l e rm_Mo_leastStates s m args below meth c H locs 0 0 Q (F0 m 91 ls [.int t_1, .int x1]) := by
        refine lv_iadd hx hb dX10_leastStates_91 ?_
        refine lv_topi (fun x1_1 ex1_1 => ?_)
        have h := bnd_at ex1_1 h
        refine lv_istore_n (lv' := [(1, .int x1_1), (0, .ref q_this), (2, .int x2), (3, .int x3)]) hx hb dX10_leastStates_92 rfl hl (by decide) rfl (fun ls hl => ?_)
        obtain ⟨x2_1, ex2_1⟩ : ∃ y : Int32, y = (x2 + 1) := ⟨_, rfl⟩
        have h := bnd_at ex2_1 h
        refine lv_iinc (v := x2_1) (lv' := [(2, .int x2_1), (1, .int x1_1), (0, .ref q_this), (3, .int x3)]) hx hb dX10_leastStates_93 hl (k := 2) rfl (by rw [ex2_1]; rfl) (by decide) rfl (fun ls hl => ?_)
        refine lv_goto (tgt := 8) hx hb dX10_leastStates_96 (by decide) ?_
        exact hrec _ _ _ _ _ _ _ _ _ _ _ h w (lv_sub hl [2, 1, 0] rfl)
      refine lv_if_eq (tgt := 90) hx hb dX10_leastStates_83 (by decide) (fun hc => ?_) (fun hc => ?_)
      · refine lv_iconst (v := (0 : Int32)) hx hb dX10_leastStates_90 (by decide) ?_
        exact r_eqi (et_1.trans (if_pos hc)) J
      · refine lv_iconst (v := (1 : Int32)) hx hb dX10_leastStates_86 (by decide) ?_
        refine lv_goto (tgt := 91) hx hb dX10_leastStates_87 (by decide) ?_
        exact r_eqi (et_1.trans (if_neg hc)) J
    refine lv_icmp_eq (tgt := 32) hx hb dX10_leastStates_25 (by decide) (fun hc => ?_) (fun hc => ?_)
    · refine lv_iconst (v := (0 : Int32)) hx hb dX10_leastStates_32 (by decide) ?_
      exact r_eqi (et.trans (if_pos hc)) J
    · refine lv_iconst (v := (1 : Int32)) hx hb dX10_leastStates_28 (by decide) ?_
      refine lv_goto (tgt := 33) hx hb dX10_leastStates_29 (by decide) ?_
      exact r_eqi (et.trans (if_neg hc)) J
set_option maxRecDepth 100000 in
theorem wl_Mo_leastStates_L8 {p : Program} {l : Launch} {e : Env} {s : State} {m : MethodId} {args : Array Value} {below : List Frame} {meth : Method} {c : Code} {Q : State → Prop} {A : Nat → Prop} {D : va_G} {cI cJ cZ cO : ClassId} {q_this q_m q_saved q_w q_savedWords q_isSaved q_text q_far q_queue q_parent q_by q_seen q_path q_row q_more q_stateOf : Nat} {v_textLength : Int32} {v_missing : Int64} {v_mores : Int32} {v_hash : Int64} {v_m : (Nat → Int32)} {v_far : (Nat → Int32)} {x : Int32 × (Nat → Int32) × (Nat → Int32) × (Nat → Int32) × (Nat → Int32) × (Nat → Int32) × (Nat → Int32) × Int32} (C0 : Cx p s m args c A D cI cJ cZ cO cX10_leastStates 5 RX10) (hQ : RtI p l e rm_Mo_leastStates s m args below meth c Q A D cX10_leastStates .int (ws_Mo_leastStates cI cJ cZ q_this q_m q_saved q_w q_savedWords q_isSaved q_text q_far q_queue q_parent q_by q_seen q_path q_row q_more q_stateOf v_textLength x.2.2.2.2.2.2.2 v_missing v_mores v_hash v_m x.2.1 x.2.2.1 x.2.2.2.1 x.2.2.2.2.1 x.2.2.2.2.2.1 x.2.2.2.2.2.2.1) x.1) {K : Int32 → Int32 → (Nat → Int32) → (Nat → Int32) → (Nat → Int32) → (Nat → Int32) → (Nat → Int32) → Int32 → Option (Int32 × (Nat → Int32) × (Nat → Int32) × (Nat → Int32) × (Nat → Int32) × (Nat → Int32) × (Nat → Int32) × Int32)} (hK : ∀ (x1 : Int32) (x2 : Int32) (v_queue : (Nat → Int32)) (v_parent : (Nat → Int32)) (v_by : (Nat → Int32)) (v_seen : (Nat → Int32)) (v_path : (Nat → Int32)) (v_steps : Int32) (H : Heap) (locs : List Loc) (ls : Array Slot), K x1 x2 v_queue v_parent v_by v_seen v_path v_steps = some x → Wd s A D (ws_Mo_leastStates cI cJ cZ q_this q_m q_saved q_w q_savedWords q_isSaved q_text q_far q_queue q_parent q_by q_seen q_path q_row q_more q_stateOf v_textLength v_steps v_missing v_mores v_hash v_m v_far v_queue v_parent v_by v_seen v_path) H locs → lv_has ls 5 [(1, .int x1)] → W p l e rm_Mo_leastStates s m args below meth c H locs 0 0 Q (F0 m 99 ls [])) : ∀ (n : Nat) (x1 : Int32) (x2 : Int32) (v_queue : (Nat → Int32)) (v_parent : (Nat → Int32)) (v_by : (Nat → Int32)) (v_seen : (Nat → Int32)) (v_path : (Nat → Int32)) (v_steps : Int32) (H : Heap) (locs : List Loc) (ls : Array Slot), itr (fun _ _ _ _ _ _ _ _ => none) (f_Mo_leastStates_L8 v_m v_far K) n x1 x2 v_queue v_parent v_by v_seen v_path v_steps = some x → Wd s A D (ws_Mo_leastStates cI cJ cZ q_this q_m q_saved q_w q_savedWords q_isSaved q_text q_far q_queue q_parent q_by q_seen q_path q_row q_more q_stateOf v_textLength v_steps v_missing v_mores v_hash v_m v_far v_queue v_parent v_by v_seen v_path) H locs → lv_has ls 5 [(0, .ref q_this), (1, .int x1), (2, .int x2)] → W p l e rm_Mo_leastStates s m args below meth c H locs 0 0 Q (F0 m 8 ls []) := by
  intro n
  induction n with
  | zero => intro _ _ _ _ _ _ _ _ _ _ _ h; cases (show none = some _ from h)
  | succ n ih => intro _ _ _ _ _ _ _ _ _ _ _ h w hl; exact w_Mo_leastStates_L8 C0 hQ hK ih _ _ _ _ _ _ _ _ h w hl
set_option maxRecDepth 100000 in
theorem c_Mo_leastStates {l : Launch} {D : va_G} {cI cJ cZ cO : ClassId} {q_this q_m q_saved q_w q_savedWords q_isSaved q_text q_far q_queue q_parent q_by q_seen q_path q_row q_more q_stateOf : Nat} {v_textLength : Int32} {v_steps : Int32} {v_missing : Int64} {v_mores : Int32} {v_hash : Int64} {v_m : (Nat → Int32)} {v_far : (Nat → Int32)} {v_queue : (Nat → Int32)} {v_parent : (Nat → Int32)} {v_by : (Nat → Int32)} {v_seen : (Nat → Int32)} {v_path : (Nat → Int32)} {x : Int32 × (Nat → Int32) × (Nat → Int32) × (Nat → Int32) × (Nat → Int32) × (Nat → Int32) × (Nat → Int32) × Int32} (h : f_Mo_leastStates v_steps v_m v_far v_queue v_parent v_by v_seen v_path = some x) : ctI l D cI cJ cZ cO yX10_leastStates cX10_leastStates 5 .int rm_Mo_leastStates [.ref q_this] (ws_Mo_leastStates cI cJ cZ q_this q_m q_saved q_w q_savedWords q_isSaved q_text q_far q_queue q_parent q_by q_seen q_path q_row q_more q_stateOf v_textLength v_steps v_missing v_mores v_hash v_m v_far v_queue v_parent v_by v_seen v_path) (ws_Mo_leastStates cI cJ cZ q_this q_m q_saved q_w q_savedWords q_isSaved q_text q_far q_queue q_parent q_by q_seen q_path q_row q_more q_stateOf v_textLength x.2.2.2.2.2.2.2 v_missing v_mores v_hash v_m x.2.1 x.2.2.1 x.2.2.2.1 x.2.2.2.2.1 x.2.2.2.2.2.1 x.2.2.2.2.2.2.1) x.1 := by
  refine ctI_of (by decide) (Nat.le_of_ble_eq_true rfl) ?_
  intro p e s m below meth c Q A ls C0 hQ w hl
  have hl : lv_has ls 5 [(0, .ref q_this)] := hl
  generalize List.toArray (α := Value) [.ref q_this] = args at C0 hQ ⊢
  obtain ⟨hx, hb, hml, hown, hts, -, -⟩ := id C0
  unfold f_Mo_leastStates at h
  refine lv_aload_n hx hb dX10_leastStates_0 rfl (lv_at hl 0 rfl) ?_
  obtain ⟨v_far_1, hcall, h⟩ := bd1_h h
  have hp := sp_of (ws := (ws_Mo_leastStates cI cJ cZ q_this q_m q_saved q_w q_savedWords q_isSaved q_text q_far q_queue q_parent q_by q_seen q_path q_row q_more q_stateOf v_textLength v_steps v_missing v_mores v_hash v_m v_far v_queue v_parent v_by v_seen v_path)) (wc := (ws_Mo_distances cI cJ cZ q_this q_m q_saved q_w q_savedWords q_isSaved q_text q_far q_queue q_parent q_by q_seen q_path q_row q_more q_stateOf v_textLength v_steps v_missing v_mores v_hash v_m v_far)) [0, 1, 2] [3, 4, 5, 6, 7] rfl rfl
  have hp' : Rp (pk (ws_Mo_leastStates cI cJ cZ q_this q_m q_saved q_w q_savedWords q_isSaved q_text q_far q_queue q_parent q_by q_seen q_path q_row q_more q_stateOf v_textLength v_steps v_missing v_mores v_hash v_m v_far v_queue v_parent v_by v_seen v_path) [3, 4, 5, 6, 7] ++ (ws_Mo_distances cI cJ cZ q_this q_m q_saved q_w q_savedWords q_isSaved q_text q_far q_queue q_parent q_by q_seen q_path q_row q_more q_stateOf v_textLength v_steps v_missing v_mores v_hash v_m v_far_1)) (ws_Mo_leastStates cI cJ cZ q_this q_m q_saved q_w q_savedWords q_isSaved q_text q_far q_queue q_parent q_by q_seen q_path q_row q_more q_stateOf v_textLength v_steps v_missing v_mores v_hash v_m v_far_1 v_queue v_parent v_by v_seen v_path) := ⟨[5, 6, 7, 0, 1, 2, 3, 4], rfl, rfl⟩
  refine r_VV (As := []) (rest := []) (wc' := (ws_Mo_distances cI cJ cZ q_this q_m q_saved q_w q_savedWords q_isSaved q_text q_far q_queue q_parent q_by q_seen q_path q_row q_more q_stateOf v_textLength v_steps v_missing v_mores v_hash v_m v_far_1)) (ws' := (ws_Mo_leastStates cI cJ cZ q_this q_m q_saved q_w q_savedWords q_isSaved q_text q_far q_queue q_parent q_by q_seen q_path q_row q_more q_stateOf v_textLength v_steps v_missing v_mores v_hash v_m v_far_1 v_queue v_parent v_by v_seen v_path)) C0 w (c_Mo_distances hcall) hp hp' lm_RX10_104 mv_Mo_distances ⟨rfl, rfl⟩ ⟨by decide, by decide⟩ ⟨Nat.zero_le _, Nat.zero_le _⟩ (q0 := 0) rfl rfl rfl rfl hl rfl (Nat.le_of_ble_eq_true rfl) dX10_leastStates_1 (fun H locs w => ?_)
  refine lv_iconst (v := (0 : Int32)) hx hb dX10_leastStates_4 (by decide) ?_
  refine lv_istore_n (lv' := [(1, .int (0 : Int32)), (0, .ref q_this)]) hx hb dX10_leastStates_5 rfl hl (by decide) rfl (fun ls hl => ?_)
  refine lv_iconst (v := (0 : Int32)) hx hb dX10_leastStates_6 (by decide) ?_
  refine lv_istore_n (lv' := [(2, .int (0 : Int32)), (1, .int (0 : Int32)), (0, .ref q_this)]) hx hb dX10_leastStates_7 rfl hl (by decide) rfl (fun ls hl => ?_)
  refine wl_Mo_leastStates_L8 C0 hQ (fun x1 x2 v_queue_1 v_parent_1 v_by_1 v_seen_1 v_path_1 v_steps_1 H locs ls h w hl => ?_) _ _ _ _ _ _ _ _ _ _ _ _ h w (lv_sub hl [2, 1, 0] rfl)
  refine lv_iload_n hx hb dX10_leastStates_99 rfl (lv_at hl 0 rfl) ?_
  cases h
  exact hQ _ _ _ _ dX10_leastStates_100 rfl w
theorem dX10_truth_0 : decode cX10_truth 0 = .ok (.iconst 0, 1) := by decide +kernel
theorem dX10_truth_1 : decode cX10_truth 1 = .ok (.istore_n 3, 1) := by decide +kernel
theorem dX10_truth_2 : decode cX10_truth 2 = .ok (.lload_n 1, 1) := by decide +kernel
theorem dX10_truth_3 : decode cX10_truth 3 = .ok (.invokestatic 62, 3) := by decide +kernel
theorem dX10_truth_6 : decode cX10_truth 6 = .ok (.istore 4, 2) := by decide +kernel
theorem dX10_truth_8 : decode cX10_truth 8 = .ok (.iconst 0, 1) := by decide +kernel
theorem dX10_truth_9 : decode cX10_truth 9 = .ok (.istore 5, 2) := by decide +kernel
theorem dX10_truth_11 : decode cX10_truth 11 = .ok (.iload 5, 2) := by decide +kernel
theorem dX10_truth_13 : decode cX10_truth 13 = .ok (.iload 4, 2) := by decide +kernel
theorem dX10_truth_15 : decode cX10_truth 15 = .ok (.if_icmp .ge 27, 3) := by decide +kernel
theorem dX10_truth_18 : decode cX10_truth 18 = .ok (.aload_n 0, 1) := by decide +kernel
theorem dX10_truth_19 : decode cX10_truth 19 = .ok (.getfield 7, 3) := by decide +kernel
theorem dX10_truth_22 : decode cX10_truth 22 = .ok (.iconst 2, 1) := by decide +kernel
theorem dX10_truth_23 : decode cX10_truth 23 = .ok (.iconst 3, 1) := by decide +kernel
theorem dX10_truth_24 : decode cX10_truth 24 = .ok (.iload_n 3, 1) := by decide +kernel
theorem dX10_truth_25 : decode cX10_truth 25 = .ok (.imul, 1) := by decide +kernel
theorem dX10_truth_26 : decode cX10_truth 26 = .ok (.iadd, 1) := by decide +kernel
theorem dX10_truth_27 : decode cX10_truth 27 = .ok (.lload_n 1, 1) := by decide +kernel
theorem dX10_truth_28 : decode cX10_truth 28 = .ok (.iload 5, 2) := by decide +kernel
theorem dX10_truth_30 : decode cX10_truth 30 = .ok (.invokestatic 68, 3) := by decide +kernel
theorem dX10_truth_33 : decode cX10_truth 33 = .ok (.iadd, 1) := by decide +kernel
theorem dX10_truth_34 : decode cX10_truth 34 = .ok (.iaload, 1) := by decide +kernel
theorem dX10_truth_35 : decode cX10_truth 35 = .ok (.istore_n 3, 1) := by decide +kernel
theorem dX10_truth_36 : decode cX10_truth 36 = .ok (.iinc 5 1, 3) := by decide +kernel
theorem dX10_truth_39 : decode cX10_truth 39 = .ok (.goto (-28), 3) := by decide +kernel
theorem dX10_truth_42 : decode cX10_truth 42 = .ok (.aload_n 0, 1) := by decide +kernel
theorem dX10_truth_43 : decode cX10_truth 43 = .ok (.getfield 7, 3) := by decide +kernel
theorem dX10_truth_46 : decode cX10_truth 46 = .ok (.bipush 26, 2) := by decide +kernel
theorem dX10_truth_48 : decode cX10_truth 48 = .ok (.iload_n 3, 1) := by decide +kernel
theorem dX10_truth_49 : decode cX10_truth 49 = .ok (.iadd, 1) := by decide +kernel
theorem dX10_truth_50 : decode cX10_truth 50 = .ok (.iaload, 1) := by decide +kernel
theorem dX10_truth_51 : decode cX10_truth 51 = .ok (.ireturn, 1) := by decide +kernel
set_option maxRecDepth 100000 in
theorem w_Mo_truth_L11 {p : Program} {l : Launch} {e : Env} {s : State} {m : MethodId} {args : Array Value} {below : List Frame} {meth : Method} {c : Code} {Q : State → Prop} {A : Nat → Prop} {D : va_G} {cI cJ cZ cO : ClassId} {q_this q_m q_saved q_w q_savedWords q_isSaved q_text q_far q_queue q_parent q_by q_seen q_path q_row q_more q_stateOf : Nat} {v_textLength : Int32} {v_steps : Int32} {v_missing : Int64} {v_mores : Int32} {v_hash : Int64} {v_m : (Nat → Int32)} {x1 : Int64} {x4 : Int32} {x : Int32} (C0 : Cx p s m args c A D cI cJ cZ cO cX10_truth 6 RX10) (hQ : RtI p l e rm_Mo_truth s m args below meth c Q A D cX10_truth .int (ws_Mo_truth cI cJ cZ q_this q_m q_saved q_w q_savedWords q_isSaved q_text q_far q_queue q_parent q_by q_seen q_path q_row q_more q_stateOf v_textLength v_steps v_missing v_mores v_hash v_m) x) {K : Int32 → Int32 → Option (Int32)} (hK : ∀ (x3 : Int32) (x5 : Int32) (H : Heap) (locs : List Loc) (ls : Array Slot), K x3 x5 = some x → Wd s A D (ws_Mo_truth cI cJ cZ q_this q_m q_saved q_w q_savedWords q_isSaved q_text q_far q_queue q_parent q_by q_seen q_path q_row q_more q_stateOf v_textLength v_steps v_missing v_mores v_hash v_m) H locs → lv_has ls 6 [(0, .ref q_this), (3, .int x3)] → W p l e rm_Mo_truth s m args below meth c H locs 0 0 Q (F0 m 42 ls [])) {rec : Int32 → Int32 → Option (Int32)} (hrec : ∀ (x3 : Int32) (x5 : Int32) (H : Heap) (locs : List Loc) (ls : Array Slot), rec x3 x5 = some x → Wd s A D (ws_Mo_truth cI cJ cZ q_this q_m q_saved q_w q_savedWords q_isSaved q_text q_far q_queue q_parent q_by q_seen q_path q_row q_more q_stateOf v_textLength v_steps v_missing v_mores v_hash v_m) H locs → lv_has ls 6 [(0, .ref q_this), (1, .long x1), (3, .int x3), (4, .int x4), (5, .int x5)] → W p l e rm_Mo_truth s m args below meth c H locs 0 0 Q (F0 m 11 ls [])) (x3 : Int32) (x5 : Int32) {H : Heap} {locs : List Loc} {ls : Array Slot} (h : f_Mo_truth_L11 v_m x1 x4 K rec x3 x5 = some x) (w : Wd s A D (ws_Mo_truth cI cJ cZ q_this q_m q_saved q_w q_savedWords q_isSaved q_text q_far q_queue q_parent q_by q_seen q_path q_row q_more q_stateOf v_textLength v_steps v_missing v_mores v_hash v_m) H locs) (hl : lv_has ls 6 [(0, .ref q_this), (1, .long x1), (3, .int x3), (4, .int x4), (5, .int x5)]) : W p l e rm_Mo_truth s m args below meth c H locs 0 0 Q (F0 m 11 ls []) := by
  obtain ⟨hx, hb, hml, hown, hts, -, -⟩ := id C0
  unfold f_Mo_truth_L11 at h
  refine lv_iload hx hb dX10_truth_11 (lv_at hl 4 rfl) ?_
  refine lv_iload hx hb dX10_truth_13 (lv_at hl 3 rfl) ?_
  refine lv_icmp_ge (tgt := 42) hx hb dX10_truth_15 (by decide) (fun hc => ?_) (fun hc => ?_)
  · have h := if_h hc h
    exact hK _ _ _ _ _ h w (lv_sub hl [0, 2] rfl)
  · have h := nf_h hc h
    refine lv_aload_n hx hb dX10_truth_18 rfl (lv_at hl 0 rfl) ?_
    refine r_get C0 w 0 rfl kf_Mo 0 (by decide) lf_RX10_7 rfl dX10_truth_19 ?_
    refine lv_iconst (v := (2 : Int32)) hx hb dX10_truth_22 (by decide) ?_
    refine lv_iconst (v := (3 : Int32)) hx hb dX10_truth_23 (by decide) ?_
    refine lv_iload_n hx hb dX10_truth_24 rfl (lv_at hl 2 rfl) ?_
    refine lv_imul hx hb dX10_truth_25 ?_
    refine lv_iadd hx hb dX10_truth_26 ?_
    refine lv_lload_n hx hb dX10_truth_27 rfl (lv_at hl 1 rfl) ?_
    refine lv_iload hx hb dX10_truth_28 (lv_at hl 4 rfl) ?_
    obtain ⟨r, hcall, h⟩ := bd1_h h
    obtain ⟨wr, hp, hp'⟩ := rd_of (ws := (ws_Mo_truth cI cJ cZ q_this q_m q_saved q_w q_savedWords q_isSaved q_text q_far q_queue q_parent q_by q_seen q_path q_row q_more q_stateOf v_textLength v_steps v_missing v_mores v_hash v_m)) (wc := (ws_Mo_letterOf cI cJ cZ)) [] rfl rfl
    refine r_SI (r := r) (As := [.long x1, .int x5]) (rest := [.int ((2 : Int32) + ((3 : Int32) * x3)), .ref q_m]) (wc' := (ws_Mo_letterOf cI cJ cZ)) (ws' := (ws_Mo_truth cI cJ cZ q_this q_m q_saved q_w q_savedWords q_isSaved q_text q_far q_queue q_parent q_by q_seen q_path q_row q_more q_stateOf v_textLength v_steps v_missing v_mores v_hash v_m)) C0 w (c_Mo_letterOf hcall) hp hp' lm_RX10_68 ms_Mo_letterOf ⟨rfl, rfl⟩ ⟨by decide, by decide⟩ ⟨Nat.zero_le _, Nat.zero_le _⟩ rfl hl rfl (Nat.le_of_ble_eq_true rfl) dX10_truth_30 (fun H locs w => ?_)
    refine lv_iadd hx hb dX10_truth_33 ?_
    obtain ⟨hi, h⟩ := gIn_h h
    refine r_iald C0 w 1 rfl rfl hi dX10_truth_34 ?_
    refine lv_topi (fun x3_1 ex3_1 => ?_)
    have h := bnd_at ex3_1 h
    refine lv_istore_n (lv' := [(3, .int x3_1), (0, .ref q_this), (1, .long x1), (4, .int x4), (5, .int x5)]) hx hb dX10_truth_35 rfl hl (by decide) rfl (fun ls hl => ?_)
    obtain ⟨x5_1, ex5_1⟩ : ∃ y : Int32, y = (x5 + 1) := ⟨_, rfl⟩
    have h := bnd_at ex5_1 h
    refine lv_iinc (v := x5_1) (lv' := [(5, .int x5_1), (3, .int x3_1), (0, .ref q_this), (1, .long x1), (4, .int x4)]) hx hb dX10_truth_36 hl (k := 4) rfl (by rw [ex5_1]; rfl) (by decide) rfl (fun ls hl => ?_)
    refine lv_goto (tgt := 11) hx hb dX10_truth_39 (by decide) ?_
    exact hrec _ _ _ _ _ h w (lv_sub hl [2, 3, 1, 4, 0] rfl)
set_option maxRecDepth 100000 in
theorem wl_Mo_truth_L11 {p : Program} {l : Launch} {e : Env} {s : State} {m : MethodId} {args : Array Value} {below : List Frame} {meth : Method} {c : Code} {Q : State → Prop} {A : Nat → Prop} {D : va_G} {cI cJ cZ cO : ClassId} {q_this q_m q_saved q_w q_savedWords q_isSaved q_text q_far q_queue q_parent q_by q_seen q_path q_row q_more q_stateOf : Nat} {v_textLength : Int32} {v_steps : Int32} {v_missing : Int64} {v_mores : Int32} {v_hash : Int64} {v_m : (Nat → Int32)} {x1 : Int64} {x4 : Int32} {x : Int32} (C0 : Cx p s m args c A D cI cJ cZ cO cX10_truth 6 RX10) (hQ : RtI p l e rm_Mo_truth s m args below meth c Q A D cX10_truth .int (ws_Mo_truth cI cJ cZ q_this q_m q_saved q_w q_savedWords q_isSaved q_text q_far q_queue q_parent q_by q_seen q_path q_row q_more q_stateOf v_textLength v_steps v_missing v_mores v_hash v_m) x) {K : Int32 → Int32 → Option (Int32)} (hK : ∀ (x3 : Int32) (x5 : Int32) (H : Heap) (locs : List Loc) (ls : Array Slot), K x3 x5 = some x → Wd s A D (ws_Mo_truth cI cJ cZ q_this q_m q_saved q_w q_savedWords q_isSaved q_text q_far q_queue q_parent q_by q_seen q_path q_row q_more q_stateOf v_textLength v_steps v_missing v_mores v_hash v_m) H locs → lv_has ls 6 [(0, .ref q_this), (3, .int x3)] → W p l e rm_Mo_truth s m args below meth c H locs 0 0 Q (F0 m 42 ls [])) : ∀ (n : Nat) (x3 : Int32) (x5 : Int32) (H : Heap) (locs : List Loc) (ls : Array Slot), itr (fun _ _ => none) (f_Mo_truth_L11 v_m x1 x4 K) n x3 x5 = some x → Wd s A D (ws_Mo_truth cI cJ cZ q_this q_m q_saved q_w q_savedWords q_isSaved q_text q_far q_queue q_parent q_by q_seen q_path q_row q_more q_stateOf v_textLength v_steps v_missing v_mores v_hash v_m) H locs → lv_has ls 6 [(0, .ref q_this), (1, .long x1), (3, .int x3), (4, .int x4), (5, .int x5)] → W p l e rm_Mo_truth s m args below meth c H locs 0 0 Q (F0 m 11 ls []) := by
  intro n
  induction n with
  | zero => intro _ _ _ _ _ h; cases (show none = some _ from h)
  | succ n ih => intro _ _ _ _ _ h w hl; exact w_Mo_truth_L11 C0 hQ hK ih _ _ h w hl
set_option maxRecDepth 100000 in
theorem c_Mo_truth {l : Launch} {D : va_G} {cI cJ cZ cO : ClassId} {q_this q_m q_saved q_w q_savedWords q_isSaved q_text q_far q_queue q_parent q_by q_seen q_path q_row q_more q_stateOf : Nat} {x1 : Int64} {v_textLength : Int32} {v_steps : Int32} {v_missing : Int64} {v_mores : Int32} {v_hash : Int64} {v_m : (Nat → Int32)} {x : Int32} (h : f_Mo_truth x1 v_m = some x) : ctI l D cI cJ cZ cO yX10_truth cX10_truth 6 .int rm_Mo_truth [.ref q_this, .long x1] (ws_Mo_truth cI cJ cZ q_this q_m q_saved q_w q_savedWords q_isSaved q_text q_far q_queue q_parent q_by q_seen q_path q_row q_more q_stateOf v_textLength v_steps v_missing v_mores v_hash v_m) (ws_Mo_truth cI cJ cZ q_this q_m q_saved q_w q_savedWords q_isSaved q_text q_far q_queue q_parent q_by q_seen q_path q_row q_more q_stateOf v_textLength v_steps v_missing v_mores v_hash v_m) x := by
  refine ctI_of (by decide) (Nat.le_of_ble_eq_true rfl) ?_
  intro p e s m below meth c Q A ls C0 hQ w hl
  have hl : lv_has ls 6 [(0, .ref q_this), (1, .long x1)] := hl
  generalize List.toArray (α := Value) [.ref q_this, .long x1] = args at C0 hQ ⊢
  obtain ⟨hx, hb, hml, hown, hts, -, -⟩ := id C0
  unfold f_Mo_truth at h
  refine lv_iconst (v := (0 : Int32)) hx hb dX10_truth_0 (by decide) ?_
  refine lv_istore_n (lv' := [(3, .int (0 : Int32)), (0, .ref q_this), (1, .long x1)]) hx hb dX10_truth_1 rfl hl (by decide) rfl (fun ls hl => ?_)
  refine lv_lload_n hx hb dX10_truth_2 rfl (lv_at hl 2 rfl) ?_
  obtain ⟨r, hcall, h⟩ := bd1_h h
  obtain ⟨wr, hp, hp'⟩ := rd_of (ws := (ws_Mo_truth cI cJ cZ q_this q_m q_saved q_w q_savedWords q_isSaved q_text q_far q_queue q_parent q_by q_seen q_path q_row q_more q_stateOf v_textLength v_steps v_missing v_mores v_hash v_m)) (wc := (ws_Mo_lengthOf cI cJ cZ)) [] rfl rfl
  refine r_SI (r := r) (As := [.long x1]) (rest := []) (wc' := (ws_Mo_lengthOf cI cJ cZ)) (ws' := (ws_Mo_truth cI cJ cZ q_this q_m q_saved q_w q_savedWords q_isSaved q_text q_far q_queue q_parent q_by q_seen q_path q_row q_more q_stateOf v_textLength v_steps v_missing v_mores v_hash v_m)) C0 w (c_Mo_lengthOf hcall) hp hp' lm_RX10_62 ms_Mo_lengthOf ⟨rfl, rfl⟩ ⟨by decide, by decide⟩ ⟨Nat.zero_le _, Nat.zero_le _⟩ rfl hl rfl (Nat.le_of_ble_eq_true rfl) dX10_truth_3 (fun H locs w => ?_)
  refine lv_istore (lv' := [(4, .int r), (3, .int (0 : Int32)), (0, .ref q_this), (1, .long x1)]) hx hb dX10_truth_6 hl (by decide) rfl (fun ls hl => ?_)
  refine lv_iconst (v := (0 : Int32)) hx hb dX10_truth_8 (by decide) ?_
  refine lv_istore (lv' := [(5, .int (0 : Int32)), (4, .int r), (3, .int (0 : Int32)), (0, .ref q_this), (1, .long x1)]) hx hb dX10_truth_9 hl (by decide) rfl (fun ls hl => ?_)
  refine wl_Mo_truth_L11 C0 hQ (fun x3 x5 H locs ls h w hl => ?_) _ _ _ _ _ _ h w (lv_sub hl [3, 4, 2, 1, 0] rfl)
  refine lv_aload_n hx hb dX10_truth_42 rfl (lv_at hl 0 rfl) ?_
  refine r_get C0 w 0 rfl kf_Mo 0 (by decide) lf_RX10_7 rfl dX10_truth_43 ?_
  refine lv_bipush (v := (26 : Int32)) hx hb dX10_truth_46 (by decide) ?_
  refine lv_iload_n hx hb dX10_truth_48 rfl (lv_at hl 1 rfl) ?_
  refine lv_iadd hx hb dX10_truth_49 ?_
  obtain ⟨hi, h⟩ := gIn_h h
  refine r_iald C0 w 1 rfl rfl hi dX10_truth_50 ?_
  cases h
  exact hQ _ _ _ _ dX10_truth_51 rfl w
theorem dX10_accepts_0 : decode cX10_accepts 0 = .ok (.aload_n 0, 1) := by decide +kernel
theorem dX10_accepts_1 : decode cX10_accepts 1 = .ok (.invokevirtual 97, 3) := by decide +kernel
theorem dX10_accepts_4 : decode cX10_accepts 4 = .ok (.lstore_n 1, 1) := by decide +kernel
theorem dX10_accepts_5 : decode cX10_accepts 5 = .ok (.lload_n 1, 1) := by decide +kernel
theorem dX10_accepts_6 : decode cX10_accepts 6 = .ok (.lconst 0, 1) := by decide +kernel
theorem dX10_accepts_7 : decode cX10_accepts 7 = .ok (.lcmp, 1) := by decide +kernel
theorem dX10_accepts_8 : decode cX10_accepts 8 = .ok (.ifCond .ge 8, 3) := by decide +kernel
theorem dX10_accepts_11 : decode cX10_accepts 11 = .ok (.bipush (-2), 2) := by decide +kernel
theorem dX10_accepts_13 : decode cX10_accepts 13 = .ok (.goto 8, 3) := by decide +kernel
theorem dX10_accepts_16 : decode cX10_accepts 16 = .ok (.aload_n 0, 1) := by decide +kernel
theorem dX10_accepts_17 : decode cX10_accepts 17 = .ok (.lload_n 1, 1) := by decide +kernel
theorem dX10_accepts_18 : decode cX10_accepts 18 = .ok (.invokevirtual 121, 3) := by decide +kernel
theorem dX10_accepts_21 : decode cX10_accepts 21 = .ok (.ireturn, 1) := by decide +kernel
set_option maxRecDepth 100000 in
theorem c_Mo_accepts {l : Launch} {D : va_G} {cI cJ cZ cO : ClassId} {q_this q_m q_saved q_w q_savedWords q_isSaved q_text q_far q_queue q_parent q_by q_seen q_path q_row q_more q_stateOf : Nat} {v_textLength : Int32} {v_steps : Int32} {v_missing : Int64} {v_mores : Int32} {v_hash : Int64} {v_m : (Nat → Int32)} {v_text : (Nat → Int32)} {x : Int32} (h : f_Mo_accepts v_textLength v_m v_text = some x) : ctI l D cI cJ cZ cO yX10_accepts cX10_accepts 3 .int rm_Mo_accepts [.ref q_this] (ws_Mo_accepts cI cJ cZ q_this q_m q_saved q_w q_savedWords q_isSaved q_text q_far q_queue q_parent q_by q_seen q_path q_row q_more q_stateOf v_textLength v_steps v_missing v_mores v_hash v_m v_text) (ws_Mo_accepts cI cJ cZ q_this q_m q_saved q_w q_savedWords q_isSaved q_text q_far q_queue q_parent q_by q_seen q_path q_row q_more q_stateOf v_textLength v_steps v_missing v_mores v_hash v_m v_text) x := by
  refine ctI_of (by decide) (Nat.le_of_ble_eq_true rfl) ?_
  intro p e s m below meth c Q A ls C0 hQ w hl
  have hl : lv_has ls 3 [(0, .ref q_this)] := hl
  generalize List.toArray (α := Value) [.ref q_this] = args at C0 hQ ⊢
  obtain ⟨hx, hb, hml, hown, hts, -, -⟩ := id C0
  unfold f_Mo_accepts at h
  refine lv_aload_n hx hb dX10_accepts_0 rfl (lv_at hl 0 rfl) ?_
  obtain ⟨r, hcall, h⟩ := bd1_h h
  obtain ⟨wr, hp, hp'⟩ := rd_of (ws := (ws_Mo_accepts cI cJ cZ q_this q_m q_saved q_w q_savedWords q_isSaved q_text q_far q_queue q_parent q_by q_seen q_path q_row q_more q_stateOf v_textLength v_steps v_missing v_mores v_hash v_m v_text)) (wc := (ws_Mo_told cI cJ cZ q_this q_m q_saved q_w q_savedWords q_isSaved q_text q_far q_queue q_parent q_by q_seen q_path q_row q_more q_stateOf v_textLength v_steps v_missing v_mores v_hash v_m v_text)) [0, 1, 2] rfl rfl
  refine r_VJ (r := r) (As := []) (rest := []) (wc' := (ws_Mo_told cI cJ cZ q_this q_m q_saved q_w q_savedWords q_isSaved q_text q_far q_queue q_parent q_by q_seen q_path q_row q_more q_stateOf v_textLength v_steps v_missing v_mores v_hash v_m v_text)) (ws' := (ws_Mo_accepts cI cJ cZ q_this q_m q_saved q_w q_savedWords q_isSaved q_text q_far q_queue q_parent q_by q_seen q_path q_row q_more q_stateOf v_textLength v_steps v_missing v_mores v_hash v_m v_text)) C0 w (c_Mo_told hcall) hp hp' lm_RX10_97 mv_Mo_told ⟨rfl, rfl⟩ ⟨by decide, by decide⟩ ⟨Nat.zero_le _, Nat.zero_le _⟩ (q0 := 0) rfl rfl rfl rfl hl rfl (Nat.le_of_ble_eq_true rfl) dX10_accepts_1 (fun H locs w => ?_)
  refine lv_lstore_n (lv' := [(1, .long r), (0, .ref q_this)]) hx hb dX10_accepts_4 rfl hl (by decide) rfl (fun ls hl => ?_)
  refine lv_lload_n hx hb dX10_accepts_5 rfl (lv_at hl 0 rfl) ?_
  refine lv_lconst (v := (0 : Int64)) hx hb dX10_accepts_6 (by decide) ?_
  refine r_lc_ge (tgt := 16) hx hb dX10_accepts_7 dX10_accepts_8 (by decide) (fun hc => ?_) (fun hc => ?_)
  · have h := nf_h hc h
    refine lv_aload_n hx hb dX10_accepts_16 rfl (lv_at hl 1 rfl) ?_
    refine lv_lload_n hx hb dX10_accepts_17 rfl (lv_at hl 0 rfl) ?_
    obtain ⟨r_1, hcall, h⟩ := bd1_h h
    obtain ⟨wr, hp, hp'⟩ := rd_of (ws := (ws_Mo_accepts cI cJ cZ q_this q_m q_saved q_w q_savedWords q_isSaved q_text q_far q_queue q_parent q_by q_seen q_path q_row q_more q_stateOf v_textLength v_steps v_missing v_mores v_hash v_m v_text)) (wc := (ws_Mo_truth cI cJ cZ q_this q_m q_saved q_w q_savedWords q_isSaved q_text q_far q_queue q_parent q_by q_seen q_path q_row q_more q_stateOf v_textLength v_steps v_missing v_mores v_hash v_m)) [0, 1] rfl rfl
    refine r_VI (r := r_1) (As := [.long r]) (rest := []) (wc' := (ws_Mo_truth cI cJ cZ q_this q_m q_saved q_w q_savedWords q_isSaved q_text q_far q_queue q_parent q_by q_seen q_path q_row q_more q_stateOf v_textLength v_steps v_missing v_mores v_hash v_m)) (ws' := (ws_Mo_accepts cI cJ cZ q_this q_m q_saved q_w q_savedWords q_isSaved q_text q_far q_queue q_parent q_by q_seen q_path q_row q_more q_stateOf v_textLength v_steps v_missing v_mores v_hash v_m v_text)) C0 w (c_Mo_truth hcall) hp hp' lm_RX10_121 mv_Mo_truth ⟨rfl, rfl⟩ ⟨by decide, by decide⟩ ⟨Nat.zero_le _, Nat.zero_le _⟩ (q0 := 0) rfl rfl rfl rfl hl rfl (Nat.le_of_ble_eq_true rfl) dX10_accepts_18 (fun H locs w => ?_)
    cases h
    exact hQ _ _ _ _ dX10_accepts_21 rfl w
  · have h := if_h hc h
    refine lv_bipush (v := (-2 : Int32)) hx hb dX10_accepts_11 (by decide) ?_
    refine lv_goto (tgt := 21) hx hb dX10_accepts_13 (by decide) ?_
    cases h
    exact hQ _ _ _ _ dX10_accepts_21 rfl w
theorem dX10_type_0 : decode cX10_type 0 = .ok (.iload_n 1, 1) := by decide +kernel
theorem dX10_type_1 : decode cX10_type 1 = .ok (.iconst 0, 1) := by decide +kernel
theorem dX10_type_2 : decode cX10_type 2 = .ok (.bipush 127, 2) := by decide +kernel
theorem dX10_type_4 : decode cX10_type 4 = .ok (.invokestatic 76, 3) := by decide +kernel
theorem dX10_type_7 : decode cX10_type 7 = .ok (.ifCond .ne 6, 3) := by decide +kernel
theorem dX10_type_10 : decode cX10_type 10 = .ok (.bipush (-2), 2) := by decide +kernel
theorem dX10_type_12 : decode cX10_type 12 = .ok (.ireturn, 1) := by decide +kernel
theorem dX10_type_13 : decode cX10_type 13 = .ok (.aload_n 0, 1) := by decide +kernel
theorem dX10_type_14 : decode cX10_type 14 = .ok (.getfield 72, 3) := by decide +kernel
theorem dX10_type_17 : decode cX10_type 17 = .ok (.bipush 16, 2) := by decide +kernel
theorem dX10_type_19 : decode cX10_type 19 = .ok (.if_icmp .ne 6, 3) := by decide +kernel
theorem dX10_type_22 : decode cX10_type 22 = .ok (.bipush (-5), 2) := by decide +kernel
theorem dX10_type_24 : decode cX10_type 24 = .ok (.ireturn, 1) := by decide +kernel
theorem dX10_type_25 : decode cX10_type 25 = .ok (.aload_n 0, 1) := by decide +kernel
theorem dX10_type_26 : decode cX10_type 26 = .ok (.getfield 27, 3) := by decide +kernel
theorem dX10_type_29 : decode cX10_type 29 = .ok (.aload_n 0, 1) := by decide +kernel
theorem dX10_type_30 : decode cX10_type 30 = .ok (.getfield 72, 3) := by decide +kernel
theorem dX10_type_33 : decode cX10_type 33 = .ok (.iload_n 1, 1) := by decide +kernel
theorem dX10_type_34 : decode cX10_type 34 = .ok (.iastore, 1) := by decide +kernel
theorem dX10_type_35 : decode cX10_type 35 = .ok (.aload_n 0, 1) := by decide +kernel
theorem dX10_type_36 : decode cX10_type 36 = .ok (.dup, 1) := by decide +kernel
theorem dX10_type_37 : decode cX10_type 37 = .ok (.getfield 72, 3) := by decide +kernel
theorem dX10_type_40 : decode cX10_type 40 = .ok (.iconst 1, 1) := by decide +kernel
theorem dX10_type_41 : decode cX10_type 41 = .ok (.iadd, 1) := by decide +kernel
theorem dX10_type_42 : decode cX10_type 42 = .ok (.putfield 72, 3) := by decide +kernel
theorem dX10_type_45 : decode cX10_type 45 = .ok (.aload_n 0, 1) := by decide +kernel
theorem dX10_type_46 : decode cX10_type 46 = .ok (.getfield 72, 3) := by decide +kernel
theorem dX10_type_49 : decode cX10_type 49 = .ok (.ireturn, 1) := by decide +kernel
set_option maxRecDepth 100000 in
theorem c_Mo_type {l : Launch} {D : va_G} {cI cJ cZ cO : ClassId} {q_this q_m q_saved q_w q_savedWords q_isSaved q_text q_far q_queue q_parent q_by q_seen q_path q_row q_more q_stateOf : Nat} {x1 : Int32} {v_textLength : Int32} {v_steps : Int32} {v_missing : Int64} {v_mores : Int32} {v_hash : Int64} {v_text : (Nat → Int32)} {x : Int32 × (Nat → Int32) × Int32} (h : f_Mo_type x1 v_textLength v_text = some x) : ctI l D cI cJ cZ cO yX10_type cX10_type 2 .int rm_Mo_type [.ref q_this, .int x1] (ws_Mo_type cI cJ cZ q_this q_m q_saved q_w q_savedWords q_isSaved q_text q_far q_queue q_parent q_by q_seen q_path q_row q_more q_stateOf v_textLength v_steps v_missing v_mores v_hash v_text) (ws_Mo_type cI cJ cZ q_this q_m q_saved q_w q_savedWords q_isSaved q_text q_far q_queue q_parent q_by q_seen q_path q_row q_more q_stateOf x.2.2 v_steps v_missing v_mores v_hash x.2.1) x.1 := by
  refine ctI_of (by decide) (Nat.le_of_ble_eq_true rfl) ?_
  intro p e s m below meth c Q A ls C0 hQ w hl
  have hl : lv_has ls 2 [(0, .ref q_this), (1, .int x1)] := hl
  generalize List.toArray (α := Value) [.ref q_this, .int x1] = args at C0 hQ ⊢
  obtain ⟨hx, hb, hml, hown, hts, -, -⟩ := id C0
  unfold f_Mo_type at h
  refine lv_iload_n hx hb dX10_type_0 rfl (lv_at hl 1 rfl) ?_
  refine lv_iconst (v := (0 : Int32)) hx hb dX10_type_1 (by decide) ?_
  refine lv_bipush (v := (127 : Int32)) hx hb dX10_type_2 (by decide) ?_
  obtain ⟨r, hcall, h⟩ := bd1_h h
  obtain ⟨wr, hp, hp'⟩ := rd_of (ws := (ws_Mo_type cI cJ cZ q_this q_m q_saved q_w q_savedWords q_isSaved q_text q_far q_queue q_parent q_by q_seen q_path q_row q_more q_stateOf v_textLength v_steps v_missing v_mores v_hash v_text)) (wc := (ws_Mo_in cI cJ cZ)) [] rfl rfl
  refine r_SI (r := r) (As := [.int x1, .int (0 : Int32), .int (127 : Int32)]) (rest := []) (wc' := (ws_Mo_in cI cJ cZ)) (ws' := (ws_Mo_type cI cJ cZ q_this q_m q_saved q_w q_savedWords q_isSaved q_text q_far q_queue q_parent q_by q_seen q_path q_row q_more q_stateOf v_textLength v_steps v_missing v_mores v_hash v_text)) C0 w (c_Mo_in hcall) hp hp' lm_RX10_76 ms_Mo_in ⟨rfl, rfl⟩ ⟨by decide, by decide⟩ ⟨Nat.zero_le _, Nat.zero_le _⟩ rfl hl rfl (Nat.le_of_ble_eq_true rfl) dX10_type_4 (fun H locs w => ?_)
  refine lv_if_ne (tgt := 13) hx hb dX10_type_7 (by decide) (fun hc => ?_) (fun hc => ?_)
  · have h := nf_h hc h
    refine lv_aload_n hx hb dX10_type_13 rfl (lv_at hl 0 rfl) ?_
    refine r_get C0 w 0 rfl kf_Mo 6 (by decide) lf_RX10_72 rfl dX10_type_14 ?_
    refine lv_bipush (v := (16 : Int32)) hx hb dX10_type_17 (by decide) ?_
    refine lv_icmp_ne (tgt := 25) hx hb dX10_type_19 (by decide) (fun hc => ?_) (fun hc => ?_)
    · have h := nf_h hc h
      refine lv_aload_n hx hb dX10_type_25 rfl (lv_at hl 0 rfl) ?_
      refine r_get C0 w 0 rfl kf_Mo 5 (by decide) lf_RX10_27 rfl dX10_type_26 ?_
      refine lv_aload_n hx hb dX10_type_29 rfl (lv_at hl 0 rfl) ?_
      refine r_get C0 w 0 rfl kf_Mo 6 (by decide) lf_RX10_72 rfl dX10_type_30 ?_
      refine lv_iload_n hx hb dX10_type_33 rfl (lv_at hl 1 rfl) ?_
      obtain ⟨hi, h⟩ := gIn_h h
      obtain ⟨v_text_1, ev_text_1⟩ : ∃ y, y = (upd v_text v_textLength.toNatClampNeg x1) := ⟨_, rfl⟩
      have h := bnd_at ev_text_1 h
      refine r_iast C0 w 1 rfl (f' := v_text_1) rfl hi ev_text_1 dX10_type_34 (ws' := (ws_Mo_type cI cJ cZ q_this q_m q_saved q_w q_savedWords q_isSaved q_text q_far q_queue q_parent q_by q_seen q_path q_row q_more q_stateOf v_textLength v_steps v_missing v_mores v_hash v_text_1)) rfl (fun H locs w => ?_)
      refine lv_aload_n hx hb dX10_type_35 rfl (lv_at hl 0 rfl) ?_
      refine lv_dup hx hb dX10_type_36 rfl ?_
      refine r_get C0 w 0 rfl kf_Mo 6 (by decide) lf_RX10_72 rfl dX10_type_37 ?_
      refine lv_iconst (v := (1 : Int32)) hx hb dX10_type_40 (by decide) ?_
      refine lv_iadd hx hb dX10_type_41 ?_
      refine lv_topi (fun v_textLength_1 ev_textLength_1 => ?_)
      have h := bnd_at ev_textLength_1 h
      refine r_put C0 w 0 rfl kf_Mo 6 (by decide) lf_RX10_72 rfl rfl rfl (Nat.le_of_ble_eq_true rfl) dX10_type_42 (ws' := (ws_Mo_type cI cJ cZ q_this q_m q_saved q_w q_savedWords q_isSaved q_text q_far q_queue q_parent q_by q_seen q_path q_row q_more q_stateOf v_textLength_1 v_steps v_missing v_mores v_hash v_text_1)) rfl (fun H locs w => ?_)
      refine lv_aload_n hx hb dX10_type_45 rfl (lv_at hl 0 rfl) ?_
      refine r_get C0 w 0 rfl kf_Mo 6 (by decide) lf_RX10_72 rfl dX10_type_46 ?_
      cases h
      exact hQ _ _ _ _ dX10_type_49 rfl w
    · have h := if_h hc h
      refine lv_bipush (v := (-5 : Int32)) hx hb dX10_type_22 (by decide) ?_
      cases h
      exact hQ _ _ _ _ dX10_type_24 rfl w
  · have h := if_h hc h
    refine lv_bipush (v := (-2 : Int32)) hx hb dX10_type_10 (by decide) ?_
    cases h
    exact hQ _ _ _ _ dX10_type_12 rfl w
theorem dX10_clearText_0 : decode cX10_clearText 0 = .ok (.aload_n 0, 1) := by decide +kernel
theorem dX10_clearText_1 : decode cX10_clearText 1 = .ok (.getfield 72, 3) := by decide +kernel
theorem dX10_clearText_4 : decode cX10_clearText 4 = .ok (.istore_n 1, 1) := by decide +kernel
theorem dX10_clearText_5 : decode cX10_clearText 5 = .ok (.aload_n 0, 1) := by decide +kernel
theorem dX10_clearText_6 : decode cX10_clearText 6 = .ok (.iconst 0, 1) := by decide +kernel
theorem dX10_clearText_7 : decode cX10_clearText 7 = .ok (.putfield 72, 3) := by decide +kernel
theorem dX10_clearText_10 : decode cX10_clearText 10 = .ok (.iload_n 1, 1) := by decide +kernel
theorem dX10_clearText_11 : decode cX10_clearText 11 = .ok (.ireturn, 1) := by decide +kernel
set_option maxRecDepth 100000 in
theorem c_Mo_clearText {l : Launch} {D : va_G} {cI cJ cZ cO : ClassId} {q_this q_m q_saved q_w q_savedWords q_isSaved q_text q_far q_queue q_parent q_by q_seen q_path q_row q_more q_stateOf : Nat} {v_textLength : Int32} {v_steps : Int32} {v_missing : Int64} {v_mores : Int32} {v_hash : Int64} {x : Int32 × Int32} (h : f_Mo_clearText v_textLength = some x) : ctI l D cI cJ cZ cO yX10_clearText cX10_clearText 2 .int rm_Mo_clearText [.ref q_this] (ws_Mo_clearText cI cJ cZ q_this q_m q_saved q_w q_savedWords q_isSaved q_text q_far q_queue q_parent q_by q_seen q_path q_row q_more q_stateOf v_textLength v_steps v_missing v_mores v_hash) (ws_Mo_clearText cI cJ cZ q_this q_m q_saved q_w q_savedWords q_isSaved q_text q_far q_queue q_parent q_by q_seen q_path q_row q_more q_stateOf x.2 v_steps v_missing v_mores v_hash) x.1 := by
  refine ctI_of (by decide) (Nat.le_of_ble_eq_true rfl) ?_
  intro p e s m below meth c Q A ls C0 hQ w hl
  have hl : lv_has ls 2 [(0, .ref q_this)] := hl
  generalize List.toArray (α := Value) [.ref q_this] = args at C0 hQ ⊢
  obtain ⟨hx, hb, hml, hown, hts, -, -⟩ := id C0
  unfold f_Mo_clearText at h
  refine lv_aload_n hx hb dX10_clearText_0 rfl (lv_at hl 0 rfl) ?_
  refine r_get C0 w 0 rfl kf_Mo 6 (by decide) lf_RX10_72 rfl dX10_clearText_1 ?_
  refine lv_istore_n (lv' := [(1, .int v_textLength), (0, .ref q_this)]) hx hb dX10_clearText_4 rfl hl (by decide) rfl (fun ls hl => ?_)
  refine lv_aload_n hx hb dX10_clearText_5 rfl (lv_at hl 1 rfl) ?_
  refine lv_iconst (v := (0 : Int32)) hx hb dX10_clearText_6 (by decide) ?_
  refine r_put C0 w 0 rfl kf_Mo 6 (by decide) lf_RX10_72 rfl rfl rfl (Nat.le_of_ble_eq_true rfl) dX10_clearText_7 (ws' := (ws_Mo_clearText cI cJ cZ q_this q_m q_saved q_w q_savedWords q_isSaved q_text q_far q_queue q_parent q_by q_seen q_path q_row q_more q_stateOf (0 : Int32) v_steps v_missing v_mores v_hash)) rfl (fun H locs w => ?_)
  refine lv_iload_n hx hb dX10_clearText_10 rfl (lv_at hl 0 rfl) ?_
  cases h
  exact hQ _ _ _ _ dX10_clearText_11 rfl w
theorem dX10_place_0 : decode cX10_place 0 = .ok (.iconst 0, 1) := by decide +kernel
theorem dX10_place_1 : decode cX10_place 1 = .ok (.istore_n 3, 1) := by decide +kernel
theorem dX10_place_2 : decode cX10_place 2 = .ok (.aload_n 0, 1) := by decide +kernel
theorem dX10_place_3 : decode cX10_place 3 = .ok (.getfield 7, 3) := by decide +kernel
theorem dX10_place_6 : decode cX10_place 6 = .ok (.bipush 37, 2) := by decide +kernel
theorem dX10_place_8 : decode cX10_place 8 = .ok (.iaload, 1) := by decide +kernel
theorem dX10_place_9 : decode cX10_place 9 = .ok (.istore 4, 2) := by decide +kernel
theorem dX10_place_11 : decode cX10_place 11 = .ok (.iload_n 3, 1) := by decide +kernel
theorem dX10_place_12 : decode cX10_place 12 = .ok (.iload 4, 2) := by decide +kernel
theorem dX10_place_14 : decode cX10_place 14 = .ok (.if_icmp .ge 63, 3) := by decide +kernel
theorem dX10_place_17 : decode cX10_place 17 = .ok (.iload_n 3, 1) := by decide +kernel
theorem dX10_place_18 : decode cX10_place 18 = .ok (.iload 4, 2) := by decide +kernel
theorem dX10_place_20 : decode cX10_place 20 = .ok (.iadd, 1) := by decide +kernel
theorem dX10_place_21 : decode cX10_place 21 = .ok (.iconst 2, 1) := by decide +kernel
theorem dX10_place_22 : decode cX10_place 22 = .ok (.idiv, 1) := by decide +kernel
theorem dX10_place_23 : decode cX10_place 23 = .ok (.istore 5, 2) := by decide +kernel
theorem dX10_place_25 : decode cX10_place 25 = .ok (.aload_n 0, 1) := by decide +kernel
theorem dX10_place_26 : decode cX10_place 26 = .ok (.getfield 16, 3) := by decide +kernel
theorem dX10_place_29 : decode cX10_place 29 = .ok (.iconst 4, 1) := by decide +kernel
theorem dX10_place_30 : decode cX10_place 30 = .ok (.iload 5, 2) := by decide +kernel
theorem dX10_place_32 : decode cX10_place 32 = .ok (.iadd, 1) := by decide +kernel
theorem dX10_place_33 : decode cX10_place 33 = .ok (.laload, 1) := by decide +kernel
theorem dX10_place_34 : decode cX10_place 34 = .ok (.lload_n 1, 1) := by decide +kernel
theorem dX10_place_35 : decode cX10_place 35 = .ok (.lcmp, 1) := by decide +kernel
theorem dX10_place_36 : decode cX10_place 36 = .ok (.ifCond .ge 7, 3) := by decide +kernel
theorem dX10_place_39 : decode cX10_place 39 = .ok (.iconst 1, 1) := by decide +kernel
theorem dX10_place_40 : decode cX10_place 40 = .ok (.goto 4, 3) := by decide +kernel
theorem dX10_place_43 : decode cX10_place 43 = .ok (.iconst 0, 1) := by decide +kernel
theorem dX10_place_44 : decode cX10_place 44 = .ok (.istore 6, 2) := by decide +kernel
theorem dX10_place_46 : decode cX10_place 46 = .ok (.iload 6, 2) := by decide +kernel
theorem dX10_place_48 : decode cX10_place 48 = .ok (.ifCond .eq 10, 3) := by decide +kernel
theorem dX10_place_51 : decode cX10_place 51 = .ok (.iload 5, 2) := by decide +kernel
theorem dX10_place_53 : decode cX10_place 53 = .ok (.iconst 1, 1) := by decide +kernel
theorem dX10_place_54 : decode cX10_place 54 = .ok (.iadd, 1) := by decide +kernel
theorem dX10_place_55 : decode cX10_place 55 = .ok (.goto 4, 3) := by decide +kernel
theorem dX10_place_58 : decode cX10_place 58 = .ok (.iload_n 3, 1) := by decide +kernel
theorem dX10_place_59 : decode cX10_place 59 = .ok (.istore_n 3, 1) := by decide +kernel
theorem dX10_place_60 : decode cX10_place 60 = .ok (.iload 6, 2) := by decide +kernel
theorem dX10_place_62 : decode cX10_place 62 = .ok (.ifCond .eq 8, 3) := by decide +kernel
theorem dX10_place_65 : decode cX10_place 65 = .ok (.iload 4, 2) := by decide +kernel
theorem dX10_place_67 : decode cX10_place 67 = .ok (.goto 5, 3) := by decide +kernel
theorem dX10_place_70 : decode cX10_place 70 = .ok (.iload 5, 2) := by decide +kernel
theorem dX10_place_72 : decode cX10_place 72 = .ok (.istore 4, 2) := by decide +kernel
theorem dX10_place_74 : decode cX10_place 74 = .ok (.goto (-63), 3) := by decide +kernel
theorem dX10_place_77 : decode cX10_place 77 = .ok (.iload_n 3, 1) := by decide +kernel
theorem dX10_place_78 : decode cX10_place 78 = .ok (.ireturn, 1) := by decide +kernel
set_option maxRecDepth 100000 in
theorem w_Mo_place_L11 {p : Program} {l : Launch} {e : Env} {s : State} {m : MethodId} {args : Array Value} {below : List Frame} {meth : Method} {c : Code} {Q : State → Prop} {A : Nat → Prop} {D : va_G} {cI cJ cZ cO : ClassId} {q_this q_m q_saved q_w q_savedWords q_isSaved q_text q_far q_queue q_parent q_by q_seen q_path q_row q_more q_stateOf : Nat} {v_textLength : Int32} {v_steps : Int32} {v_missing : Int64} {v_mores : Int32} {v_hash : Int64} {v_m : (Nat → Int32)} {v_w : (Nat → Int64)} {x1 : Int64} {x : Int32} (C0 : Cx p s m args c A D cI cJ cZ cO cX10_place 7 RX10) (hQ : RtI p l e rm_Mo_place s m args below meth c Q A D cX10_place .int (ws_Mo_place cI cJ cZ q_this q_m q_saved q_w q_savedWords q_isSaved q_text q_far q_queue q_parent q_by q_seen q_path q_row q_more q_stateOf v_textLength v_steps v_missing v_mores v_hash v_m v_w) x) {K : Int32 → Int32 → Option (Int32)} (hK : ∀ (x3 : Int32) (x4 : Int32) (H : Heap) (locs : List Loc) (ls : Array Slot), K x3 x4 = some x → Wd s A D (ws_Mo_place cI cJ cZ q_this q_m q_saved q_w q_savedWords q_isSaved q_text q_far q_queue q_parent q_by q_seen q_path q_row q_more q_stateOf v_textLength v_steps v_missing v_mores v_hash v_m v_w) H locs → lv_has ls 7 [(3, .int x3)] → W p l e rm_Mo_place s m args below meth c H locs 0 0 Q (F0 m 77 ls [])) {rec : Int32 → Int32 → Option (Int32)} (hrec : ∀ (x3 : Int32) (x4 : Int32) (H : Heap) (locs : List Loc) (ls : Array Slot), rec x3 x4 = some x → Wd s A D (ws_Mo_place cI cJ cZ q_this q_m q_saved q_w q_savedWords q_isSaved q_text q_far q_queue q_parent q_by q_seen q_path q_row q_more q_stateOf v_textLength v_steps v_missing v_mores v_hash v_m v_w) H locs → lv_has ls 7 [(0, .ref q_this), (1, .long x1), (3, .int x3), (4, .int x4)] → W p l e rm_Mo_place s m args below meth c H locs 0 0 Q (F0 m 11 ls [])) (x3 : Int32) (x4 : Int32) {H : Heap} {locs : List Loc} {ls : Array Slot} (h : f_Mo_place_L11 v_w x1 K rec x3 x4 = some x) (w : Wd s A D (ws_Mo_place cI cJ cZ q_this q_m q_saved q_w q_savedWords q_isSaved q_text q_far q_queue q_parent q_by q_seen q_path q_row q_more q_stateOf v_textLength v_steps v_missing v_mores v_hash v_m v_w) H locs) (hl : lv_has ls 7 [(0, .ref q_this), (1, .long x1), (3, .int x3), (4, .int x4)]) : W p l e rm_Mo_place s m args below meth c H locs 0 0 Q (F0 m 11 ls []) := by
  obtain ⟨hx, hb, hml, hown, hts, -, -⟩ := id C0
  unfold f_Mo_place_L11 at h
  refine lv_iload_n hx hb dX10_place_11 rfl (lv_at hl 2 rfl) ?_
  refine lv_iload hx hb dX10_place_12 (lv_at hl 3 rfl) ?_
  refine lv_icmp_ge (tgt := 77) hx hb dX10_place_14 (by decide) (fun hc => ?_) (fun hc => ?_)
  · have h := if_h hc h
    exact hK _ _ _ _ _ h w (lv_sub hl [2] rfl)
  · have h := nf_h hc h
    refine lv_iload_n hx hb dX10_place_17 rfl (lv_at hl 2 rfl) ?_
    refine lv_iload hx hb dX10_place_18 (lv_at hl 3 rfl) ?_
    refine lv_iadd hx hb dX10_place_20 ?_
    refine lv_iconst (v := (2 : Int32)) hx hb dX10_place_21 (by decide) ?_
    refine lv_idiv hx hb dX10_place_22 (by decide) ?_
    refine lv_topi (fun x5 ex5 => ?_)
    have h := bnd_at ex5 h
    refine lv_istore (lv' := [(5, .int x5), (0, .ref q_this), (1, .long x1), (3, .int x3), (4, .int x4)]) hx hb dX10_place_23 hl (by decide) rfl (fun ls hl => ?_)
    refine lv_aload_n hx hb dX10_place_25 rfl (lv_at hl 1 rfl) ?_
    refine r_get C0 w 0 rfl kf_Mo 2 (by decide) lf_RX10_16 rfl dX10_place_26 ?_
    refine lv_iconst (v := (4 : Int32)) hx hb dX10_place_29 (by decide) ?_
    refine lv_iload hx hb dX10_place_30 (lv_at hl 0 rfl) ?_
    refine lv_iadd hx hb dX10_place_32 ?_
    obtain ⟨hi, h⟩ := gIn_h h
    refine r_lald C0 w 2 rfl rfl hi dX10_place_33 ?_
    refine lv_lload_n hx hb dX10_place_34 rfl (lv_at hl 2 rfl) ?_
    obtain ⟨t, et⟩ : ∃ y : Int32, y = (if (v_w ((4 : Int32) + x5).toNatClampNeg) < x1 then (1 : Int32) else (0 : Int32)) := ⟨_, rfl⟩
    have h := bnd_at et h
    have J : W p l e rm_Mo_place s m args below meth c H locs 0 0 Q (F0 m 44 ls [.int t]) := by
      refine lv_istore (lv' := [(6, .int t), (5, .int x5), (0, .ref q_this), (1, .long x1), (3, .int x3), (4, .int x4)]) hx hb dX10_place_44 hl (by decide) rfl (fun ls hl => ?_)
      refine lv_iload hx hb dX10_place_46 (lv_at hl 0 rfl) ?_
      obtain ⟨t_1, et_1⟩ : ∃ y : Int32, y = (if t = 0 then x3 else (x5 + (1 : Int32))) := ⟨_, rfl⟩
      have h := bnd_at et_1 h
      have J : W p l e rm_Mo_place s m args below meth c H locs 0 0 Q (F0 m 59 ls [.int t_1]) := by
        refine lv_istore_n (lv' := [(3, .int t_1), (6, .int t), (5, .int x5), (0, .ref q_this), (1, .long x1), (4, .int x4)]) hx hb dX10_place_59 rfl hl (by decide) rfl (fun ls hl => ?_)
        refine lv_iload hx hb dX10_place_60 (lv_at hl 1 rfl) ?_
        obtain ⟨t_2, et_2⟩ : ∃ y : Int32, y = (if t = 0 then x5 else x4) := ⟨_, rfl⟩
        have h := bnd_at et_2 h
        have J : W p l e rm_Mo_place s m args below meth c H locs 0 0 Q (F0 m 72 ls [.int t_2]) := by
          refine lv_istore (lv' := [(4, .int t_2), (3, .int t_1), (6, .int t), (5, .int x5), (0, .ref q_this), (1, .long x1)]) hx hb dX10_place_72 hl (by decide) rfl (fun ls hl => ?_)
          refine lv_goto (tgt := 11) hx hb dX10_place_74 (by decide) ?_
          exact hrec _ _ _ _ _ h w (lv_sub hl [4, 5, 1, 0] rfl)
        refine lv_if_eq (tgt := 70) hx hb dX10_place_62 (by decide) (fun hc => ?_) (fun hc => ?_)
        · refine lv_iload hx hb dX10_place_70 (lv_at hl 2 rfl) ?_
          exact r_eqi (et_2.trans (if_pos hc)) J
        · refine lv_iload hx hb dX10_place_65 (lv_at hl 5 rfl) ?_
          refine lv_goto (tgt := 72) hx hb dX10_place_67 (by decide) ?_
          exact r_eqi (et_2.trans (if_neg hc)) J
      refine lv_if_eq (tgt := 58) hx hb dX10_place_48 (by decide) (fun hc => ?_) (fun hc => ?_)
      · refine lv_iload_n hx hb dX10_place_58 rfl (lv_at hl 4 rfl) ?_
        exact r_eqi (et_1.trans (if_pos hc)) J
      · refine lv_iload hx hb dX10_place_51 (lv_at hl 1 rfl) ?_
        refine lv_iconst (v := (1 : Int32)) hx hb dX10_place_53 (by decide) ?_
        refine lv_iadd hx hb dX10_place_54 ?_
        refine lv_goto (tgt := 59) hx hb dX10_place_55 (by decide) ?_
        exact r_eqi (et_1.trans (if_neg hc)) J
    refine r_lc_ge (tgt := 43) hx hb dX10_place_35 dX10_place_36 (by decide) (fun hc => ?_) (fun hc => ?_)
    · refine lv_iconst (v := (0 : Int32)) hx hb dX10_place_43 (by decide) ?_
      exact r_eqi (et.trans (if_neg hc)) J
    · refine lv_iconst (v := (1 : Int32)) hx hb dX10_place_39 (by decide) ?_
      refine lv_goto (tgt := 44) hx hb dX10_place_40 (by decide) ?_
      exact r_eqi (et.trans (if_pos hc)) J
set_option maxRecDepth 100000 in
theorem wl_Mo_place_L11 {p : Program} {l : Launch} {e : Env} {s : State} {m : MethodId} {args : Array Value} {below : List Frame} {meth : Method} {c : Code} {Q : State → Prop} {A : Nat → Prop} {D : va_G} {cI cJ cZ cO : ClassId} {q_this q_m q_saved q_w q_savedWords q_isSaved q_text q_far q_queue q_parent q_by q_seen q_path q_row q_more q_stateOf : Nat} {v_textLength : Int32} {v_steps : Int32} {v_missing : Int64} {v_mores : Int32} {v_hash : Int64} {v_m : (Nat → Int32)} {v_w : (Nat → Int64)} {x1 : Int64} {x : Int32} (C0 : Cx p s m args c A D cI cJ cZ cO cX10_place 7 RX10) (hQ : RtI p l e rm_Mo_place s m args below meth c Q A D cX10_place .int (ws_Mo_place cI cJ cZ q_this q_m q_saved q_w q_savedWords q_isSaved q_text q_far q_queue q_parent q_by q_seen q_path q_row q_more q_stateOf v_textLength v_steps v_missing v_mores v_hash v_m v_w) x) {K : Int32 → Int32 → Option (Int32)} (hK : ∀ (x3 : Int32) (x4 : Int32) (H : Heap) (locs : List Loc) (ls : Array Slot), K x3 x4 = some x → Wd s A D (ws_Mo_place cI cJ cZ q_this q_m q_saved q_w q_savedWords q_isSaved q_text q_far q_queue q_parent q_by q_seen q_path q_row q_more q_stateOf v_textLength v_steps v_missing v_mores v_hash v_m v_w) H locs → lv_has ls 7 [(3, .int x3)] → W p l e rm_Mo_place s m args below meth c H locs 0 0 Q (F0 m 77 ls [])) : ∀ (n : Nat) (x3 : Int32) (x4 : Int32) (H : Heap) (locs : List Loc) (ls : Array Slot), itr (fun _ _ => none) (f_Mo_place_L11 v_w x1 K) n x3 x4 = some x → Wd s A D (ws_Mo_place cI cJ cZ q_this q_m q_saved q_w q_savedWords q_isSaved q_text q_far q_queue q_parent q_by q_seen q_path q_row q_more q_stateOf v_textLength v_steps v_missing v_mores v_hash v_m v_w) H locs → lv_has ls 7 [(0, .ref q_this), (1, .long x1), (3, .int x3), (4, .int x4)] → W p l e rm_Mo_place s m args below meth c H locs 0 0 Q (F0 m 11 ls []) := by
  intro n
  induction n with
  | zero => intro _ _ _ _ _ h; cases (show none = some _ from h)
  | succ n ih => intro _ _ _ _ _ h w hl; exact w_Mo_place_L11 C0 hQ hK ih _ _ h w hl
set_option maxRecDepth 100000 in
theorem c_Mo_place {l : Launch} {D : va_G} {cI cJ cZ cO : ClassId} {q_this q_m q_saved q_w q_savedWords q_isSaved q_text q_far q_queue q_parent q_by q_seen q_path q_row q_more q_stateOf : Nat} {x1 : Int64} {v_textLength : Int32} {v_steps : Int32} {v_missing : Int64} {v_mores : Int32} {v_hash : Int64} {v_m : (Nat → Int32)} {v_w : (Nat → Int64)} {x : Int32} (h : f_Mo_place x1 v_m v_w = some x) : ctI l D cI cJ cZ cO yX10_place cX10_place 7 .int rm_Mo_place [.ref q_this, .long x1] (ws_Mo_place cI cJ cZ q_this q_m q_saved q_w q_savedWords q_isSaved q_text q_far q_queue q_parent q_by q_seen q_path q_row q_more q_stateOf v_textLength v_steps v_missing v_mores v_hash v_m v_w) (ws_Mo_place cI cJ cZ q_this q_m q_saved q_w q_savedWords q_isSaved q_text q_far q_queue q_parent q_by q_seen q_path q_row q_more q_stateOf v_textLength v_steps v_missing v_mores v_hash v_m v_w) x := by
  refine ctI_of (by decide) (Nat.le_of_ble_eq_true rfl) ?_
  intro p e s m below meth c Q A ls C0 hQ w hl
  have hl : lv_has ls 7 [(0, .ref q_this), (1, .long x1)] := hl
  generalize List.toArray (α := Value) [.ref q_this, .long x1] = args at C0 hQ ⊢
  obtain ⟨hx, hb, hml, hown, hts, -, -⟩ := id C0
  unfold f_Mo_place at h
  refine lv_iconst (v := (0 : Int32)) hx hb dX10_place_0 (by decide) ?_
  refine lv_istore_n (lv' := [(3, .int (0 : Int32)), (0, .ref q_this), (1, .long x1)]) hx hb dX10_place_1 rfl hl (by decide) rfl (fun ls hl => ?_)
  refine lv_aload_n hx hb dX10_place_2 rfl (lv_at hl 1 rfl) ?_
  refine r_get C0 w 0 rfl kf_Mo 0 (by decide) lf_RX10_7 rfl dX10_place_3 ?_
  refine lv_bipush (v := (37 : Int32)) hx hb dX10_place_6 (by decide) ?_
  refine r_iald C0 w 1 rfl (k := 37) (by decide) (inl (by decide)) dX10_place_8 ?_
  refine lv_topi (fun x4 ex4 => ?_)
  have h := bnd_at ex4 h
  refine lv_istore (lv' := [(4, .int x4), (3, .int (0 : Int32)), (0, .ref q_this), (1, .long x1)]) hx hb dX10_place_9 hl (by decide) rfl (fun ls hl => ?_)
  refine wl_Mo_place_L11 C0 hQ (fun x3 x4_1 H locs ls h w hl => ?_) _ _ _ _ _ _ h w (lv_sub hl [2, 3, 1, 0] rfl)
  refine lv_iload_n hx hb dX10_place_77 rfl (lv_at hl 0 rfl) ?_
  cases h
  exact hQ _ _ _ _ dX10_place_78 rfl w
theorem dX10_known_0 : decode cX10_known 0 = .ok (.aload_n 0, 1) := by decide +kernel
theorem dX10_known_1 : decode cX10_known 1 = .ok (.lload_n 1, 1) := by decide +kernel
theorem dX10_known_2 : decode cX10_known 2 = .ok (.invokevirtual 124, 3) := by decide +kernel
theorem dX10_known_5 : decode cX10_known 5 = .ok (.istore_n 3, 1) := by decide +kernel
theorem dX10_known_6 : decode cX10_known 6 = .ok (.iload_n 3, 1) := by decide +kernel
theorem dX10_known_7 : decode cX10_known 7 = .ok (.aload_n 0, 1) := by decide +kernel
theorem dX10_known_8 : decode cX10_known 8 = .ok (.getfield 7, 3) := by decide +kernel
theorem dX10_known_11 : decode cX10_known 11 = .ok (.bipush 37, 2) := by decide +kernel
theorem dX10_known_13 : decode cX10_known 13 = .ok (.iaload, 1) := by decide +kernel
theorem dX10_known_14 : decode cX10_known 14 = .ok (.if_icmp .ge 28, 3) := by decide +kernel
theorem dX10_known_17 : decode cX10_known 17 = .ok (.aload_n 0, 1) := by decide +kernel
theorem dX10_known_18 : decode cX10_known 18 = .ok (.getfield 16, 3) := by decide +kernel
theorem dX10_known_21 : decode cX10_known 21 = .ok (.iconst 4, 1) := by decide +kernel
theorem dX10_known_22 : decode cX10_known 22 = .ok (.iload_n 3, 1) := by decide +kernel
theorem dX10_known_23 : decode cX10_known 23 = .ok (.iadd, 1) := by decide +kernel
theorem dX10_known_24 : decode cX10_known 24 = .ok (.laload, 1) := by decide +kernel
theorem dX10_known_25 : decode cX10_known 25 = .ok (.lload_n 1, 1) := by decide +kernel
theorem dX10_known_26 : decode cX10_known 26 = .ok (.lcmp, 1) := by decide +kernel
theorem dX10_known_27 : decode cX10_known 27 = .ok (.ifCond .ne 15, 3) := by decide +kernel
theorem dX10_known_30 : decode cX10_known 30 = .ok (.aload_n 0, 1) := by decide +kernel
theorem dX10_known_31 : decode cX10_known 31 = .ok (.getfield 7, 3) := by decide +kernel
theorem dX10_known_34 : decode cX10_known 34 = .ok (.bipush 45, 2) := by decide +kernel
theorem dX10_known_36 : decode cX10_known 36 = .ok (.iload_n 3, 1) := by decide +kernel
theorem dX10_known_37 : decode cX10_known 37 = .ok (.iadd, 1) := by decide +kernel
theorem dX10_known_38 : decode cX10_known 38 = .ok (.iaload, 1) := by decide +kernel
theorem dX10_known_39 : decode cX10_known 39 = .ok (.goto 4, 3) := by decide +kernel
theorem dX10_known_42 : decode cX10_known 42 = .ok (.iconst (-1), 1) := by decide +kernel
theorem dX10_known_43 : decode cX10_known 43 = .ok (.ireturn, 1) := by decide +kernel
set_option maxRecDepth 100000 in
theorem c_Mo_known {l : Launch} {D : va_G} {cI cJ cZ cO : ClassId} {q_this q_m q_saved q_w q_savedWords q_isSaved q_text q_far q_queue q_parent q_by q_seen q_path q_row q_more q_stateOf : Nat} {x1 : Int64} {v_textLength : Int32} {v_steps : Int32} {v_missing : Int64} {v_mores : Int32} {v_hash : Int64} {v_m : (Nat → Int32)} {v_w : (Nat → Int64)} {x : Int32} (h : f_Mo_known x1 v_m v_w = some x) : ctI l D cI cJ cZ cO yX10_known cX10_known 4 .int rm_Mo_known [.ref q_this, .long x1] (ws_Mo_known cI cJ cZ q_this q_m q_saved q_w q_savedWords q_isSaved q_text q_far q_queue q_parent q_by q_seen q_path q_row q_more q_stateOf v_textLength v_steps v_missing v_mores v_hash v_m v_w) (ws_Mo_known cI cJ cZ q_this q_m q_saved q_w q_savedWords q_isSaved q_text q_far q_queue q_parent q_by q_seen q_path q_row q_more q_stateOf v_textLength v_steps v_missing v_mores v_hash v_m v_w) x := by
  refine ctI_of (by decide) (Nat.le_of_ble_eq_true rfl) ?_
  intro p e s m below meth c Q A ls C0 hQ w hl
  have hl : lv_has ls 4 [(0, .ref q_this), (1, .long x1)] := hl
  generalize List.toArray (α := Value) [.ref q_this, .long x1] = args at C0 hQ ⊢
  obtain ⟨hx, hb, hml, hown, hts, -, -⟩ := id C0
  unfold f_Mo_known at h
  refine lv_aload_n hx hb dX10_known_0 rfl (lv_at hl 0 rfl) ?_
  refine lv_lload_n hx hb dX10_known_1 rfl (lv_at hl 1 rfl) ?_
  obtain ⟨r, hcall, h⟩ := bd1_h h
  obtain ⟨wr, hp, hp'⟩ := rd_of (ws := (ws_Mo_known cI cJ cZ q_this q_m q_saved q_w q_savedWords q_isSaved q_text q_far q_queue q_parent q_by q_seen q_path q_row q_more q_stateOf v_textLength v_steps v_missing v_mores v_hash v_m v_w)) (wc := (ws_Mo_place cI cJ cZ q_this q_m q_saved q_w q_savedWords q_isSaved q_text q_far q_queue q_parent q_by q_seen q_path q_row q_more q_stateOf v_textLength v_steps v_missing v_mores v_hash v_m v_w)) [0, 1, 2] rfl rfl
  refine r_VI (r := r) (As := [.long x1]) (rest := []) (wc' := (ws_Mo_place cI cJ cZ q_this q_m q_saved q_w q_savedWords q_isSaved q_text q_far q_queue q_parent q_by q_seen q_path q_row q_more q_stateOf v_textLength v_steps v_missing v_mores v_hash v_m v_w)) (ws' := (ws_Mo_known cI cJ cZ q_this q_m q_saved q_w q_savedWords q_isSaved q_text q_far q_queue q_parent q_by q_seen q_path q_row q_more q_stateOf v_textLength v_steps v_missing v_mores v_hash v_m v_w)) C0 w (c_Mo_place hcall) hp hp' lm_RX10_124 mv_Mo_place ⟨rfl, rfl⟩ ⟨by decide, by decide⟩ ⟨Nat.zero_le _, Nat.zero_le _⟩ (q0 := 0) rfl rfl rfl rfl hl rfl (Nat.le_of_ble_eq_true rfl) dX10_known_2 (fun H locs w => ?_)
  refine lv_istore_n (lv' := [(3, .int r), (0, .ref q_this), (1, .long x1)]) hx hb dX10_known_5 rfl hl (by decide) rfl (fun ls hl => ?_)
  refine lv_iload_n hx hb dX10_known_6 rfl (lv_at hl 0 rfl) ?_
  refine lv_aload_n hx hb dX10_known_7 rfl (lv_at hl 1 rfl) ?_
  refine r_get C0 w 0 rfl kf_Mo 0 (by decide) lf_RX10_7 rfl dX10_known_8 ?_
  refine lv_bipush (v := (37 : Int32)) hx hb dX10_known_11 (by decide) ?_
  refine r_iald C0 w 1 rfl (k := 37) (by decide) (inl (by decide)) dX10_known_13 ?_
  refine lv_icmp_ge (tgt := 42) hx hb dX10_known_14 (by decide) (fun hc => ?_) (fun hc => ?_)
  · have h := if_h hc h
    refine lv_iconst (v := (-1 : Int32)) hx hb dX10_known_42 (by decide) ?_
    cases h
    exact hQ _ _ _ _ dX10_known_43 rfl w
  · have h := nf_h hc h
    refine lv_aload_n hx hb dX10_known_17 rfl (lv_at hl 1 rfl) ?_
    refine r_get C0 w 0 rfl kf_Mo 2 (by decide) lf_RX10_16 rfl dX10_known_18 ?_
    refine lv_iconst (v := (4 : Int32)) hx hb dX10_known_21 (by decide) ?_
    refine lv_iload_n hx hb dX10_known_22 rfl (lv_at hl 0 rfl) ?_
    refine lv_iadd hx hb dX10_known_23 ?_
    obtain ⟨hi, h⟩ := gIn_h h
    refine r_lald C0 w 2 rfl rfl hi dX10_known_24 ?_
    refine lv_lload_n hx hb dX10_known_25 rfl (lv_at hl 2 rfl) ?_
    refine r_lc_ne (tgt := 42) hx hb dX10_known_26 dX10_known_27 (by decide) (fun hc => ?_) (fun hc => ?_)
    · have h := nf_h hc h
      refine lv_iconst (v := (-1 : Int32)) hx hb dX10_known_42 (by decide) ?_
      cases h
      exact hQ _ _ _ _ dX10_known_43 rfl w
    · have h := if_h hc h
      refine lv_aload_n hx hb dX10_known_30 rfl (lv_at hl 1 rfl) ?_
      refine r_get C0 w 0 rfl kf_Mo 0 (by decide) lf_RX10_7 rfl dX10_known_31 ?_
      refine lv_bipush (v := (45 : Int32)) hx hb dX10_known_34 (by decide) ?_
      refine lv_iload_n hx hb dX10_known_36 rfl (lv_at hl 0 rfl) ?_
      refine lv_iadd hx hb dX10_known_37 ?_
      obtain ⟨hi, h⟩ := gIn_h h
      refine r_iald C0 w 1 rfl rfl hi dX10_known_38 ?_
      refine lv_goto (tgt := 43) hx hb dX10_known_39 (by decide) ?_
      cases h
      exact hQ _ _ _ _ dX10_known_43 rfl w
theorem dX10_asks_0 : decode cX10_asks 0 = .ok (.aload_n 0, 1) := by decide +kernel
theorem dX10_asks_1 : decode cX10_asks 1 = .ok (.lload_n 1, 1) := by decide +kernel
theorem dX10_asks_2 : decode cX10_asks 2 = .ok (.invokevirtual 127, 3) := by decide +kernel
theorem dX10_asks_5 : decode cX10_asks 5 = .ok (.istore_n 3, 1) := by decide +kernel
theorem dX10_asks_6 : decode cX10_asks 6 = .ok (.iload_n 3, 1) := by decide +kernel
theorem dX10_asks_7 : decode cX10_asks 7 = .ok (.iconst (-1), 1) := by decide +kernel
theorem dX10_asks_8 : decode cX10_asks 8 = .ok (.if_icmp .eq 5, 3) := by decide +kernel
theorem dX10_asks_11 : decode cX10_asks 11 = .ok (.iload_n 3, 1) := by decide +kernel
theorem dX10_asks_12 : decode cX10_asks 12 = .ok (.ireturn, 1) := by decide +kernel
theorem dX10_asks_13 : decode cX10_asks 13 = .ok (.aload_n 0, 1) := by decide +kernel
theorem dX10_asks_14 : decode cX10_asks 14 = .ok (.getfield 7, 3) := by decide +kernel
theorem dX10_asks_17 : decode cX10_asks 17 = .ok (.bipush 37, 2) := by decide +kernel
theorem dX10_asks_19 : decode cX10_asks 19 = .ok (.iaload, 1) := by decide +kernel
theorem dX10_asks_20 : decode cX10_asks 20 = .ok (.aload_n 0, 1) := by decide +kernel
theorem dX10_asks_21 : decode cX10_asks 21 = .ok (.getfield 7, 3) := by decide +kernel
theorem dX10_asks_24 : decode cX10_asks 24 = .ok (.bipush 36, 2) := by decide +kernel
theorem dX10_asks_26 : decode cX10_asks 26 = .ok (.iaload, 1) := by decide +kernel
theorem dX10_asks_27 : decode cX10_asks 27 = .ok (.if_icmp .lt 6, 3) := by decide +kernel
theorem dX10_asks_30 : decode cX10_asks 30 = .ok (.bipush (-4), 2) := by decide +kernel
theorem dX10_asks_32 : decode cX10_asks 32 = .ok (.ireturn, 1) := by decide +kernel
theorem dX10_asks_33 : decode cX10_asks 33 = .ok (.aload_n 0, 1) := by decide +kernel
theorem dX10_asks_34 : decode cX10_asks 34 = .ok (.lload_n 1, 1) := by decide +kernel
theorem dX10_asks_35 : decode cX10_asks 35 = .ok (.invokevirtual 124, 3) := by decide +kernel
theorem dX10_asks_38 : decode cX10_asks 38 = .ok (.istore 4, 2) := by decide +kernel
theorem dX10_asks_40 : decode cX10_asks 40 = .ok (.aload_n 0, 1) := by decide +kernel
theorem dX10_asks_41 : decode cX10_asks 41 = .ok (.getfield 7, 3) := by decide +kernel
theorem dX10_asks_44 : decode cX10_asks 44 = .ok (.bipush 37, 2) := by decide +kernel
theorem dX10_asks_46 : decode cX10_asks 46 = .ok (.iaload, 1) := by decide +kernel
theorem dX10_asks_47 : decode cX10_asks 47 = .ok (.istore 5, 2) := by decide +kernel
theorem dX10_asks_49 : decode cX10_asks 49 = .ok (.iload 5, 2) := by decide +kernel
theorem dX10_asks_51 : decode cX10_asks 51 = .ok (.iload 4, 2) := by decide +kernel
theorem dX10_asks_53 : decode cX10_asks 53 = .ok (.if_icmp .le 51, 3) := by decide +kernel
theorem dX10_asks_56 : decode cX10_asks 56 = .ok (.aload_n 0, 1) := by decide +kernel
theorem dX10_asks_57 : decode cX10_asks 57 = .ok (.getfield 16, 3) := by decide +kernel
theorem dX10_asks_60 : decode cX10_asks 60 = .ok (.iconst 4, 1) := by decide +kernel
theorem dX10_asks_61 : decode cX10_asks 61 = .ok (.iload 5, 2) := by decide +kernel
theorem dX10_asks_63 : decode cX10_asks 63 = .ok (.iadd, 1) := by decide +kernel
theorem dX10_asks_64 : decode cX10_asks 64 = .ok (.aload_n 0, 1) := by decide +kernel
theorem dX10_asks_65 : decode cX10_asks 65 = .ok (.getfield 16, 3) := by decide +kernel
theorem dX10_asks_68 : decode cX10_asks 68 = .ok (.iconst 4, 1) := by decide +kernel
theorem dX10_asks_69 : decode cX10_asks 69 = .ok (.iload 5, 2) := by decide +kernel
theorem dX10_asks_71 : decode cX10_asks 71 = .ok (.iadd, 1) := by decide +kernel
theorem dX10_asks_72 : decode cX10_asks 72 = .ok (.iconst 1, 1) := by decide +kernel
theorem dX10_asks_73 : decode cX10_asks 73 = .ok (.isub, 1) := by decide +kernel
theorem dX10_asks_74 : decode cX10_asks 74 = .ok (.laload, 1) := by decide +kernel
theorem dX10_asks_75 : decode cX10_asks 75 = .ok (.lastore, 1) := by decide +kernel
theorem dX10_asks_76 : decode cX10_asks 76 = .ok (.aload_n 0, 1) := by decide +kernel
theorem dX10_asks_77 : decode cX10_asks 77 = .ok (.getfield 7, 3) := by decide +kernel
theorem dX10_asks_80 : decode cX10_asks 80 = .ok (.bipush 45, 2) := by decide +kernel
theorem dX10_asks_82 : decode cX10_asks 82 = .ok (.iload 5, 2) := by decide +kernel
theorem dX10_asks_84 : decode cX10_asks 84 = .ok (.iadd, 1) := by decide +kernel
theorem dX10_asks_85 : decode cX10_asks 85 = .ok (.aload_n 0, 1) := by decide +kernel
theorem dX10_asks_86 : decode cX10_asks 86 = .ok (.getfield 7, 3) := by decide +kernel
theorem dX10_asks_89 : decode cX10_asks 89 = .ok (.bipush 45, 2) := by decide +kernel
theorem dX10_asks_91 : decode cX10_asks 91 = .ok (.iload 5, 2) := by decide +kernel
theorem dX10_asks_93 : decode cX10_asks 93 = .ok (.iadd, 1) := by decide +kernel
theorem dX10_asks_94 : decode cX10_asks 94 = .ok (.iconst 1, 1) := by decide +kernel
theorem dX10_asks_95 : decode cX10_asks 95 = .ok (.isub, 1) := by decide +kernel
theorem dX10_asks_96 : decode cX10_asks 96 = .ok (.iaload, 1) := by decide +kernel
theorem dX10_asks_97 : decode cX10_asks 97 = .ok (.iastore, 1) := by decide +kernel
theorem dX10_asks_98 : decode cX10_asks 98 = .ok (.iinc 5 (-1), 3) := by decide +kernel
theorem dX10_asks_101 : decode cX10_asks 101 = .ok (.goto (-52), 3) := by decide +kernel
theorem dX10_asks_104 : decode cX10_asks 104 = .ok (.aload_n 0, 1) := by decide +kernel
theorem dX10_asks_105 : decode cX10_asks 105 = .ok (.lload_n 1, 1) := by decide +kernel
theorem dX10_asks_106 : decode cX10_asks 106 = .ok (.invokevirtual 101, 3) := by decide +kernel
theorem dX10_asks_109 : decode cX10_asks 109 = .ok (.iconst (-1), 1) := by decide +kernel
theorem dX10_asks_110 : decode cX10_asks 110 = .ok (.if_icmp .ne 11, 3) := by decide +kernel
theorem dX10_asks_113 : decode cX10_asks 113 = .ok (.aload_n 0, 1) := by decide +kernel
theorem dX10_asks_114 : decode cX10_asks 114 = .ok (.lload_n 1, 1) := by decide +kernel
theorem dX10_asks_115 : decode cX10_asks 115 = .ok (.invokevirtual 121, 3) := by decide +kernel
theorem dX10_asks_118 : decode cX10_asks 118 = .ok (.goto 10, 3) := by decide +kernel
theorem dX10_asks_121 : decode cX10_asks 121 = .ok (.iconst 1, 1) := by decide +kernel
theorem dX10_asks_122 : decode cX10_asks 122 = .ok (.aload_n 0, 1) := by decide +kernel
theorem dX10_asks_123 : decode cX10_asks 123 = .ok (.lload_n 1, 1) := by decide +kernel
theorem dX10_asks_124 : decode cX10_asks 124 = .ok (.invokevirtual 121, 3) := by decide +kernel
theorem dX10_asks_127 : decode cX10_asks 127 = .ok (.isub, 1) := by decide +kernel
theorem dX10_asks_128 : decode cX10_asks 128 = .ok (.istore 5, 2) := by decide +kernel
theorem dX10_asks_130 : decode cX10_asks 130 = .ok (.aload_n 0, 1) := by decide +kernel
theorem dX10_asks_131 : decode cX10_asks 131 = .ok (.getfield 16, 3) := by decide +kernel
theorem dX10_asks_134 : decode cX10_asks 134 = .ok (.iconst 4, 1) := by decide +kernel
theorem dX10_asks_135 : decode cX10_asks 135 = .ok (.iload 4, 2) := by decide +kernel
theorem dX10_asks_137 : decode cX10_asks 137 = .ok (.iadd, 1) := by decide +kernel
theorem dX10_asks_138 : decode cX10_asks 138 = .ok (.lload_n 1, 1) := by decide +kernel
theorem dX10_asks_139 : decode cX10_asks 139 = .ok (.lastore, 1) := by decide +kernel
theorem dX10_asks_140 : decode cX10_asks 140 = .ok (.aload_n 0, 1) := by decide +kernel
theorem dX10_asks_141 : decode cX10_asks 141 = .ok (.getfield 7, 3) := by decide +kernel
theorem dX10_asks_144 : decode cX10_asks 144 = .ok (.bipush 45, 2) := by decide +kernel
theorem dX10_asks_146 : decode cX10_asks 146 = .ok (.iload 4, 2) := by decide +kernel
theorem dX10_asks_148 : decode cX10_asks 148 = .ok (.iadd, 1) := by decide +kernel
theorem dX10_asks_149 : decode cX10_asks 149 = .ok (.iload 5, 2) := by decide +kernel
theorem dX10_asks_151 : decode cX10_asks 151 = .ok (.iastore, 1) := by decide +kernel
theorem dX10_asks_152 : decode cX10_asks 152 = .ok (.aload_n 0, 1) := by decide +kernel
theorem dX10_asks_153 : decode cX10_asks 153 = .ok (.getfield 7, 3) := by decide +kernel
theorem dX10_asks_156 : decode cX10_asks 156 = .ok (.bipush 37, 2) := by decide +kernel
theorem dX10_asks_158 : decode cX10_asks 158 = .ok (.dup2, 1) := by decide +kernel
theorem dX10_asks_159 : decode cX10_asks 159 = .ok (.iaload, 1) := by decide +kernel
theorem dX10_asks_160 : decode cX10_asks 160 = .ok (.iconst 1, 1) := by decide +kernel
theorem dX10_asks_161 : decode cX10_asks 161 = .ok (.iadd, 1) := by decide +kernel
theorem dX10_asks_162 : decode cX10_asks 162 = .ok (.iastore, 1) := by decide +kernel
theorem dX10_asks_163 : decode cX10_asks 163 = .ok (.iload 5, 2) := by decide +kernel
theorem dX10_asks_165 : decode cX10_asks 165 = .ok (.ireturn, 1) := by decide +kernel
set_option maxRecDepth 100000 in
theorem w_Mo_asks_L49 {p : Program} {l : Launch} {e : Env} {s : State} {m : MethodId} {args : Array Value} {below : List Frame} {meth : Method} {c : Code} {Q : State → Prop} {A : Nat → Prop} {D : va_G} {cI cJ cZ cO : ClassId} {q_this q_m q_saved q_w q_savedWords q_isSaved q_text q_far q_queue q_parent q_by q_seen q_path q_row q_more q_stateOf : Nat} {v_textLength : Int32} {v_steps : Int32} {v_missing : Int64} {v_mores : Int32} {v_hash : Int64} {x1 : Int64} {x4 : Int32} {x : Int32 × (Nat → Int32) × (Nat → Int64)} (C0 : Cx p s m args c A D cI cJ cZ cO cX10_asks 6 RX10) (hQ : RtI p l e rm_Mo_asks s m args below meth c Q A D cX10_asks .int (ws_Mo_asks cI cJ cZ q_this q_m q_saved q_w q_savedWords q_isSaved q_text q_far q_queue q_parent q_by q_seen q_path q_row q_more q_stateOf v_textLength v_steps v_missing v_mores v_hash x.2.1 x.2.2) x.1) {K : Int32 → (Nat → Int32) → (Nat → Int64) → Option (Int32 × (Nat → Int32) × (Nat → Int64))} (hK : ∀ (x5 : Int32) (v_m : (Nat → Int32)) (v_w : (Nat → Int64)) (H : Heap) (locs : List Loc) (ls : Array Slot), K x5 v_m v_w = some x → Wd s A D (ws_Mo_asks cI cJ cZ q_this q_m q_saved q_w q_savedWords q_isSaved q_text q_far q_queue q_parent q_by q_seen q_path q_row q_more q_stateOf v_textLength v_steps v_missing v_mores v_hash v_m v_w) H locs → lv_has ls 6 [(0, .ref q_this), (1, .long x1), (4, .int x4)] → W p l e rm_Mo_asks s m args below meth c H locs 0 0 Q (F0 m 104 ls [])) {rec : Int32 → (Nat → Int32) → (Nat → Int64) → Option (Int32 × (Nat → Int32) × (Nat → Int64))} (hrec : ∀ (x5 : Int32) (v_m : (Nat → Int32)) (v_w : (Nat → Int64)) (H : Heap) (locs : List Loc) (ls : Array Slot), rec x5 v_m v_w = some x → Wd s A D (ws_Mo_asks cI cJ cZ q_this q_m q_saved q_w q_savedWords q_isSaved q_text q_far q_queue q_parent q_by q_seen q_path q_row q_more q_stateOf v_textLength v_steps v_missing v_mores v_hash v_m v_w) H locs → lv_has ls 6 [(0, .ref q_this), (1, .long x1), (4, .int x4), (5, .int x5)] → W p l e rm_Mo_asks s m args below meth c H locs 0 0 Q (F0 m 49 ls [])) (x5 : Int32) (v_m : (Nat → Int32)) (v_w : (Nat → Int64)) {H : Heap} {locs : List Loc} {ls : Array Slot} (h : f_Mo_asks_L49 x4 K rec x5 v_m v_w = some x) (w : Wd s A D (ws_Mo_asks cI cJ cZ q_this q_m q_saved q_w q_savedWords q_isSaved q_text q_far q_queue q_parent q_by q_seen q_path q_row q_more q_stateOf v_textLength v_steps v_missing v_mores v_hash v_m v_w) H locs) (hl : lv_has ls 6 [(0, .ref q_this), (1, .long x1), (4, .int x4), (5, .int x5)]) : W p l e rm_Mo_asks s m args below meth c H locs 0 0 Q (F0 m 49 ls []) := by
  obtain ⟨hx, hb, hml, hown, hts, -, -⟩ := id C0
  unfold f_Mo_asks_L49 at h
  refine lv_iload hx hb dX10_asks_49 (lv_at hl 3 rfl) ?_
  refine lv_iload hx hb dX10_asks_51 (lv_at hl 2 rfl) ?_
  refine lv_icmp_le (tgt := 104) hx hb dX10_asks_53 (by decide) (fun hc => ?_) (fun hc => ?_)
  · have h := if_h hc h
    exact hK _ _ _ _ _ _ h w (lv_sub hl [0, 1, 2] rfl)
  · have h := nf_h hc h
    refine lv_aload_n hx hb dX10_asks_56 rfl (lv_at hl 0 rfl) ?_
    refine r_get C0 w 0 rfl kf_Mo 2 (by decide) lf_RX10_16 rfl dX10_asks_57 ?_
    refine lv_iconst (v := (4 : Int32)) hx hb dX10_asks_60 (by decide) ?_
    refine lv_iload hx hb dX10_asks_61 (lv_at hl 3 rfl) ?_
    refine lv_iadd hx hb dX10_asks_63 ?_
    refine lv_aload_n hx hb dX10_asks_64 rfl (lv_at hl 0 rfl) ?_
    refine r_get C0 w 0 rfl kf_Mo 2 (by decide) lf_RX10_16 rfl dX10_asks_65 ?_
    refine lv_iconst (v := (4 : Int32)) hx hb dX10_asks_68 (by decide) ?_
    refine lv_iload hx hb dX10_asks_69 (lv_at hl 3 rfl) ?_
    refine lv_iadd hx hb dX10_asks_71 ?_
    refine lv_iconst (v := (1 : Int32)) hx hb dX10_asks_72 (by decide) ?_
    refine lv_isub hx hb dX10_asks_73 ?_
    obtain ⟨hi, h⟩ := gIn_h h
    refine r_lald C0 w 2 rfl rfl hi dX10_asks_74 ?_
    obtain ⟨hi, h⟩ := gIn_h h
    obtain ⟨v_w_1, ev_w_1⟩ : ∃ y, y = (vp_updL v_w ((4 : Int32) + x5).toNatClampNeg (v_w (((4 : Int32) + x5) - (1 : Int32)).toNatClampNeg)) := ⟨_, rfl⟩
    have h := bnd_at ev_w_1 h
    refine r_last C0 w 2 rfl (f' := v_w_1) rfl hi ev_w_1 dX10_asks_75 (ws' := (ws_Mo_asks cI cJ cZ q_this q_m q_saved q_w q_savedWords q_isSaved q_text q_far q_queue q_parent q_by q_seen q_path q_row q_more q_stateOf v_textLength v_steps v_missing v_mores v_hash v_m v_w_1)) rfl (fun H locs w => ?_)
    refine lv_aload_n hx hb dX10_asks_76 rfl (lv_at hl 0 rfl) ?_
    refine r_get C0 w 0 rfl kf_Mo 0 (by decide) lf_RX10_7 rfl dX10_asks_77 ?_
    refine lv_bipush (v := (45 : Int32)) hx hb dX10_asks_80 (by decide) ?_
    refine lv_iload hx hb dX10_asks_82 (lv_at hl 3 rfl) ?_
    refine lv_iadd hx hb dX10_asks_84 ?_
    refine lv_aload_n hx hb dX10_asks_85 rfl (lv_at hl 0 rfl) ?_
    refine r_get C0 w 0 rfl kf_Mo 0 (by decide) lf_RX10_7 rfl dX10_asks_86 ?_
    refine lv_bipush (v := (45 : Int32)) hx hb dX10_asks_89 (by decide) ?_
    refine lv_iload hx hb dX10_asks_91 (lv_at hl 3 rfl) ?_
    refine lv_iadd hx hb dX10_asks_93 ?_
    refine lv_iconst (v := (1 : Int32)) hx hb dX10_asks_94 (by decide) ?_
    refine lv_isub hx hb dX10_asks_95 ?_
    obtain ⟨hi, h⟩ := gIn_h h
    refine r_iald C0 w 1 rfl rfl hi dX10_asks_96 ?_
    obtain ⟨hi, h⟩ := gIn_h h
    obtain ⟨v_m_1, ev_m_1⟩ : ∃ y, y = (upd v_m ((45 : Int32) + x5).toNatClampNeg (v_m (((45 : Int32) + x5) - (1 : Int32)).toNatClampNeg)) := ⟨_, rfl⟩
    have h := bnd_at ev_m_1 h
    refine r_iast C0 w 1 rfl (f' := v_m_1) rfl hi ev_m_1 dX10_asks_97 (ws' := (ws_Mo_asks cI cJ cZ q_this q_m q_saved q_w q_savedWords q_isSaved q_text q_far q_queue q_parent q_by q_seen q_path q_row q_more q_stateOf v_textLength v_steps v_missing v_mores v_hash v_m_1 v_w_1)) rfl (fun H locs w => ?_)
    obtain ⟨x5_1, ex5_1⟩ : ∃ y : Int32, y = (x5 + (-1)) := ⟨_, rfl⟩
    have h := bnd_at ex5_1 h
    refine lv_iinc (v := x5_1) (lv' := [(5, .int x5_1), (0, .ref q_this), (1, .long x1), (4, .int x4)]) hx hb dX10_asks_98 hl (k := 3) rfl (by rw [ex5_1]; rfl) (by decide) rfl (fun ls hl => ?_)
    refine lv_goto (tgt := 49) hx hb dX10_asks_101 (by decide) ?_
    exact hrec _ _ _ _ _ _ h w (lv_sub hl [1, 2, 3, 0] rfl)
set_option maxRecDepth 100000 in
theorem wl_Mo_asks_L49 {p : Program} {l : Launch} {e : Env} {s : State} {m : MethodId} {args : Array Value} {below : List Frame} {meth : Method} {c : Code} {Q : State → Prop} {A : Nat → Prop} {D : va_G} {cI cJ cZ cO : ClassId} {q_this q_m q_saved q_w q_savedWords q_isSaved q_text q_far q_queue q_parent q_by q_seen q_path q_row q_more q_stateOf : Nat} {v_textLength : Int32} {v_steps : Int32} {v_missing : Int64} {v_mores : Int32} {v_hash : Int64} {x1 : Int64} {x4 : Int32} {x : Int32 × (Nat → Int32) × (Nat → Int64)} (C0 : Cx p s m args c A D cI cJ cZ cO cX10_asks 6 RX10) (hQ : RtI p l e rm_Mo_asks s m args below meth c Q A D cX10_asks .int (ws_Mo_asks cI cJ cZ q_this q_m q_saved q_w q_savedWords q_isSaved q_text q_far q_queue q_parent q_by q_seen q_path q_row q_more q_stateOf v_textLength v_steps v_missing v_mores v_hash x.2.1 x.2.2) x.1) {K : Int32 → (Nat → Int32) → (Nat → Int64) → Option (Int32 × (Nat → Int32) × (Nat → Int64))} (hK : ∀ (x5 : Int32) (v_m : (Nat → Int32)) (v_w : (Nat → Int64)) (H : Heap) (locs : List Loc) (ls : Array Slot), K x5 v_m v_w = some x → Wd s A D (ws_Mo_asks cI cJ cZ q_this q_m q_saved q_w q_savedWords q_isSaved q_text q_far q_queue q_parent q_by q_seen q_path q_row q_more q_stateOf v_textLength v_steps v_missing v_mores v_hash v_m v_w) H locs → lv_has ls 6 [(0, .ref q_this), (1, .long x1), (4, .int x4)] → W p l e rm_Mo_asks s m args below meth c H locs 0 0 Q (F0 m 104 ls [])) : ∀ (n : Nat) (x5 : Int32) (v_m : (Nat → Int32)) (v_w : (Nat → Int64)) (H : Heap) (locs : List Loc) (ls : Array Slot), itr (fun _ _ _ => none) (f_Mo_asks_L49 x4 K) n x5 v_m v_w = some x → Wd s A D (ws_Mo_asks cI cJ cZ q_this q_m q_saved q_w q_savedWords q_isSaved q_text q_far q_queue q_parent q_by q_seen q_path q_row q_more q_stateOf v_textLength v_steps v_missing v_mores v_hash v_m v_w) H locs → lv_has ls 6 [(0, .ref q_this), (1, .long x1), (4, .int x4), (5, .int x5)] → W p l e rm_Mo_asks s m args below meth c H locs 0 0 Q (F0 m 49 ls []) := by
  intro n
  induction n with
  | zero => intro _ _ _ _ _ _ h; cases (show none = some _ from h)
  | succ n ih => intro _ _ _ _ _ _ h w hl; exact w_Mo_asks_L49 C0 hQ hK ih _ _ _ h w hl
set_option maxRecDepth 100000 in
theorem w_Mo_asks_J128 {p : Program} {l : Launch} {e : Env} {s : State} {m : MethodId} {args : Array Value} {below : List Frame} {meth : Method} {c : Code} {Q : State → Prop} {A : Nat → Prop} {D : va_G} {cI cJ cZ cO : ClassId} {q_this q_m q_saved q_w q_savedWords q_isSaved q_text q_far q_queue q_parent q_by q_seen q_path q_row q_more q_stateOf : Nat} {v_textLength : Int32} {v_steps : Int32} {v_missing : Int64} {v_mores : Int32} {v_hash : Int64} {v_m : (Nat → Int32)} {v_w : (Nat → Int64)} {x : Int32 × (Nat → Int32) × (Nat → Int64)} {x1 : Int64} {x4 : Int32} {s0 : Int32} (C0 : Cx p s m args c A D cI cJ cZ cO cX10_asks 6 RX10) (hQ : RtI p l e rm_Mo_asks s m args below meth c Q A D cX10_asks .int (ws_Mo_asks cI cJ cZ q_this q_m q_saved q_w q_savedWords q_isSaved q_text q_far q_queue q_parent q_by q_seen q_path q_row q_more q_stateOf v_textLength v_steps v_missing v_mores v_hash x.2.1 x.2.2) x.1) {H : Heap} {locs : List Loc} {ls : Array Slot} (h : f_Mo_asks_J128 x1 x4 s0 v_m v_w = some x) (w : Wd s A D (ws_Mo_asks cI cJ cZ q_this q_m q_saved q_w q_savedWords q_isSaved q_text q_far q_queue q_parent q_by q_seen q_path q_row q_more q_stateOf v_textLength v_steps v_missing v_mores v_hash v_m v_w) H locs) (hl : lv_has ls 6 [(0, .ref q_this), (1, .long x1), (4, .int x4)]) : W p l e rm_Mo_asks s m args below meth c H locs 0 0 Q (F0 m 128 ls [.int s0]) := by
  obtain ⟨hx, hb, hml, hown, hts, -, -⟩ := id C0
  unfold f_Mo_asks_J128 at h
  refine lv_istore (lv' := [(5, .int s0), (0, .ref q_this), (1, .long x1), (4, .int x4)]) hx hb dX10_asks_128 hl (by decide) rfl (fun ls hl => ?_)
  refine lv_aload_n hx hb dX10_asks_130 rfl (lv_at hl 1 rfl) ?_
  refine r_get C0 w 0 rfl kf_Mo 2 (by decide) lf_RX10_16 rfl dX10_asks_131 ?_
  refine lv_iconst (v := (4 : Int32)) hx hb dX10_asks_134 (by decide) ?_
  refine lv_iload hx hb dX10_asks_135 (lv_at hl 3 rfl) ?_
  refine lv_iadd hx hb dX10_asks_137 ?_
  refine lv_lload_n hx hb dX10_asks_138 rfl (lv_at hl 2 rfl) ?_
  obtain ⟨hi, h⟩ := gIn_h h
  obtain ⟨v_w_1, ev_w_1⟩ : ∃ y, y = (vp_updL v_w ((4 : Int32) + x4).toNatClampNeg x1) := ⟨_, rfl⟩
  have h := bnd_at ev_w_1 h
  refine r_last C0 w 2 rfl (f' := v_w_1) rfl hi ev_w_1 dX10_asks_139 (ws' := (ws_Mo_asks cI cJ cZ q_this q_m q_saved q_w q_savedWords q_isSaved q_text q_far q_queue q_parent q_by q_seen q_path q_row q_more q_stateOf v_textLength v_steps v_missing v_mores v_hash v_m v_w_1)) rfl (fun H locs w => ?_)
  refine lv_aload_n hx hb dX10_asks_140 rfl (lv_at hl 1 rfl) ?_
  refine r_get C0 w 0 rfl kf_Mo 0 (by decide) lf_RX10_7 rfl dX10_asks_141 ?_
  refine lv_bipush (v := (45 : Int32)) hx hb dX10_asks_144 (by decide) ?_
  refine lv_iload hx hb dX10_asks_146 (lv_at hl 3 rfl) ?_
  refine lv_iadd hx hb dX10_asks_148 ?_
  refine lv_iload hx hb dX10_asks_149 (lv_at hl 0 rfl) ?_
  obtain ⟨hi, h⟩ := gIn_h h
  obtain ⟨v_m_1, ev_m_1⟩ : ∃ y, y = (upd v_m ((45 : Int32) + x4).toNatClampNeg s0) := ⟨_, rfl⟩
  have h := bnd_at ev_m_1 h
  refine r_iast C0 w 1 rfl (f' := v_m_1) rfl hi ev_m_1 dX10_asks_151 (ws' := (ws_Mo_asks cI cJ cZ q_this q_m q_saved q_w q_savedWords q_isSaved q_text q_far q_queue q_parent q_by q_seen q_path q_row q_more q_stateOf v_textLength v_steps v_missing v_mores v_hash v_m_1 v_w_1)) rfl (fun H locs w => ?_)
  refine lv_aload_n hx hb dX10_asks_152 rfl (lv_at hl 1 rfl) ?_
  refine r_get C0 w 0 rfl kf_Mo 0 (by decide) lf_RX10_7 rfl dX10_asks_153 ?_
  refine lv_bipush (v := (37 : Int32)) hx hb dX10_asks_156 (by decide) ?_
  refine lv_dup2_11 hx hb dX10_asks_158 rfl rfl ?_
  refine r_iald C0 w 1 rfl (k := 37) (by decide) (inl (by decide)) dX10_asks_159 ?_
  refine lv_iconst (v := (1 : Int32)) hx hb dX10_asks_160 (by decide) ?_
  refine lv_iadd hx hb dX10_asks_161 ?_
  obtain ⟨v_m_2, ev_m_2⟩ : ∃ y, y = (upd v_m_1 37 ((v_m_1 37) + (1 : Int32))) := ⟨_, rfl⟩
  have h := bnd_at ev_m_2 h
  refine r_iast C0 w 1 rfl (f' := v_m_2) (k := 37) (by decide) (inl (by decide)) ev_m_2 dX10_asks_162 (ws' := (ws_Mo_asks cI cJ cZ q_this q_m q_saved q_w q_savedWords q_isSaved q_text q_far q_queue q_parent q_by q_seen q_path q_row q_more q_stateOf v_textLength v_steps v_missing v_mores v_hash v_m_2 v_w_1)) rfl (fun H locs w => ?_)
  refine lv_iload hx hb dX10_asks_163 (lv_at hl 0 rfl) ?_
  cases h
  exact hQ _ _ _ _ dX10_asks_165 rfl w
set_option maxRecDepth 100000 in
theorem c_Mo_asks {l : Launch} {D : va_G} {cI cJ cZ cO : ClassId} {q_this q_m q_saved q_w q_savedWords q_isSaved q_text q_far q_queue q_parent q_by q_seen q_path q_row q_more q_stateOf : Nat} {x1 : Int64} {v_textLength : Int32} {v_steps : Int32} {v_missing : Int64} {v_mores : Int32} {v_hash : Int64} {v_m : (Nat → Int32)} {v_w : (Nat → Int64)} {x : Int32 × (Nat → Int32) × (Nat → Int64)} (h : f_Mo_asks x1 v_m v_w = some x) : ctI l D cI cJ cZ cO yX10_asks cX10_asks 6 .int rm_Mo_asks [.ref q_this, .long x1] (ws_Mo_asks cI cJ cZ q_this q_m q_saved q_w q_savedWords q_isSaved q_text q_far q_queue q_parent q_by q_seen q_path q_row q_more q_stateOf v_textLength v_steps v_missing v_mores v_hash v_m v_w) (ws_Mo_asks cI cJ cZ q_this q_m q_saved q_w q_savedWords q_isSaved q_text q_far q_queue q_parent q_by q_seen q_path q_row q_more q_stateOf v_textLength v_steps v_missing v_mores v_hash x.2.1 x.2.2) x.1 := by
  refine ctI_of (by decide) (Nat.le_of_ble_eq_true rfl) ?_
  intro p e s m below meth c Q A ls C0 hQ w hl
  have hl : lv_has ls 6 [(0, .ref q_this), (1, .long x1)] := hl
  generalize List.toArray (α := Value) [.ref q_this, .long x1] = args at C0 hQ ⊢
  obtain ⟨hx, hb, hml, hown, hts, -, -⟩ := id C0
  unfold f_Mo_asks at h
  refine lv_aload_n hx hb dX10_asks_0 rfl (lv_at hl 0 rfl) ?_
  refine lv_lload_n hx hb dX10_asks_1 rfl (lv_at hl 1 rfl) ?_
  obtain ⟨r, hcall, h⟩ := bd1_h h
  obtain ⟨wr, hp, hp'⟩ := rd_of (ws := (ws_Mo_asks cI cJ cZ q_this q_m q_saved q_w q_savedWords q_isSaved q_text q_far q_queue q_parent q_by q_seen q_path q_row q_more q_stateOf v_textLength v_steps v_missing v_mores v_hash v_m v_w)) (wc := (ws_Mo_known cI cJ cZ q_this q_m q_saved q_w q_savedWords q_isSaved q_text q_far q_queue q_parent q_by q_seen q_path q_row q_more q_stateOf v_textLength v_steps v_missing v_mores v_hash v_m v_w)) [0, 1, 2] rfl rfl
  refine r_VI (r := r) (As := [.long x1]) (rest := []) (wc' := (ws_Mo_known cI cJ cZ q_this q_m q_saved q_w q_savedWords q_isSaved q_text q_far q_queue q_parent q_by q_seen q_path q_row q_more q_stateOf v_textLength v_steps v_missing v_mores v_hash v_m v_w)) (ws' := (ws_Mo_asks cI cJ cZ q_this q_m q_saved q_w q_savedWords q_isSaved q_text q_far q_queue q_parent q_by q_seen q_path q_row q_more q_stateOf v_textLength v_steps v_missing v_mores v_hash v_m v_w)) C0 w (c_Mo_known hcall) hp hp' lm_RX10_127 mv_Mo_known ⟨rfl, rfl⟩ ⟨by decide, by decide⟩ ⟨Nat.zero_le _, Nat.zero_le _⟩ (q0 := 0) rfl rfl rfl rfl hl rfl (Nat.le_of_ble_eq_true rfl) dX10_asks_2 (fun H locs w => ?_)
  refine lv_istore_n (lv' := [(3, .int r), (0, .ref q_this), (1, .long x1)]) hx hb dX10_asks_5 rfl hl (by decide) rfl (fun ls hl => ?_)
  refine lv_iload_n hx hb dX10_asks_6 rfl (lv_at hl 0 rfl) ?_
  refine lv_iconst (v := (-1 : Int32)) hx hb dX10_asks_7 (by decide) ?_
  refine lv_icmp_eq (tgt := 13) hx hb dX10_asks_8 (by decide) (fun hc => ?_) (fun hc => ?_)
  · have h := if_h hc h
    refine lv_aload_n hx hb dX10_asks_13 rfl (lv_at hl 1 rfl) ?_
    refine r_get C0 w 0 rfl kf_Mo 0 (by decide) lf_RX10_7 rfl dX10_asks_14 ?_
    refine lv_bipush (v := (37 : Int32)) hx hb dX10_asks_17 (by decide) ?_
    refine r_iald C0 w 1 rfl (k := 37) (by decide) (inl (by decide)) dX10_asks_19 ?_
    refine lv_aload_n hx hb dX10_asks_20 rfl (lv_at hl 1 rfl) ?_
    refine r_get C0 w 0 rfl kf_Mo 0 (by decide) lf_RX10_7 rfl dX10_asks_21 ?_
    refine lv_bipush (v := (36 : Int32)) hx hb dX10_asks_24 (by decide) ?_
    refine r_iald C0 w 1 rfl (k := 36) (by decide) (inl (by decide)) dX10_asks_26 ?_
    refine lv_icmp_lt (tgt := 33) hx hb dX10_asks_27 (by decide) (fun hc => ?_) (fun hc => ?_)
    · have h := if_h hc h
      refine lv_aload_n hx hb dX10_asks_33 rfl (lv_at hl 1 rfl) ?_
      refine lv_lload_n hx hb dX10_asks_34 rfl (lv_at hl 2 rfl) ?_
      obtain ⟨r_1, hcall, h⟩ := bd1_h h
      obtain ⟨wr, hp, hp'⟩ := rd_of (ws := (ws_Mo_asks cI cJ cZ q_this q_m q_saved q_w q_savedWords q_isSaved q_text q_far q_queue q_parent q_by q_seen q_path q_row q_more q_stateOf v_textLength v_steps v_missing v_mores v_hash v_m v_w)) (wc := (ws_Mo_place cI cJ cZ q_this q_m q_saved q_w q_savedWords q_isSaved q_text q_far q_queue q_parent q_by q_seen q_path q_row q_more q_stateOf v_textLength v_steps v_missing v_mores v_hash v_m v_w)) [0, 1, 2] rfl rfl
      refine r_VI (r := r_1) (As := [.long x1]) (rest := []) (wc' := (ws_Mo_place cI cJ cZ q_this q_m q_saved q_w q_savedWords q_isSaved q_text q_far q_queue q_parent q_by q_seen q_path q_row q_more q_stateOf v_textLength v_steps v_missing v_mores v_hash v_m v_w)) (ws' := (ws_Mo_asks cI cJ cZ q_this q_m q_saved q_w q_savedWords q_isSaved q_text q_far q_queue q_parent q_by q_seen q_path q_row q_more q_stateOf v_textLength v_steps v_missing v_mores v_hash v_m v_w)) C0 w (c_Mo_place hcall) hp hp' lm_RX10_124 mv_Mo_place ⟨rfl, rfl⟩ ⟨by decide, by decide⟩ ⟨Nat.zero_le _, Nat.zero_le _⟩ (q0 := 0) rfl rfl rfl rfl hl rfl (Nat.le_of_ble_eq_true rfl) dX10_asks_35 (fun H locs w => ?_)
      refine lv_istore (lv' := [(4, .int r_1), (3, .int r), (0, .ref q_this), (1, .long x1)]) hx hb dX10_asks_38 hl (by decide) rfl (fun ls hl => ?_)
      refine lv_aload_n hx hb dX10_asks_40 rfl (lv_at hl 2 rfl) ?_
      refine r_get C0 w 0 rfl kf_Mo 0 (by decide) lf_RX10_7 rfl dX10_asks_41 ?_
      refine lv_bipush (v := (37 : Int32)) hx hb dX10_asks_44 (by decide) ?_
      refine r_iald C0 w 1 rfl (k := 37) (by decide) (inl (by decide)) dX10_asks_46 ?_
      refine lv_topi (fun x5 ex5 => ?_)
      have h := bnd_at ex5 h
      refine lv_istore (lv' := [(5, .int x5), (4, .int r_1), (3, .int r), (0, .ref q_this), (1, .long x1)]) hx hb dX10_asks_47 hl (by decide) rfl (fun ls hl => ?_)
      refine wl_Mo_asks_L49 C0 hQ (fun x5_1 v_m_1 v_w_1 H locs ls h w hl => ?_) _ _ _ _ _ _ _ h w (lv_sub hl [3, 4, 1, 0] rfl)
      refine lv_aload_n hx hb dX10_asks_104 rfl (lv_at hl 0 rfl) ?_
      refine lv_lload_n hx hb dX10_asks_105 rfl (lv_at hl 1 rfl) ?_
      obtain ⟨r_2, hcall, h⟩ := bd1_h h
      obtain ⟨wr, hp, hp'⟩ := rd_of (ws := (ws_Mo_asks cI cJ cZ q_this q_m q_saved q_w q_savedWords q_isSaved q_text q_far q_queue q_parent q_by q_seen q_path q_row q_more q_stateOf v_textLength v_steps v_missing v_mores v_hash v_m_1 v_w_1)) (wc := (ws_Mo_lieOf cI cJ cZ q_this q_m q_saved q_w q_savedWords q_isSaved q_text q_far q_queue q_parent q_by q_seen q_path q_row q_more q_stateOf v_textLength v_steps v_missing v_mores v_hash v_m_1 v_w_1)) [0, 1, 2] rfl rfl
      refine r_VI (r := r_2) (As := [.long x1]) (rest := []) (wc' := (ws_Mo_lieOf cI cJ cZ q_this q_m q_saved q_w q_savedWords q_isSaved q_text q_far q_queue q_parent q_by q_seen q_path q_row q_more q_stateOf v_textLength v_steps v_missing v_mores v_hash v_m_1 v_w_1)) (ws' := (ws_Mo_asks cI cJ cZ q_this q_m q_saved q_w q_savedWords q_isSaved q_text q_far q_queue q_parent q_by q_seen q_path q_row q_more q_stateOf v_textLength v_steps v_missing v_mores v_hash v_m_1 v_w_1)) C0 w (c_Mo_lieOf hcall) hp hp' lm_RX10_101 mv_Mo_lieOf ⟨rfl, rfl⟩ ⟨by decide, by decide⟩ ⟨Nat.zero_le _, Nat.zero_le _⟩ (q0 := 0) rfl rfl rfl rfl hl rfl (Nat.le_of_ble_eq_true rfl) dX10_asks_106 (fun H locs w => ?_)
      refine lv_iconst (v := (-1 : Int32)) hx hb dX10_asks_109 (by decide) ?_
      refine lv_icmp_ne (tgt := 121) hx hb dX10_asks_110 (by decide) (fun hc => ?_) (fun hc => ?_)
      · have h := nf_h hc h
        refine lv_iconst (v := (1 : Int32)) hx hb dX10_asks_121 (by decide) ?_
        refine lv_aload_n hx hb dX10_asks_122 rfl (lv_at hl 0 rfl) ?_
        refine lv_lload_n hx hb dX10_asks_123 rfl (lv_at hl 1 rfl) ?_
        obtain ⟨r_3, hcall, h⟩ := bd1_h h
        obtain ⟨wr, hp, hp'⟩ := rd_of (ws := (ws_Mo_asks cI cJ cZ q_this q_m q_saved q_w q_savedWords q_isSaved q_text q_far q_queue q_parent q_by q_seen q_path q_row q_more q_stateOf v_textLength v_steps v_missing v_mores v_hash v_m_1 v_w_1)) (wc := (ws_Mo_truth cI cJ cZ q_this q_m q_saved q_w q_savedWords q_isSaved q_text q_far q_queue q_parent q_by q_seen q_path q_row q_more q_stateOf v_textLength v_steps v_missing v_mores v_hash v_m_1)) [0, 1] rfl rfl
        refine r_VI (r := r_3) (As := [.long x1]) (rest := [.int (1 : Int32)]) (wc' := (ws_Mo_truth cI cJ cZ q_this q_m q_saved q_w q_savedWords q_isSaved q_text q_far q_queue q_parent q_by q_seen q_path q_row q_more q_stateOf v_textLength v_steps v_missing v_mores v_hash v_m_1)) (ws' := (ws_Mo_asks cI cJ cZ q_this q_m q_saved q_w q_savedWords q_isSaved q_text q_far q_queue q_parent q_by q_seen q_path q_row q_more q_stateOf v_textLength v_steps v_missing v_mores v_hash v_m_1 v_w_1)) C0 w (c_Mo_truth hcall) hp hp' lm_RX10_121 mv_Mo_truth ⟨rfl, rfl⟩ ⟨by decide, by decide⟩ ⟨Nat.zero_le _, Nat.zero_le _⟩ (q0 := 0) rfl rfl rfl rfl hl rfl (Nat.le_of_ble_eq_true rfl) dX10_asks_124 (fun H locs w => ?_)
        refine lv_isub hx hb dX10_asks_127 ?_
        exact w_Mo_asks_J128 C0 hQ h w (lv_sub hl [0, 1, 2] rfl)
      · have h := if_h hc h
        refine lv_aload_n hx hb dX10_asks_113 rfl (lv_at hl 0 rfl) ?_
        refine lv_lload_n hx hb dX10_asks_114 rfl (lv_at hl 1 rfl) ?_
        obtain ⟨r_4, hcall, h⟩ := bd1_h h
        obtain ⟨wr, hp, hp'⟩ := rd_of (ws := (ws_Mo_asks cI cJ cZ q_this q_m q_saved q_w q_savedWords q_isSaved q_text q_far q_queue q_parent q_by q_seen q_path q_row q_more q_stateOf v_textLength v_steps v_missing v_mores v_hash v_m_1 v_w_1)) (wc := (ws_Mo_truth cI cJ cZ q_this q_m q_saved q_w q_savedWords q_isSaved q_text q_far q_queue q_parent q_by q_seen q_path q_row q_more q_stateOf v_textLength v_steps v_missing v_mores v_hash v_m_1)) [0, 1] rfl rfl
        refine r_VI (r := r_4) (As := [.long x1]) (rest := []) (wc' := (ws_Mo_truth cI cJ cZ q_this q_m q_saved q_w q_savedWords q_isSaved q_text q_far q_queue q_parent q_by q_seen q_path q_row q_more q_stateOf v_textLength v_steps v_missing v_mores v_hash v_m_1)) (ws' := (ws_Mo_asks cI cJ cZ q_this q_m q_saved q_w q_savedWords q_isSaved q_text q_far q_queue q_parent q_by q_seen q_path q_row q_more q_stateOf v_textLength v_steps v_missing v_mores v_hash v_m_1 v_w_1)) C0 w (c_Mo_truth hcall) hp hp' lm_RX10_121 mv_Mo_truth ⟨rfl, rfl⟩ ⟨by decide, by decide⟩ ⟨Nat.zero_le _, Nat.zero_le _⟩ (q0 := 0) rfl rfl rfl rfl hl rfl (Nat.le_of_ble_eq_true rfl) dX10_asks_115 (fun H locs w => ?_)
        refine lv_goto (tgt := 128) hx hb dX10_asks_118 (by decide) ?_
        exact w_Mo_asks_J128 C0 hQ h w (lv_sub hl [0, 1, 2] rfl)
    · have h := nf_h hc h
      refine lv_bipush (v := (-4 : Int32)) hx hb dX10_asks_30 (by decide) ?_
      cases h
      exact hQ _ _ _ _ dX10_asks_32 rfl w
  · have h := nf_h hc h
    refine lv_iload_n hx hb dX10_asks_11 rfl (lv_at hl 0 rfl) ?_
    cases h
    exact hQ _ _ _ _ dX10_asks_12 rfl w
theorem dX10_begin_0 : decode cX10_begin 0 = .ok (.iload_n 1, 1) := by decide +kernel
theorem dX10_begin_1 : decode cX10_begin 1 = .ok (.iconst 0, 1) := by decide +kernel
theorem dX10_begin_2 : decode cX10_begin 2 = .ok (.iconst 2, 1) := by decide +kernel
theorem dX10_begin_3 : decode cX10_begin 3 = .ok (.invokestatic 76, 3) := by decide +kernel
theorem dX10_begin_6 : decode cX10_begin 6 = .ok (.ifCond .eq 14, 3) := by decide +kernel
theorem dX10_begin_9 : decode cX10_begin 9 = .ok (.iload_n 2, 1) := by decide +kernel
theorem dX10_begin_10 : decode cX10_begin 10 = .ok (.iconst 0, 1) := by decide +kernel
theorem dX10_begin_11 : decode cX10_begin 11 = .ok (.sipush 300, 3) := by decide +kernel
theorem dX10_begin_14 : decode cX10_begin 14 = .ok (.invokestatic 76, 3) := by decide +kernel
theorem dX10_begin_17 : decode cX10_begin 17 = .ok (.ifCond .ne 6, 3) := by decide +kernel
theorem dX10_begin_20 : decode cX10_begin 20 = .ok (.bipush (-2), 2) := by decide +kernel
theorem dX10_begin_22 : decode cX10_begin 22 = .ok (.ireturn, 1) := by decide +kernel
theorem dX10_begin_23 : decode cX10_begin 23 = .ok (.aload_n 0, 1) := by decide +kernel
theorem dX10_begin_24 : decode cX10_begin 24 = .ok (.getfield 7, 3) := by decide +kernel
theorem dX10_begin_27 : decode cX10_begin 27 = .ok (.bipush 35, 2) := by decide +kernel
theorem dX10_begin_29 : decode cX10_begin 29 = .ok (.iaload, 1) := by decide +kernel
theorem dX10_begin_30 : decode cX10_begin 30 = .ok (.istore_n 3, 1) := by decide +kernel
theorem dX10_begin_31 : decode cX10_begin 31 = .ok (.aload_n 0, 1) := by decide +kernel
theorem dX10_begin_32 : decode cX10_begin 32 = .ok (.getfield 7, 3) := by decide +kernel
theorem dX10_begin_35 : decode cX10_begin 35 = .ok (.bipush 35, 2) := by decide +kernel
theorem dX10_begin_37 : decode cX10_begin 37 = .ok (.iload_n 1, 1) := by decide +kernel
theorem dX10_begin_38 : decode cX10_begin 38 = .ok (.iastore, 1) := by decide +kernel
theorem dX10_begin_39 : decode cX10_begin 39 = .ok (.aload_n 0, 1) := by decide +kernel
theorem dX10_begin_40 : decode cX10_begin 40 = .ok (.getfield 7, 3) := by decide +kernel
theorem dX10_begin_43 : decode cX10_begin 43 = .ok (.bipush 36, 2) := by decide +kernel
theorem dX10_begin_45 : decode cX10_begin 45 = .ok (.iload_n 2, 1) := by decide +kernel
theorem dX10_begin_46 : decode cX10_begin 46 = .ok (.iastore, 1) := by decide +kernel
theorem dX10_begin_47 : decode cX10_begin 47 = .ok (.aload_n 0, 1) := by decide +kernel
theorem dX10_begin_48 : decode cX10_begin 48 = .ok (.invokevirtual 57, 3) := by decide +kernel
theorem dX10_begin_51 : decode cX10_begin 51 = .ok (.iload_n 3, 1) := by decide +kernel
theorem dX10_begin_52 : decode cX10_begin 52 = .ok (.ireturn, 1) := by decide +kernel
set_option maxRecDepth 100000 in
theorem c_Mo_begin {l : Launch} {D : va_G} {cI cJ cZ cO : ClassId} {q_this q_m q_saved q_w q_savedWords q_isSaved q_text q_far q_queue q_parent q_by q_seen q_path q_row q_more q_stateOf : Nat} {x1 : Int32} {x2 : Int32} {v_textLength : Int32} {v_steps : Int32} {v_missing : Int64} {v_mores : Int32} {v_hash : Int64} {v_m : (Nat → Int32)} {v_w : (Nat → Int64)} {x : Int32 × (Nat → Int32) × (Nat → Int64)} (h : f_Mo_begin x1 x2 v_m v_w = some x) : ctI l D cI cJ cZ cO yX10_begin cX10_begin 4 .int rm_Mo_begin [.ref q_this, .int x1, .int x2] (ws_Mo_begin cI cJ cZ q_this q_m q_saved q_w q_savedWords q_isSaved q_text q_far q_queue q_parent q_by q_seen q_path q_row q_more q_stateOf v_textLength v_steps v_missing v_mores v_hash v_m v_w) (ws_Mo_begin cI cJ cZ q_this q_m q_saved q_w q_savedWords q_isSaved q_text q_far q_queue q_parent q_by q_seen q_path q_row q_more q_stateOf v_textLength v_steps v_missing v_mores v_hash x.2.1 x.2.2) x.1 := by
  refine ctI_of (by decide) (Nat.le_of_ble_eq_true rfl) ?_
  intro p e s m below meth c Q A ls C0 hQ w hl
  have hl : lv_has ls 4 [(0, .ref q_this), (1, .int x1), (2, .int x2)] := hl
  generalize List.toArray (α := Value) [.ref q_this, .int x1, .int x2] = args at C0 hQ ⊢
  obtain ⟨hx, hb, hml, hown, hts, -, -⟩ := id C0
  unfold f_Mo_begin at h
  refine lv_iload_n hx hb dX10_begin_0 rfl (lv_at hl 1 rfl) ?_
  refine lv_iconst (v := (0 : Int32)) hx hb dX10_begin_1 (by decide) ?_
  refine lv_iconst (v := (2 : Int32)) hx hb dX10_begin_2 (by decide) ?_
  obtain ⟨r, hcall, h⟩ := bd1_h h
  obtain ⟨wr, hp, hp'⟩ := rd_of (ws := (ws_Mo_begin cI cJ cZ q_this q_m q_saved q_w q_savedWords q_isSaved q_text q_far q_queue q_parent q_by q_seen q_path q_row q_more q_stateOf v_textLength v_steps v_missing v_mores v_hash v_m v_w)) (wc := (ws_Mo_in cI cJ cZ)) [] rfl rfl
  refine r_SI (r := r) (As := [.int x1, .int (0 : Int32), .int (2 : Int32)]) (rest := []) (wc' := (ws_Mo_in cI cJ cZ)) (ws' := (ws_Mo_begin cI cJ cZ q_this q_m q_saved q_w q_savedWords q_isSaved q_text q_far q_queue q_parent q_by q_seen q_path q_row q_more q_stateOf v_textLength v_steps v_missing v_mores v_hash v_m v_w)) C0 w (c_Mo_in hcall) hp hp' lm_RX10_76 ms_Mo_in ⟨rfl, rfl⟩ ⟨by decide, by decide⟩ ⟨Nat.zero_le _, Nat.zero_le _⟩ rfl hl rfl (Nat.le_of_ble_eq_true rfl) dX10_begin_3 (fun H locs w => ?_)
  refine lv_if_eq (tgt := 20) hx hb dX10_begin_6 (by decide) (fun hc => ?_) (fun hc => ?_)
  · have h := if_h hc h
    refine lv_bipush (v := (-2 : Int32)) hx hb dX10_begin_20 (by decide) ?_
    cases h
    exact hQ _ _ _ _ dX10_begin_22 rfl w
  · have h := nf_h hc h
    refine lv_iload_n hx hb dX10_begin_9 rfl (lv_at hl 2 rfl) ?_
    refine lv_iconst (v := (0 : Int32)) hx hb dX10_begin_10 (by decide) ?_
    refine lv_sipush (v := (300 : Int32)) hx hb dX10_begin_11 (by decide) ?_
    obtain ⟨r_1, hcall, h⟩ := bd1_h h
    obtain ⟨wr, hp, hp'⟩ := rd_of (ws := (ws_Mo_begin cI cJ cZ q_this q_m q_saved q_w q_savedWords q_isSaved q_text q_far q_queue q_parent q_by q_seen q_path q_row q_more q_stateOf v_textLength v_steps v_missing v_mores v_hash v_m v_w)) (wc := (ws_Mo_in cI cJ cZ)) [] rfl rfl
    refine r_SI (r := r_1) (As := [.int x2, .int (0 : Int32), .int (300 : Int32)]) (rest := []) (wc' := (ws_Mo_in cI cJ cZ)) (ws' := (ws_Mo_begin cI cJ cZ q_this q_m q_saved q_w q_savedWords q_isSaved q_text q_far q_queue q_parent q_by q_seen q_path q_row q_more q_stateOf v_textLength v_steps v_missing v_mores v_hash v_m v_w)) C0 w (c_Mo_in hcall) hp hp' lm_RX10_76 ms_Mo_in ⟨rfl, rfl⟩ ⟨by decide, by decide⟩ ⟨Nat.zero_le _, Nat.zero_le _⟩ rfl hl rfl (Nat.le_of_ble_eq_true rfl) dX10_begin_14 (fun H locs w => ?_)
    refine lv_if_ne (tgt := 23) hx hb dX10_begin_17 (by decide) (fun hc => ?_) (fun hc => ?_)
    · have h := nf_h hc h
      refine lv_aload_n hx hb dX10_begin_23 rfl (lv_at hl 0 rfl) ?_
      refine r_get C0 w 0 rfl kf_Mo 0 (by decide) lf_RX10_7 rfl dX10_begin_24 ?_
      refine lv_bipush (v := (35 : Int32)) hx hb dX10_begin_27 (by decide) ?_
      refine r_iald C0 w 1 rfl (k := 35) (by decide) (inl (by decide)) dX10_begin_29 ?_
      refine lv_topi (fun x3 ex3 => ?_)
      have h := bnd_at ex3 h
      refine lv_istore_n (lv' := [(3, .int x3), (0, .ref q_this), (1, .int x1), (2, .int x2)]) hx hb dX10_begin_30 rfl hl (by decide) rfl (fun ls hl => ?_)
      refine lv_aload_n hx hb dX10_begin_31 rfl (lv_at hl 1 rfl) ?_
      refine r_get C0 w 0 rfl kf_Mo 0 (by decide) lf_RX10_7 rfl dX10_begin_32 ?_
      refine lv_bipush (v := (35 : Int32)) hx hb dX10_begin_35 (by decide) ?_
      refine lv_iload_n hx hb dX10_begin_37 rfl (lv_at hl 2 rfl) ?_
      obtain ⟨v_m_1, ev_m_1⟩ : ∃ y, y = (upd v_m 35 x1) := ⟨_, rfl⟩
      have h := bnd_at ev_m_1 h
      refine r_iast C0 w 1 rfl (f' := v_m_1) (k := 35) (by decide) (inl (by decide)) ev_m_1 dX10_begin_38 (ws' := (ws_Mo_begin cI cJ cZ q_this q_m q_saved q_w q_savedWords q_isSaved q_text q_far q_queue q_parent q_by q_seen q_path q_row q_more q_stateOf v_textLength v_steps v_missing v_mores v_hash v_m_1 v_w)) rfl (fun H locs w => ?_)
      refine lv_aload_n hx hb dX10_begin_39 rfl (lv_at hl 1 rfl) ?_
      refine r_get C0 w 0 rfl kf_Mo 0 (by decide) lf_RX10_7 rfl dX10_begin_40 ?_
      refine lv_bipush (v := (36 : Int32)) hx hb dX10_begin_43 (by decide) ?_
      refine lv_iload_n hx hb dX10_begin_45 rfl (lv_at hl 3 rfl) ?_
      obtain ⟨v_m_2, ev_m_2⟩ : ∃ y, y = (upd v_m_1 36 x2) := ⟨_, rfl⟩
      have h := bnd_at ev_m_2 h
      refine r_iast C0 w 1 rfl (f' := v_m_2) (k := 36) (by decide) (inl (by decide)) ev_m_2 dX10_begin_46 (ws' := (ws_Mo_begin cI cJ cZ q_this q_m q_saved q_w q_savedWords q_isSaved q_text q_far q_queue q_parent q_by q_seen q_path q_row q_more q_stateOf v_textLength v_steps v_missing v_mores v_hash v_m_2 v_w)) rfl (fun H locs w => ?_)
      refine lv_aload_n hx hb dX10_begin_47 rfl (lv_at hl 1 rfl) ?_
      obtain ⟨v_m_3, v_w_1, hcall, h⟩ := bd2_h h
      have hp := sp_of (ws := (ws_Mo_begin cI cJ cZ q_this q_m q_saved q_w q_savedWords q_isSaved q_text q_far q_queue q_parent q_by q_seen q_path q_row q_more q_stateOf v_textLength v_steps v_missing v_mores v_hash v_m_2 v_w)) (wc := (ws_Mo_begins cI cJ cZ q_this q_m q_saved q_w q_savedWords q_isSaved q_text q_far q_queue q_parent q_by q_seen q_path q_row q_more q_stateOf v_textLength v_steps v_missing v_mores v_hash v_m_2 v_w)) [0, 1, 2] [] rfl rfl
      have hp' : Rp (pk (ws_Mo_begin cI cJ cZ q_this q_m q_saved q_w q_savedWords q_isSaved q_text q_far q_queue q_parent q_by q_seen q_path q_row q_more q_stateOf v_textLength v_steps v_missing v_mores v_hash v_m_2 v_w) [] ++ (ws_Mo_begins cI cJ cZ q_this q_m q_saved q_w q_savedWords q_isSaved q_text q_far q_queue q_parent q_by q_seen q_path q_row q_more q_stateOf v_textLength v_steps v_missing v_mores v_hash v_m_3 v_w_1)) (ws_Mo_begin cI cJ cZ q_this q_m q_saved q_w q_savedWords q_isSaved q_text q_far q_queue q_parent q_by q_seen q_path q_row q_more q_stateOf v_textLength v_steps v_missing v_mores v_hash v_m_3 v_w_1) := ⟨[0, 1, 2], rfl, rfl⟩
      refine r_VV (As := []) (rest := []) (wc' := (ws_Mo_begins cI cJ cZ q_this q_m q_saved q_w q_savedWords q_isSaved q_text q_far q_queue q_parent q_by q_seen q_path q_row q_more q_stateOf v_textLength v_steps v_missing v_mores v_hash v_m_3 v_w_1)) (ws' := (ws_Mo_begin cI cJ cZ q_this q_m q_saved q_w q_savedWords q_isSaved q_text q_far q_queue q_parent q_by q_seen q_path q_row q_more q_stateOf v_textLength v_steps v_missing v_mores v_hash v_m_3 v_w_1)) C0 w (c_Mo_begins hcall) hp hp' lm_RX10_57 mv_Mo_begins ⟨rfl, rfl⟩ ⟨by decide, by decide⟩ ⟨Nat.zero_le _, Nat.zero_le _⟩ (q0 := 0) rfl rfl rfl rfl hl rfl (Nat.le_of_ble_eq_true rfl) dX10_begin_48 (fun H locs w => ?_)
      refine lv_iload_n hx hb dX10_begin_51 rfl (lv_at hl 0 rfl) ?_
      cases h
      exact hQ _ _ _ _ dX10_begin_52 rfl w
    · have h := if_h hc h
      refine lv_bipush (v := (-2 : Int32)) hx hb dX10_begin_20 (by decide) ?_
      cases h
      exact hQ _ _ _ _ dX10_begin_22 rfl w
theorem dX10_ask_0 : decode cX10_ask 0 = .ok (.aload_n 0, 1) := by decide +kernel
theorem dX10_ask_1 : decode cX10_ask 1 = .ok (.invokevirtual 97, 3) := by decide +kernel
theorem dX10_ask_4 : decode cX10_ask 4 = .ok (.lstore_n 1, 1) := by decide +kernel
theorem dX10_ask_5 : decode cX10_ask 5 = .ok (.lload_n 1, 1) := by decide +kernel
theorem dX10_ask_6 : decode cX10_ask 6 = .ok (.lconst 0, 1) := by decide +kernel
theorem dX10_ask_7 : decode cX10_ask 7 = .ok (.lcmp, 1) := by decide +kernel
theorem dX10_ask_8 : decode cX10_ask 8 = .ok (.ifCond .ge 8, 3) := by decide +kernel
theorem dX10_ask_11 : decode cX10_ask 11 = .ok (.bipush (-2), 2) := by decide +kernel
theorem dX10_ask_13 : decode cX10_ask 13 = .ok (.goto 8, 3) := by decide +kernel
theorem dX10_ask_16 : decode cX10_ask 16 = .ok (.aload_n 0, 1) := by decide +kernel
theorem dX10_ask_17 : decode cX10_ask 17 = .ok (.lload_n 1, 1) := by decide +kernel
theorem dX10_ask_18 : decode cX10_ask 18 = .ok (.invokevirtual 130, 3) := by decide +kernel
theorem dX10_ask_21 : decode cX10_ask 21 = .ok (.ireturn, 1) := by decide +kernel
set_option maxRecDepth 100000 in
theorem c_Mo_ask {l : Launch} {D : va_G} {cI cJ cZ cO : ClassId} {q_this q_m q_saved q_w q_savedWords q_isSaved q_text q_far q_queue q_parent q_by q_seen q_path q_row q_more q_stateOf : Nat} {v_textLength : Int32} {v_steps : Int32} {v_missing : Int64} {v_mores : Int32} {v_hash : Int64} {v_m : (Nat → Int32)} {v_w : (Nat → Int64)} {v_text : (Nat → Int32)} {x : Int32 × (Nat → Int32) × (Nat → Int64)} (h : f_Mo_ask v_textLength v_m v_w v_text = some x) : ctI l D cI cJ cZ cO yX10_ask cX10_ask 3 .int rm_Mo_ask [.ref q_this] (ws_Mo_ask cI cJ cZ q_this q_m q_saved q_w q_savedWords q_isSaved q_text q_far q_queue q_parent q_by q_seen q_path q_row q_more q_stateOf v_textLength v_steps v_missing v_mores v_hash v_m v_w v_text) (ws_Mo_ask cI cJ cZ q_this q_m q_saved q_w q_savedWords q_isSaved q_text q_far q_queue q_parent q_by q_seen q_path q_row q_more q_stateOf v_textLength v_steps v_missing v_mores v_hash x.2.1 x.2.2 v_text) x.1 := by
  refine ctI_of (by decide) (Nat.le_of_ble_eq_true rfl) ?_
  intro p e s m below meth c Q A ls C0 hQ w hl
  have hl : lv_has ls 3 [(0, .ref q_this)] := hl
  generalize List.toArray (α := Value) [.ref q_this] = args at C0 hQ ⊢
  obtain ⟨hx, hb, hml, hown, hts, -, -⟩ := id C0
  unfold f_Mo_ask at h
  refine lv_aload_n hx hb dX10_ask_0 rfl (lv_at hl 0 rfl) ?_
  obtain ⟨r, hcall, h⟩ := bd1_h h
  obtain ⟨wr, hp, hp'⟩ := rd_of (ws := (ws_Mo_ask cI cJ cZ q_this q_m q_saved q_w q_savedWords q_isSaved q_text q_far q_queue q_parent q_by q_seen q_path q_row q_more q_stateOf v_textLength v_steps v_missing v_mores v_hash v_m v_w v_text)) (wc := (ws_Mo_told cI cJ cZ q_this q_m q_saved q_w q_savedWords q_isSaved q_text q_far q_queue q_parent q_by q_seen q_path q_row q_more q_stateOf v_textLength v_steps v_missing v_mores v_hash v_m v_text)) [0, 1, 3] rfl rfl
  refine r_VJ (r := r) (As := []) (rest := []) (wc' := (ws_Mo_told cI cJ cZ q_this q_m q_saved q_w q_savedWords q_isSaved q_text q_far q_queue q_parent q_by q_seen q_path q_row q_more q_stateOf v_textLength v_steps v_missing v_mores v_hash v_m v_text)) (ws' := (ws_Mo_ask cI cJ cZ q_this q_m q_saved q_w q_savedWords q_isSaved q_text q_far q_queue q_parent q_by q_seen q_path q_row q_more q_stateOf v_textLength v_steps v_missing v_mores v_hash v_m v_w v_text)) C0 w (c_Mo_told hcall) hp hp' lm_RX10_97 mv_Mo_told ⟨rfl, rfl⟩ ⟨by decide, by decide⟩ ⟨Nat.zero_le _, Nat.zero_le _⟩ (q0 := 0) rfl rfl rfl rfl hl rfl (Nat.le_of_ble_eq_true rfl) dX10_ask_1 (fun H locs w => ?_)
  refine lv_lstore_n (lv' := [(1, .long r), (0, .ref q_this)]) hx hb dX10_ask_4 rfl hl (by decide) rfl (fun ls hl => ?_)
  refine lv_lload_n hx hb dX10_ask_5 rfl (lv_at hl 0 rfl) ?_
  refine lv_lconst (v := (0 : Int64)) hx hb dX10_ask_6 (by decide) ?_
  refine r_lc_ge (tgt := 16) hx hb dX10_ask_7 dX10_ask_8 (by decide) (fun hc => ?_) (fun hc => ?_)
  · have h := nf_h hc h
    refine lv_aload_n hx hb dX10_ask_16 rfl (lv_at hl 1 rfl) ?_
    refine lv_lload_n hx hb dX10_ask_17 rfl (lv_at hl 0 rfl) ?_
    obtain ⟨r_1, v_m_1, v_w_1, hcall, h⟩ := bd3_h h
    have hp := sp_of (ws := (ws_Mo_ask cI cJ cZ q_this q_m q_saved q_w q_savedWords q_isSaved q_text q_far q_queue q_parent q_by q_seen q_path q_row q_more q_stateOf v_textLength v_steps v_missing v_mores v_hash v_m v_w v_text)) (wc := (ws_Mo_asks cI cJ cZ q_this q_m q_saved q_w q_savedWords q_isSaved q_text q_far q_queue q_parent q_by q_seen q_path q_row q_more q_stateOf v_textLength v_steps v_missing v_mores v_hash v_m v_w)) [0, 1, 2] [3] rfl rfl
    have hp' : Rp (pk (ws_Mo_ask cI cJ cZ q_this q_m q_saved q_w q_savedWords q_isSaved q_text q_far q_queue q_parent q_by q_seen q_path q_row q_more q_stateOf v_textLength v_steps v_missing v_mores v_hash v_m v_w v_text) [3] ++ (ws_Mo_asks cI cJ cZ q_this q_m q_saved q_w q_savedWords q_isSaved q_text q_far q_queue q_parent q_by q_seen q_path q_row q_more q_stateOf v_textLength v_steps v_missing v_mores v_hash v_m_1 v_w_1)) (ws_Mo_ask cI cJ cZ q_this q_m q_saved q_w q_savedWords q_isSaved q_text q_far q_queue q_parent q_by q_seen q_path q_row q_more q_stateOf v_textLength v_steps v_missing v_mores v_hash v_m_1 v_w_1 v_text) := ⟨[1, 2, 3, 0], rfl, rfl⟩
    refine r_VI (r := r_1) (As := [.long r]) (rest := []) (wc' := (ws_Mo_asks cI cJ cZ q_this q_m q_saved q_w q_savedWords q_isSaved q_text q_far q_queue q_parent q_by q_seen q_path q_row q_more q_stateOf v_textLength v_steps v_missing v_mores v_hash v_m_1 v_w_1)) (ws' := (ws_Mo_ask cI cJ cZ q_this q_m q_saved q_w q_savedWords q_isSaved q_text q_far q_queue q_parent q_by q_seen q_path q_row q_more q_stateOf v_textLength v_steps v_missing v_mores v_hash v_m_1 v_w_1 v_text)) C0 w (c_Mo_asks hcall) hp hp' lm_RX10_130 mv_Mo_asks ⟨rfl, rfl⟩ ⟨by decide, by decide⟩ ⟨Nat.zero_le _, Nat.zero_le _⟩ (q0 := 0) rfl rfl rfl rfl hl rfl (Nat.le_of_ble_eq_true rfl) dX10_ask_18 (fun H locs w => ?_)
    cases h
    exact hQ _ _ _ _ dX10_ask_21 rfl w
  · have h := if_h hc h
    refine lv_bipush (v := (-2 : Int32)) hx hb dX10_ask_11 (by decide) ?_
    refine lv_goto (tgt := 21) hx hb dX10_ask_13 (by decide) ?_
    cases h
    exact hQ _ _ _ _ dX10_ask_21 rfl w
theorem dX10_wordOf_0 : decode cX10_wordOf 0 = .ok (.iload_n 1, 1) := by decide +kernel
theorem dX10_wordOf_1 : decode cX10_wordOf 1 = .ok (.aload_n 0, 1) := by decide +kernel
theorem dX10_wordOf_2 : decode cX10_wordOf 2 = .ok (.getfield 7, 3) := by decide +kernel
theorem dX10_wordOf_5 : decode cX10_wordOf 5 = .ok (.bipush 38, 2) := by decide +kernel
theorem dX10_wordOf_7 : decode cX10_wordOf 7 = .ok (.iaload, 1) := by decide +kernel
theorem dX10_wordOf_8 : decode cX10_wordOf 8 = .ok (.isub, 1) := by decide +kernel
theorem dX10_wordOf_9 : decode cX10_wordOf 9 = .ok (.istore_n 2, 1) := by decide +kernel
theorem dX10_wordOf_10 : decode cX10_wordOf 10 = .ok (.iload_n 2, 1) := by decide +kernel
theorem dX10_wordOf_11 : decode cX10_wordOf 11 = .ok (.ifCond .ge 16, 3) := by decide +kernel
theorem dX10_wordOf_14 : decode cX10_wordOf 14 = .ok (.aload_n 0, 1) := by decide +kernel
theorem dX10_wordOf_15 : decode cX10_wordOf 15 = .ok (.getfield 16, 3) := by decide +kernel
theorem dX10_wordOf_18 : decode cX10_wordOf 18 = .ok (.sipush 304, 3) := by decide +kernel
theorem dX10_wordOf_21 : decode cX10_wordOf 21 = .ok (.iload_n 1, 1) := by decide +kernel
theorem dX10_wordOf_22 : decode cX10_wordOf 22 = .ok (.iadd, 1) := by decide +kernel
theorem dX10_wordOf_23 : decode cX10_wordOf 23 = .ok (.laload, 1) := by decide +kernel
theorem dX10_wordOf_24 : decode cX10_wordOf 24 = .ok (.goto 31, 3) := by decide +kernel
theorem dX10_wordOf_27 : decode cX10_wordOf 27 = .ok (.aload_n 0, 1) := by decide +kernel
theorem dX10_wordOf_28 : decode cX10_wordOf 28 = .ok (.getfield 16, 3) := by decide +kernel
theorem dX10_wordOf_31 : decode cX10_wordOf 31 = .ok (.sipush 304, 3) := by decide +kernel
theorem dX10_wordOf_34 : decode cX10_wordOf 34 = .ok (.iload_n 2, 1) := by decide +kernel
theorem dX10_wordOf_35 : decode cX10_wordOf 35 = .ok (.aload_n 0, 1) := by decide +kernel
theorem dX10_wordOf_36 : decode cX10_wordOf 36 = .ok (.getfield 7, 3) := by decide +kernel
theorem dX10_wordOf_39 : decode cX10_wordOf 39 = .ok (.iconst 1, 1) := by decide +kernel
theorem dX10_wordOf_40 : decode cX10_wordOf 40 = .ok (.iaload, 1) := by decide +kernel
theorem dX10_wordOf_41 : decode cX10_wordOf 41 = .ok (.idiv, 1) := by decide +kernel
theorem dX10_wordOf_42 : decode cX10_wordOf 42 = .ok (.iadd, 1) := by decide +kernel
theorem dX10_wordOf_43 : decode cX10_wordOf 43 = .ok (.laload, 1) := by decide +kernel
theorem dX10_wordOf_44 : decode cX10_wordOf 44 = .ok (.iload_n 2, 1) := by decide +kernel
theorem dX10_wordOf_45 : decode cX10_wordOf 45 = .ok (.aload_n 0, 1) := by decide +kernel
theorem dX10_wordOf_46 : decode cX10_wordOf 46 = .ok (.getfield 7, 3) := by decide +kernel
theorem dX10_wordOf_49 : decode cX10_wordOf 49 = .ok (.iconst 1, 1) := by decide +kernel
theorem dX10_wordOf_50 : decode cX10_wordOf 50 = .ok (.iaload, 1) := by decide +kernel
theorem dX10_wordOf_51 : decode cX10_wordOf 51 = .ok (.irem, 1) := by decide +kernel
theorem dX10_wordOf_52 : decode cX10_wordOf 52 = .ok (.invokestatic 82, 3) := by decide +kernel
theorem dX10_wordOf_55 : decode cX10_wordOf 55 = .ok (.lreturn, 1) := by decide +kernel
set_option maxRecDepth 100000 in
theorem c_Mo_wordOf {l : Launch} {D : va_G} {cI cJ cZ cO : ClassId} {q_this q_m q_saved q_w q_savedWords q_isSaved q_text q_far q_queue q_parent q_by q_seen q_path q_row q_more q_stateOf : Nat} {x1 : Int32} {v_textLength : Int32} {v_steps : Int32} {v_missing : Int64} {v_mores : Int32} {v_hash : Int64} {v_m : (Nat → Int32)} {v_w : (Nat → Int64)} {x : Int64} (h : f_Mo_wordOf x1 v_m v_w = some x) : ctJ l D cI cJ cZ cO yX10_wordOf cX10_wordOf 3 rm_Mo_wordOf [.ref q_this, .int x1] (ws_Mo_wordOf cI cJ cZ q_this q_m q_saved q_w q_savedWords q_isSaved q_text q_far q_queue q_parent q_by q_seen q_path q_row q_more q_stateOf v_textLength v_steps v_missing v_mores v_hash v_m v_w) (ws_Mo_wordOf cI cJ cZ q_this q_m q_saved q_w q_savedWords q_isSaved q_text q_far q_queue q_parent q_by q_seen q_path q_row q_more q_stateOf v_textLength v_steps v_missing v_mores v_hash v_m v_w) x := by
  refine ctJ_of (by decide) (Nat.le_of_ble_eq_true rfl) ?_
  intro p e s m below meth c Q A ls C0 hQ w hl
  have hl : lv_has ls 3 [(0, .ref q_this), (1, .int x1)] := hl
  generalize List.toArray (α := Value) [.ref q_this, .int x1] = args at C0 hQ ⊢
  obtain ⟨hx, hb, hml, hown, hts, -, -⟩ := id C0
  unfold f_Mo_wordOf at h
  refine lv_iload_n hx hb dX10_wordOf_0 rfl (lv_at hl 1 rfl) ?_
  refine lv_aload_n hx hb dX10_wordOf_1 rfl (lv_at hl 0 rfl) ?_
  refine r_get C0 w 0 rfl kf_Mo 0 (by decide) lf_RX10_7 rfl dX10_wordOf_2 ?_
  refine lv_bipush (v := (38 : Int32)) hx hb dX10_wordOf_5 (by decide) ?_
  refine r_iald C0 w 1 rfl (k := 38) (by decide) (inl (by decide)) dX10_wordOf_7 ?_
  refine lv_isub hx hb dX10_wordOf_8 ?_
  refine lv_topi (fun x2 ex2 => ?_)
  have h := bnd_at ex2 h
  refine lv_istore_n (lv' := [(2, .int x2), (0, .ref q_this), (1, .int x1)]) hx hb dX10_wordOf_9 rfl hl (by decide) rfl (fun ls hl => ?_)
  refine lv_iload_n hx hb dX10_wordOf_10 rfl (lv_at hl 0 rfl) ?_
  refine lv_if_ge (tgt := 27) hx hb dX10_wordOf_11 (by decide) (fun hc => ?_) (fun hc => ?_)
  · have h := if_h hc h
    refine lv_aload_n hx hb dX10_wordOf_27 rfl (lv_at hl 1 rfl) ?_
    refine r_get C0 w 0 rfl kf_Mo 2 (by decide) lf_RX10_16 rfl dX10_wordOf_28 ?_
    refine lv_sipush (v := (304 : Int32)) hx hb dX10_wordOf_31 (by decide) ?_
    refine lv_iload_n hx hb dX10_wordOf_34 rfl (lv_at hl 0 rfl) ?_
    refine lv_aload_n hx hb dX10_wordOf_35 rfl (lv_at hl 1 rfl) ?_
    refine r_get C0 w 0 rfl kf_Mo 0 (by decide) lf_RX10_7 rfl dX10_wordOf_36 ?_
    refine lv_iconst (v := (1 : Int32)) hx hb dX10_wordOf_39 (by decide) ?_
    refine r_iald C0 w 1 rfl (k := 1) (by decide) (inl (by decide)) dX10_wordOf_40 ?_
    obtain ⟨hz, h⟩ := gNz_h h
    refine lv_idiv hx hb dX10_wordOf_41 hz ?_
    refine lv_iadd hx hb dX10_wordOf_42 ?_
    obtain ⟨hi, h⟩ := gIn_h h
    refine r_lald C0 w 2 rfl rfl hi dX10_wordOf_43 ?_
    refine lv_iload_n hx hb dX10_wordOf_44 rfl (lv_at hl 0 rfl) ?_
    refine lv_aload_n hx hb dX10_wordOf_45 rfl (lv_at hl 1 rfl) ?_
    refine r_get C0 w 0 rfl kf_Mo 0 (by decide) lf_RX10_7 rfl dX10_wordOf_46 ?_
    refine lv_iconst (v := (1 : Int32)) hx hb dX10_wordOf_49 (by decide) ?_
    refine r_iald C0 w 1 rfl (k := 1) (by decide) (inl (by decide)) dX10_wordOf_50 ?_
    obtain ⟨hz, h⟩ := gNz_h h
    refine lv_irem hx hb dX10_wordOf_51 hz ?_
    obtain ⟨r, hcall, h⟩ := bd1_h h
    obtain ⟨wr, hp, hp'⟩ := rd_of (ws := (ws_Mo_wordOf cI cJ cZ q_this q_m q_saved q_w q_savedWords q_isSaved q_text q_far q_queue q_parent q_by q_seen q_path q_row q_more q_stateOf v_textLength v_steps v_missing v_mores v_hash v_m v_w)) (wc := (ws_Mo_longer cI cJ cZ)) [] rfl rfl
    refine r_SJ (r := r) (As := [.long (v_w ((304 : Int32) + (x2 / (v_m 1))).toNatClampNeg), .int (x2 - x2 / (v_m 1) * (v_m 1))]) (rest := []) (wc' := (ws_Mo_longer cI cJ cZ)) (ws' := (ws_Mo_wordOf cI cJ cZ q_this q_m q_saved q_w q_savedWords q_isSaved q_text q_far q_queue q_parent q_by q_seen q_path q_row q_more q_stateOf v_textLength v_steps v_missing v_mores v_hash v_m v_w)) C0 w (c_Mo_longer hcall) hp hp' lm_RX10_82 ms_Mo_longer ⟨rfl, rfl⟩ ⟨by decide, by decide⟩ ⟨Nat.zero_le _, Nat.zero_le _⟩ rfl hl rfl (Nat.le_of_ble_eq_true rfl) dX10_wordOf_52 (fun H locs w => ?_)
    cases h
    exact hQ _ _ _ _ dX10_wordOf_55 w
  · have h := nf_h hc h
    refine lv_aload_n hx hb dX10_wordOf_14 rfl (lv_at hl 1 rfl) ?_
    refine r_get C0 w 0 rfl kf_Mo 2 (by decide) lf_RX10_16 rfl dX10_wordOf_15 ?_
    refine lv_sipush (v := (304 : Int32)) hx hb dX10_wordOf_18 (by decide) ?_
    refine lv_iload_n hx hb dX10_wordOf_21 rfl (lv_at hl 2 rfl) ?_
    refine lv_iadd hx hb dX10_wordOf_22 ?_
    obtain ⟨hi, h⟩ := gIn_h h
    refine r_lald C0 w 2 rfl rfl hi dX10_wordOf_23 ?_
    refine lv_goto (tgt := 55) hx hb dX10_wordOf_24 (by decide) ?_
    cases h
    exact hQ _ _ _ _ dX10_wordOf_55 w
theorem dX10_extension_0 : decode cX10_extension 0 = .ok (.aload_n 0, 1) := by decide +kernel
theorem dX10_extension_1 : decode cX10_extension 1 = .ok (.getfield 7, 3) := by decide +kernel
theorem dX10_extension_4 : decode cX10_extension 4 = .ok (.bipush 38, 2) := by decide +kernel
theorem dX10_extension_6 : decode cX10_extension 6 = .ok (.iaload, 1) := by decide +kernel
theorem dX10_extension_7 : decode cX10_extension 7 = .ok (.aload_n 0, 1) := by decide +kernel
theorem dX10_extension_8 : decode cX10_extension 8 = .ok (.getfield 7, 3) := by decide +kernel
theorem dX10_extension_11 : decode cX10_extension 11 = .ok (.iconst 1, 1) := by decide +kernel
theorem dX10_extension_12 : decode cX10_extension 12 = .ok (.iaload, 1) := by decide +kernel
theorem dX10_extension_13 : decode cX10_extension 13 = .ok (.iload_n 1, 1) := by decide +kernel
theorem dX10_extension_14 : decode cX10_extension 14 = .ok (.imul, 1) := by decide +kernel
theorem dX10_extension_15 : decode cX10_extension 15 = .ok (.iadd, 1) := by decide +kernel
theorem dX10_extension_16 : decode cX10_extension 16 = .ok (.iload_n 2, 1) := by decide +kernel
theorem dX10_extension_17 : decode cX10_extension 17 = .ok (.iadd, 1) := by decide +kernel
theorem dX10_extension_18 : decode cX10_extension 18 = .ok (.ireturn, 1) := by decide +kernel
set_option maxRecDepth 100000 in
theorem c_Mo_extension {l : Launch} {D : va_G} {cI cJ cZ cO : ClassId} {q_this q_m q_saved q_w q_savedWords q_isSaved q_text q_far q_queue q_parent q_by q_seen q_path q_row q_more q_stateOf : Nat} {x1 : Int32} {x2 : Int32} {v_textLength : Int32} {v_steps : Int32} {v_missing : Int64} {v_mores : Int32} {v_hash : Int64} {v_m : (Nat → Int32)} {x : Int32} (h : f_Mo_extension x1 x2 v_m = some x) : ctI l D cI cJ cZ cO yX10_extension cX10_extension 3 .int rm_Mo_extension [.ref q_this, .int x1, .int x2] (ws_Mo_extension cI cJ cZ q_this q_m q_saved q_w q_savedWords q_isSaved q_text q_far q_queue q_parent q_by q_seen q_path q_row q_more q_stateOf v_textLength v_steps v_missing v_mores v_hash v_m) (ws_Mo_extension cI cJ cZ q_this q_m q_saved q_w q_savedWords q_isSaved q_text q_far q_queue q_parent q_by q_seen q_path q_row q_more q_stateOf v_textLength v_steps v_missing v_mores v_hash v_m) x := by
  refine ctI_of (by decide) (Nat.le_of_ble_eq_true rfl) ?_
  intro p e s m below meth c Q A ls C0 hQ w hl
  have hl : lv_has ls 3 [(0, .ref q_this), (1, .int x1), (2, .int x2)] := hl
  generalize List.toArray (α := Value) [.ref q_this, .int x1, .int x2] = args at C0 hQ ⊢
  obtain ⟨hx, hb, hml, hown, hts, -, -⟩ := id C0
  unfold f_Mo_extension at h
  refine lv_aload_n hx hb dX10_extension_0 rfl (lv_at hl 0 rfl) ?_
  refine r_get C0 w 0 rfl kf_Mo 0 (by decide) lf_RX10_7 rfl dX10_extension_1 ?_
  refine lv_bipush (v := (38 : Int32)) hx hb dX10_extension_4 (by decide) ?_
  refine r_iald C0 w 1 rfl (k := 38) (by decide) (inl (by decide)) dX10_extension_6 ?_
  refine lv_aload_n hx hb dX10_extension_7 rfl (lv_at hl 0 rfl) ?_
  refine r_get C0 w 0 rfl kf_Mo 0 (by decide) lf_RX10_7 rfl dX10_extension_8 ?_
  refine lv_iconst (v := (1 : Int32)) hx hb dX10_extension_11 (by decide) ?_
  refine r_iald C0 w 1 rfl (k := 1) (by decide) (inl (by decide)) dX10_extension_12 ?_
  refine lv_iload_n hx hb dX10_extension_13 rfl (lv_at hl 1 rfl) ?_
  refine lv_imul hx hb dX10_extension_14 ?_
  refine lv_iadd hx hb dX10_extension_15 ?_
  refine lv_iload_n hx hb dX10_extension_16 rfl (lv_at hl 2 rfl) ?_
  refine lv_iadd hx hb dX10_extension_17 ?_
  cases h
  exact hQ _ _ _ _ dX10_extension_18 rfl w
theorem dX10_fills_0 : decode cX10_fills 0 = .ok (.iconst 0, 1) := by decide +kernel
theorem dX10_fills_1 : decode cX10_fills 1 = .ok (.istore_n 1, 1) := by decide +kernel
theorem dX10_fills_2 : decode cX10_fills 2 = .ok (.iload_n 1, 1) := by decide +kernel
theorem dX10_fills_3 : decode cX10_fills 3 = .ok (.aload_n 0, 1) := by decide +kernel
theorem dX10_fills_4 : decode cX10_fills 4 = .ok (.getfield 7, 3) := by decide +kernel
theorem dX10_fills_7 : decode cX10_fills 7 = .ok (.bipush 38, 2) := by decide +kernel
theorem dX10_fills_9 : decode cX10_fills 9 = .ok (.iaload, 1) := by decide +kernel
theorem dX10_fills_10 : decode cX10_fills 10 = .ok (.iconst 1, 1) := by decide +kernel
theorem dX10_fills_11 : decode cX10_fills 11 = .ok (.aload_n 0, 1) := by decide +kernel
theorem dX10_fills_12 : decode cX10_fills 12 = .ok (.getfield 7, 3) := by decide +kernel
theorem dX10_fills_15 : decode cX10_fills 15 = .ok (.iconst 1, 1) := by decide +kernel
theorem dX10_fills_16 : decode cX10_fills 16 = .ok (.iaload, 1) := by decide +kernel
theorem dX10_fills_17 : decode cX10_fills 17 = .ok (.iadd, 1) := by decide +kernel
theorem dX10_fills_18 : decode cX10_fills 18 = .ok (.imul, 1) := by decide +kernel
theorem dX10_fills_19 : decode cX10_fills 19 = .ok (.if_icmp .ge 87, 3) := by decide +kernel
theorem dX10_fills_22 : decode cX10_fills 22 = .ok (.aload_n 0, 1) := by decide +kernel
theorem dX10_fills_23 : decode cX10_fills 23 = .ok (.getfield 48, 3) := by decide +kernel
theorem dX10_fills_26 : decode cX10_fills 26 = .ok (.iload_n 1, 1) := by decide +kernel
theorem dX10_fills_27 : decode cX10_fills 27 = .ok (.iconst 0, 1) := by decide +kernel
theorem dX10_fills_28 : decode cX10_fills 28 = .ok (.iastore, 1) := by decide +kernel
theorem dX10_fills_29 : decode cX10_fills 29 = .ok (.iconst 0, 1) := by decide +kernel
theorem dX10_fills_30 : decode cX10_fills 30 = .ok (.istore_n 2, 1) := by decide +kernel
theorem dX10_fills_31 : decode cX10_fills 31 = .ok (.iload_n 2, 1) := by decide +kernel
theorem dX10_fills_32 : decode cX10_fills 32 = .ok (.aload_n 0, 1) := by decide +kernel
theorem dX10_fills_33 : decode cX10_fills 33 = .ok (.getfield 7, 3) := by decide +kernel
theorem dX10_fills_36 : decode cX10_fills 36 = .ok (.bipush 39, 2) := by decide +kernel
theorem dX10_fills_38 : decode cX10_fills 38 = .ok (.iaload, 1) := by decide +kernel
theorem dX10_fills_39 : decode cX10_fills 39 = .ok (.if_icmp .ge 61, 3) := by decide +kernel
theorem dX10_fills_42 : decode cX10_fills 42 = .ok (.aload_n 0, 1) := by decide +kernel
theorem dX10_fills_43 : decode cX10_fills 43 = .ok (.iload_n 1, 1) := by decide +kernel
theorem dX10_fills_44 : decode cX10_fills 44 = .ok (.invokevirtual 133, 3) := by decide +kernel
theorem dX10_fills_47 : decode cX10_fills 47 = .ok (.aload_n 0, 1) := by decide +kernel
theorem dX10_fills_48 : decode cX10_fills 48 = .ok (.getfield 16, 3) := by decide +kernel
theorem dX10_fills_51 : decode cX10_fills 51 = .ok (.sipush 344, 3) := by decide +kernel
theorem dX10_fills_54 : decode cX10_fills 54 = .ok (.iload_n 2, 1) := by decide +kernel
theorem dX10_fills_55 : decode cX10_fills 55 = .ok (.iadd, 1) := by decide +kernel
theorem dX10_fills_56 : decode cX10_fills 56 = .ok (.laload, 1) := by decide +kernel
theorem dX10_fills_57 : decode cX10_fills 57 = .ok (.invokestatic 137, 3) := by decide +kernel
theorem dX10_fills_60 : decode cX10_fills 60 = .ok (.lstore_n 3, 1) := by decide +kernel
theorem dX10_fills_61 : decode cX10_fills 61 = .ok (.aload_n 0, 1) := by decide +kernel
theorem dX10_fills_62 : decode cX10_fills 62 = .ok (.lload_n 3, 1) := by decide +kernel
theorem dX10_fills_63 : decode cX10_fills 63 = .ok (.invokevirtual 127, 3) := by decide +kernel
theorem dX10_fills_66 : decode cX10_fills 66 = .ok (.istore 5, 2) := by decide +kernel
theorem dX10_fills_68 : decode cX10_fills 68 = .ok (.iload 5, 2) := by decide +kernel
theorem dX10_fills_70 : decode cX10_fills 70 = .ok (.iconst (-1), 1) := by decide +kernel
theorem dX10_fills_71 : decode cX10_fills 71 = .ok (.if_icmp .ne 10, 3) := by decide +kernel
theorem dX10_fills_74 : decode cX10_fills 74 = .ok (.aload_n 0, 1) := by decide +kernel
theorem dX10_fills_75 : decode cX10_fills 75 = .ok (.lload_n 3, 1) := by decide +kernel
theorem dX10_fills_76 : decode cX10_fills 76 = .ok (.putfield 141, 3) := by decide +kernel
theorem dX10_fills_79 : decode cX10_fills 79 = .ok (.iconst 0, 1) := by decide +kernel
theorem dX10_fills_80 : decode cX10_fills 80 = .ok (.ireturn, 1) := by decide +kernel
theorem dX10_fills_81 : decode cX10_fills 81 = .ok (.aload_n 0, 1) := by decide +kernel
theorem dX10_fills_82 : decode cX10_fills 82 = .ok (.getfield 48, 3) := by decide +kernel
theorem dX10_fills_85 : decode cX10_fills 85 = .ok (.iload_n 1, 1) := by decide +kernel
theorem dX10_fills_86 : decode cX10_fills 86 = .ok (.dup2, 1) := by decide +kernel
theorem dX10_fills_87 : decode cX10_fills 87 = .ok (.iaload, 1) := by decide +kernel
theorem dX10_fills_88 : decode cX10_fills 88 = .ok (.iload 5, 2) := by decide +kernel
theorem dX10_fills_90 : decode cX10_fills 90 = .ok (.iload_n 2, 1) := by decide +kernel
theorem dX10_fills_91 : decode cX10_fills 91 = .ok (.ishl, 1) := by decide +kernel
theorem dX10_fills_92 : decode cX10_fills 92 = .ok (.ior, 1) := by decide +kernel
theorem dX10_fills_93 : decode cX10_fills 93 = .ok (.iastore, 1) := by decide +kernel
theorem dX10_fills_94 : decode cX10_fills 94 = .ok (.iinc 2 1, 3) := by decide +kernel
theorem dX10_fills_97 : decode cX10_fills 97 = .ok (.goto (-66), 3) := by decide +kernel
theorem dX10_fills_100 : decode cX10_fills 100 = .ok (.iinc 1 1, 3) := by decide +kernel
theorem dX10_fills_103 : decode cX10_fills 103 = .ok (.goto (-101), 3) := by decide +kernel
theorem dX10_fills_106 : decode cX10_fills 106 = .ok (.iconst 1, 1) := by decide +kernel
theorem dX10_fills_107 : decode cX10_fills 107 = .ok (.ireturn, 1) := by decide +kernel
set_option maxRecDepth 100000 in
theorem w_Mo_fills_L31 {p : Program} {l : Launch} {e : Env} {s : State} {m : MethodId} {args : Array Value} {below : List Frame} {meth : Method} {c : Code} {Q : State → Prop} {A : Nat → Prop} {D : va_G} {cI cJ cZ cO : ClassId} {q_this q_m q_saved q_w q_savedWords q_isSaved q_text q_far q_queue q_parent q_by q_seen q_path q_row q_more q_stateOf : Nat} {v_textLength : Int32} {v_steps : Int32} {v_missing : Int64} {v_mores : Int32} {v_hash : Int64} {v_m : (Nat → Int32)} {v_w : (Nat → Int64)} {x1 : Int32} {x : Int32 × (Nat → Int32) × Int64} (C0 : Cx p s m args c A D cI cJ cZ cO cX10_fills 6 RX10) (hQ : RtI p l e rm_Mo_fills s m args below meth c Q A D cX10_fills .boolean (ws_Mo_fills cI cJ cZ q_this q_m q_saved q_w q_savedWords q_isSaved q_text q_far q_queue q_parent q_by q_seen q_path q_row q_more q_stateOf v_textLength v_steps x.2.2 v_mores v_hash v_m v_w x.2.1) x.1) {K : Int32 → (Nat → Int32) → Option (Int32 × (Nat → Int32) × Int64)} (hK : ∀ (x2 : Int32) (v_row : (Nat → Int32)) (H : Heap) (locs : List Loc) (ls : Array Slot), K x2 v_row = some x → Wd s A D (ws_Mo_fills cI cJ cZ q_this q_m q_saved q_w q_savedWords q_isSaved q_text q_far q_queue q_parent q_by q_seen q_path q_row q_more q_stateOf v_textLength v_steps v_missing v_mores v_hash v_m v_w v_row) H locs → lv_has ls 6 [(0, .ref q_this), (1, .int x1)] → W p l e rm_Mo_fills s m args below meth c H locs 0 0 Q (F0 m 100 ls [])) {rec : Int32 → (Nat → Int32) → Option (Int32 × (Nat → Int32) × Int64)} (hrec : ∀ (x2 : Int32) (v_row : (Nat → Int32)) (H : Heap) (locs : List Loc) (ls : Array Slot), rec x2 v_row = some x → Wd s A D (ws_Mo_fills cI cJ cZ q_this q_m q_saved q_w q_savedWords q_isSaved q_text q_far q_queue q_parent q_by q_seen q_path q_row q_more q_stateOf v_textLength v_steps v_missing v_mores v_hash v_m v_w v_row) H locs → lv_has ls 6 [(0, .ref q_this), (1, .int x1), (2, .int x2)] → W p l e rm_Mo_fills s m args below meth c H locs 0 0 Q (F0 m 31 ls [])) (x2 : Int32) (v_row : (Nat → Int32)) {H : Heap} {locs : List Loc} {ls : Array Slot} (h : f_Mo_fills_L31 v_m v_w x1 K rec x2 v_row = some x) (w : Wd s A D (ws_Mo_fills cI cJ cZ q_this q_m q_saved q_w q_savedWords q_isSaved q_text q_far q_queue q_parent q_by q_seen q_path q_row q_more q_stateOf v_textLength v_steps v_missing v_mores v_hash v_m v_w v_row) H locs) (hl : lv_has ls 6 [(0, .ref q_this), (1, .int x1), (2, .int x2)]) : W p l e rm_Mo_fills s m args below meth c H locs 0 0 Q (F0 m 31 ls []) := by
  obtain ⟨hx, hb, hml, hown, hts, -, -⟩ := id C0
  unfold f_Mo_fills_L31 at h
  refine lv_iload_n hx hb dX10_fills_31 rfl (lv_at hl 2 rfl) ?_
  refine lv_aload_n hx hb dX10_fills_32 rfl (lv_at hl 0 rfl) ?_
  refine r_get C0 w 0 rfl kf_Mo 0 (by decide) lf_RX10_7 rfl dX10_fills_33 ?_
  refine lv_bipush (v := (39 : Int32)) hx hb dX10_fills_36 (by decide) ?_
  refine r_iald C0 w 1 rfl (k := 39) (by decide) (inl (by decide)) dX10_fills_38 ?_
  refine lv_icmp_ge (tgt := 100) hx hb dX10_fills_39 (by decide) (fun hc => ?_) (fun hc => ?_)
  · have h := if_h hc h
    exact hK _ _ _ _ _ h w (lv_sub hl [0, 1] rfl)
  · have h := nf_h hc h
    refine lv_aload_n hx hb dX10_fills_42 rfl (lv_at hl 0 rfl) ?_
    refine lv_iload_n hx hb dX10_fills_43 rfl (lv_at hl 1 rfl) ?_
    obtain ⟨r, hcall, h⟩ := bd1_h h
    obtain ⟨wr, hp, hp'⟩ := rd_of (ws := (ws_Mo_fills cI cJ cZ q_this q_m q_saved q_w q_savedWords q_isSaved q_text q_far q_queue q_parent q_by q_seen q_path q_row q_more q_stateOf v_textLength v_steps v_missing v_mores v_hash v_m v_w v_row)) (wc := (ws_Mo_wordOf cI cJ cZ q_this q_m q_saved q_w q_savedWords q_isSaved q_text q_far q_queue q_parent q_by q_seen q_path q_row q_more q_stateOf v_textLength v_steps v_missing v_mores v_hash v_m v_w)) [0, 1, 2] rfl rfl
    refine r_VJ (r := r) (As := [.int x1]) (rest := []) (wc' := (ws_Mo_wordOf cI cJ cZ q_this q_m q_saved q_w q_savedWords q_isSaved q_text q_far q_queue q_parent q_by q_seen q_path q_row q_more q_stateOf v_textLength v_steps v_missing v_mores v_hash v_m v_w)) (ws' := (ws_Mo_fills cI cJ cZ q_this q_m q_saved q_w q_savedWords q_isSaved q_text q_far q_queue q_parent q_by q_seen q_path q_row q_more q_stateOf v_textLength v_steps v_missing v_mores v_hash v_m v_w v_row)) C0 w (c_Mo_wordOf hcall) hp hp' lm_RX10_133 mv_Mo_wordOf ⟨rfl, rfl⟩ ⟨by decide, by decide⟩ ⟨Nat.zero_le _, Nat.zero_le _⟩ (q0 := 0) rfl rfl rfl rfl hl rfl (Nat.le_of_ble_eq_true rfl) dX10_fills_44 (fun H locs w => ?_)
    refine lv_aload_n hx hb dX10_fills_47 rfl (lv_at hl 0 rfl) ?_
    refine r_get C0 w 0 rfl kf_Mo 2 (by decide) lf_RX10_16 rfl dX10_fills_48 ?_
    refine lv_sipush (v := (344 : Int32)) hx hb dX10_fills_51 (by decide) ?_
    refine lv_iload_n hx hb dX10_fills_54 rfl (lv_at hl 2 rfl) ?_
    refine lv_iadd hx hb dX10_fills_55 ?_
    obtain ⟨hi, h⟩ := gIn_h h
    refine r_lald C0 w 2 rfl rfl hi dX10_fills_56 ?_
    obtain ⟨r_1, hcall, h⟩ := bd1_h h
    obtain ⟨wr, hp, hp'⟩ := rd_of (ws := (ws_Mo_fills cI cJ cZ q_this q_m q_saved q_w q_savedWords q_isSaved q_text q_far q_queue q_parent q_by q_seen q_path q_row q_more q_stateOf v_textLength v_steps v_missing v_mores v_hash v_m v_w v_row)) (wc := (ws_Mo_joined cI cJ cZ)) [] rfl rfl
    refine r_SJ (r := r_1) (As := [.long r, .long (v_w ((344 : Int32) + x2).toNatClampNeg)]) (rest := []) (wc' := (ws_Mo_joined cI cJ cZ)) (ws' := (ws_Mo_fills cI cJ cZ q_this q_m q_saved q_w q_savedWords q_isSaved q_text q_far q_queue q_parent q_by q_seen q_path q_row q_more q_stateOf v_textLength v_steps v_missing v_mores v_hash v_m v_w v_row)) C0 w (c_Mo_joined hcall) hp hp' lm_RX10_137 ms_Mo_joined ⟨rfl, rfl⟩ ⟨by decide, by decide⟩ ⟨Nat.zero_le _, Nat.zero_le _⟩ rfl hl rfl (Nat.le_of_ble_eq_true rfl) dX10_fills_57 (fun H locs w => ?_)
    refine lv_lstore_n (lv' := [(3, .long r_1), (0, .ref q_this), (1, .int x1), (2, .int x2)]) hx hb dX10_fills_60 rfl hl (by decide) rfl (fun ls hl => ?_)
    refine lv_aload_n hx hb dX10_fills_61 rfl (lv_at hl 1 rfl) ?_
    refine lv_lload_n hx hb dX10_fills_62 rfl (lv_at hl 0 rfl) ?_
    obtain ⟨r_2, hcall, h⟩ := bd1_h h
    obtain ⟨wr, hp, hp'⟩ := rd_of (ws := (ws_Mo_fills cI cJ cZ q_this q_m q_saved q_w q_savedWords q_isSaved q_text q_far q_queue q_parent q_by q_seen q_path q_row q_more q_stateOf v_textLength v_steps v_missing v_mores v_hash v_m v_w v_row)) (wc := (ws_Mo_known cI cJ cZ q_this q_m q_saved q_w q_savedWords q_isSaved q_text q_far q_queue q_parent q_by q_seen q_path q_row q_more q_stateOf v_textLength v_steps v_missing v_mores v_hash v_m v_w)) [0, 1, 2] rfl rfl
    refine r_VI (r := r_2) (As := [.long r_1]) (rest := []) (wc' := (ws_Mo_known cI cJ cZ q_this q_m q_saved q_w q_savedWords q_isSaved q_text q_far q_queue q_parent q_by q_seen q_path q_row q_more q_stateOf v_textLength v_steps v_missing v_mores v_hash v_m v_w)) (ws' := (ws_Mo_fills cI cJ cZ q_this q_m q_saved q_w q_savedWords q_isSaved q_text q_far q_queue q_parent q_by q_seen q_path q_row q_more q_stateOf v_textLength v_steps v_missing v_mores v_hash v_m v_w v_row)) C0 w (c_Mo_known hcall) hp hp' lm_RX10_127 mv_Mo_known ⟨rfl, rfl⟩ ⟨by decide, by decide⟩ ⟨Nat.zero_le _, Nat.zero_le _⟩ (q0 := 0) rfl rfl rfl rfl hl rfl (Nat.le_of_ble_eq_true rfl) dX10_fills_63 (fun H locs w => ?_)
    refine lv_istore (lv' := [(5, .int r_2), (3, .long r_1), (0, .ref q_this), (1, .int x1), (2, .int x2)]) hx hb dX10_fills_66 hl (by decide) rfl (fun ls hl => ?_)
    refine lv_iload hx hb dX10_fills_68 (lv_at hl 0 rfl) ?_
    refine lv_iconst (v := (-1 : Int32)) hx hb dX10_fills_70 (by decide) ?_
    refine lv_icmp_ne (tgt := 81) hx hb dX10_fills_71 (by decide) (fun hc => ?_) (fun hc => ?_)
    · have h := nf_h hc h
      refine lv_aload_n hx hb dX10_fills_81 rfl (lv_at hl 2 rfl) ?_
      refine r_get C0 w 0 rfl kf_Mo 14 (by decide) lf_RX10_48 rfl dX10_fills_82 ?_
      refine lv_iload_n hx hb dX10_fills_85 rfl (lv_at hl 3 rfl) ?_
      refine lv_dup2_11 hx hb dX10_fills_86 rfl rfl ?_
      obtain ⟨hi, h⟩ := gIn_h h
      refine r_iald C0 w 3 rfl rfl hi dX10_fills_87 ?_
      refine lv_iload hx hb dX10_fills_88 (lv_at hl 0 rfl) ?_
      refine lv_iload_n hx hb dX10_fills_90 rfl (lv_at hl 4 rfl) ?_
      refine lv_ishl hx hb dX10_fills_91 ?_
      refine lv_ior hx hb dX10_fills_92 ?_
      obtain ⟨hi, h⟩ := gIn_h h
      obtain ⟨v_row_1, ev_row_1⟩ : ∃ y, y = (upd v_row x1.toNatClampNeg ((v_row x1.toNatClampNeg) ||| (r_2 <<< (x2 &&& 31)))) := ⟨_, rfl⟩
      have h := bnd_at ev_row_1 h
      refine r_iast C0 w 3 rfl (f' := v_row_1) rfl hi ev_row_1 dX10_fills_93 (ws' := (ws_Mo_fills cI cJ cZ q_this q_m q_saved q_w q_savedWords q_isSaved q_text q_far q_queue q_parent q_by q_seen q_path q_row q_more q_stateOf v_textLength v_steps v_missing v_mores v_hash v_m v_w v_row_1)) rfl (fun H locs w => ?_)
      obtain ⟨x2_1, ex2_1⟩ : ∃ y : Int32, y = (x2 + 1) := ⟨_, rfl⟩
      have h := bnd_at ex2_1 h
      refine lv_iinc (v := x2_1) (lv' := [(2, .int x2_1), (5, .int r_2), (3, .long r_1), (0, .ref q_this), (1, .int x1)]) hx hb dX10_fills_94 hl (k := 4) rfl (by rw [ex2_1]; rfl) (by decide) rfl (fun ls hl => ?_)
      refine lv_goto (tgt := 31) hx hb dX10_fills_97 (by decide) ?_
      exact hrec _ _ _ _ _ h w (lv_sub hl [3, 4, 0] rfl)
    · have h := if_h hc h
      refine lv_aload_n hx hb dX10_fills_74 rfl (lv_at hl 2 rfl) ?_
      refine lv_lload_n hx hb dX10_fills_75 rfl (lv_at hl 1 rfl) ?_
      refine r_put C0 w 0 rfl kf_Mo 15 (by decide) lf_RX10_141 rfl rfl rfl (Nat.le_of_ble_eq_true rfl) dX10_fills_76 (ws' := (ws_Mo_fills cI cJ cZ q_this q_m q_saved q_w q_savedWords q_isSaved q_text q_far q_queue q_parent q_by q_seen q_path q_row q_more q_stateOf v_textLength v_steps r_1 v_mores v_hash v_m v_w v_row)) rfl (fun H locs w => ?_)
      refine lv_iconst (v := (0 : Int32)) hx hb dX10_fills_79 (by decide) ?_
      cases h
      exact hQ _ _ _ _ dX10_fills_80 (gB_n (v := (0 : Int32)) (Or.inl rfl)) w
set_option maxRecDepth 100000 in
theorem wl_Mo_fills_L31 {p : Program} {l : Launch} {e : Env} {s : State} {m : MethodId} {args : Array Value} {below : List Frame} {meth : Method} {c : Code} {Q : State → Prop} {A : Nat → Prop} {D : va_G} {cI cJ cZ cO : ClassId} {q_this q_m q_saved q_w q_savedWords q_isSaved q_text q_far q_queue q_parent q_by q_seen q_path q_row q_more q_stateOf : Nat} {v_textLength : Int32} {v_steps : Int32} {v_missing : Int64} {v_mores : Int32} {v_hash : Int64} {v_m : (Nat → Int32)} {v_w : (Nat → Int64)} {x1 : Int32} {x : Int32 × (Nat → Int32) × Int64} (C0 : Cx p s m args c A D cI cJ cZ cO cX10_fills 6 RX10) (hQ : RtI p l e rm_Mo_fills s m args below meth c Q A D cX10_fills .boolean (ws_Mo_fills cI cJ cZ q_this q_m q_saved q_w q_savedWords q_isSaved q_text q_far q_queue q_parent q_by q_seen q_path q_row q_more q_stateOf v_textLength v_steps x.2.2 v_mores v_hash v_m v_w x.2.1) x.1) {K : Int32 → (Nat → Int32) → Option (Int32 × (Nat → Int32) × Int64)} (hK : ∀ (x2 : Int32) (v_row : (Nat → Int32)) (H : Heap) (locs : List Loc) (ls : Array Slot), K x2 v_row = some x → Wd s A D (ws_Mo_fills cI cJ cZ q_this q_m q_saved q_w q_savedWords q_isSaved q_text q_far q_queue q_parent q_by q_seen q_path q_row q_more q_stateOf v_textLength v_steps v_missing v_mores v_hash v_m v_w v_row) H locs → lv_has ls 6 [(0, .ref q_this), (1, .int x1)] → W p l e rm_Mo_fills s m args below meth c H locs 0 0 Q (F0 m 100 ls [])) : ∀ (n : Nat) (x2 : Int32) (v_row : (Nat → Int32)) (H : Heap) (locs : List Loc) (ls : Array Slot), itr (fun _ _ => none) (f_Mo_fills_L31 v_m v_w x1 K) n x2 v_row = some x → Wd s A D (ws_Mo_fills cI cJ cZ q_this q_m q_saved q_w q_savedWords q_isSaved q_text q_far q_queue q_parent q_by q_seen q_path q_row q_more q_stateOf v_textLength v_steps v_missing v_mores v_hash v_m v_w v_row) H locs → lv_has ls 6 [(0, .ref q_this), (1, .int x1), (2, .int x2)] → W p l e rm_Mo_fills s m args below meth c H locs 0 0 Q (F0 m 31 ls []) := by
  intro n
  induction n with
  | zero => intro _ _ _ _ _ h; cases (show none = some _ from h)
  | succ n ih => intro _ _ _ _ _ h w hl; exact w_Mo_fills_L31 C0 hQ hK ih _ _ h w hl
set_option maxRecDepth 100000 in
theorem w_Mo_fills_L2 {p : Program} {l : Launch} {e : Env} {s : State} {m : MethodId} {args : Array Value} {below : List Frame} {meth : Method} {c : Code} {Q : State → Prop} {A : Nat → Prop} {D : va_G} {cI cJ cZ cO : ClassId} {q_this q_m q_saved q_w q_savedWords q_isSaved q_text q_far q_queue q_parent q_by q_seen q_path q_row q_more q_stateOf : Nat} {v_textLength : Int32} {v_steps : Int32} {v_missing : Int64} {v_mores : Int32} {v_hash : Int64} {v_m : (Nat → Int32)} {v_w : (Nat → Int64)} {x : Int32 × (Nat → Int32) × Int64} (C0 : Cx p s m args c A D cI cJ cZ cO cX10_fills 6 RX10) (hQ : RtI p l e rm_Mo_fills s m args below meth c Q A D cX10_fills .boolean (ws_Mo_fills cI cJ cZ q_this q_m q_saved q_w q_savedWords q_isSaved q_text q_far q_queue q_parent q_by q_seen q_path q_row q_more q_stateOf v_textLength v_steps x.2.2 v_mores v_hash v_m v_w x.2.1) x.1) {K : Int32 → (Nat → Int32) → Option (Int32 × (Nat → Int32) × Int64)} (hK : ∀ (x1 : Int32) (v_row : (Nat → Int32)) (H : Heap) (locs : List Loc) (ls : Array Slot), K x1 v_row = some x → Wd s A D (ws_Mo_fills cI cJ cZ q_this q_m q_saved q_w q_savedWords q_isSaved q_text q_far q_queue q_parent q_by q_seen q_path q_row q_more q_stateOf v_textLength v_steps v_missing v_mores v_hash v_m v_w v_row) H locs → lv_has ls 6 [] → W p l e rm_Mo_fills s m args below meth c H locs 0 0 Q (F0 m 106 ls [])) {rec : Int32 → (Nat → Int32) → Option (Int32 × (Nat → Int32) × Int64)} (hrec : ∀ (x1 : Int32) (v_row : (Nat → Int32)) (H : Heap) (locs : List Loc) (ls : Array Slot), rec x1 v_row = some x → Wd s A D (ws_Mo_fills cI cJ cZ q_this q_m q_saved q_w q_savedWords q_isSaved q_text q_far q_queue q_parent q_by q_seen q_path q_row q_more q_stateOf v_textLength v_steps v_missing v_mores v_hash v_m v_w v_row) H locs → lv_has ls 6 [(0, .ref q_this), (1, .int x1)] → W p l e rm_Mo_fills s m args below meth c H locs 0 0 Q (F0 m 2 ls [])) (x1 : Int32) (v_row : (Nat → Int32)) {H : Heap} {locs : List Loc} {ls : Array Slot} (h : f_Mo_fills_L2 v_m v_w K rec x1 v_row = some x) (w : Wd s A D (ws_Mo_fills cI cJ cZ q_this q_m q_saved q_w q_savedWords q_isSaved q_text q_far q_queue q_parent q_by q_seen q_path q_row q_more q_stateOf v_textLength v_steps v_missing v_mores v_hash v_m v_w v_row) H locs) (hl : lv_has ls 6 [(0, .ref q_this), (1, .int x1)]) : W p l e rm_Mo_fills s m args below meth c H locs 0 0 Q (F0 m 2 ls []) := by
  obtain ⟨hx, hb, hml, hown, hts, -, -⟩ := id C0
  unfold f_Mo_fills_L2 at h
  refine lv_iload_n hx hb dX10_fills_2 rfl (lv_at hl 1 rfl) ?_
  refine lv_aload_n hx hb dX10_fills_3 rfl (lv_at hl 0 rfl) ?_
  refine r_get C0 w 0 rfl kf_Mo 0 (by decide) lf_RX10_7 rfl dX10_fills_4 ?_
  refine lv_bipush (v := (38 : Int32)) hx hb dX10_fills_7 (by decide) ?_
  refine r_iald C0 w 1 rfl (k := 38) (by decide) (inl (by decide)) dX10_fills_9 ?_
  refine lv_iconst (v := (1 : Int32)) hx hb dX10_fills_10 (by decide) ?_
  refine lv_aload_n hx hb dX10_fills_11 rfl (lv_at hl 0 rfl) ?_
  refine r_get C0 w 0 rfl kf_Mo 0 (by decide) lf_RX10_7 rfl dX10_fills_12 ?_
  refine lv_iconst (v := (1 : Int32)) hx hb dX10_fills_15 (by decide) ?_
  refine r_iald C0 w 1 rfl (k := 1) (by decide) (inl (by decide)) dX10_fills_16 ?_
  refine lv_iadd hx hb dX10_fills_17 ?_
  refine lv_imul hx hb dX10_fills_18 ?_
  refine lv_icmp_ge (tgt := 106) hx hb dX10_fills_19 (by decide) (fun hc => ?_) (fun hc => ?_)
  · have h := if_h hc h
    exact hK _ _ _ _ _ h w (lv_sub hl [] rfl)
  · have h := nf_h hc h
    refine lv_aload_n hx hb dX10_fills_22 rfl (lv_at hl 0 rfl) ?_
    refine r_get C0 w 0 rfl kf_Mo 14 (by decide) lf_RX10_48 rfl dX10_fills_23 ?_
    refine lv_iload_n hx hb dX10_fills_26 rfl (lv_at hl 1 rfl) ?_
    refine lv_iconst (v := (0 : Int32)) hx hb dX10_fills_27 (by decide) ?_
    obtain ⟨hi, h⟩ := gIn_h h
    obtain ⟨v_row_1, ev_row_1⟩ : ∃ y, y = (upd v_row x1.toNatClampNeg (0 : Int32)) := ⟨_, rfl⟩
    have h := bnd_at ev_row_1 h
    refine r_iast C0 w 3 rfl (f' := v_row_1) rfl hi ev_row_1 dX10_fills_28 (ws' := (ws_Mo_fills cI cJ cZ q_this q_m q_saved q_w q_savedWords q_isSaved q_text q_far q_queue q_parent q_by q_seen q_path q_row q_more q_stateOf v_textLength v_steps v_missing v_mores v_hash v_m v_w v_row_1)) rfl (fun H locs w => ?_)
    refine lv_iconst (v := (0 : Int32)) hx hb dX10_fills_29 (by decide) ?_
    refine lv_istore_n (lv' := [(2, .int (0 : Int32)), (0, .ref q_this), (1, .int x1)]) hx hb dX10_fills_30 rfl hl (by decide) rfl (fun ls hl => ?_)
    refine wl_Mo_fills_L31 C0 hQ (fun x2 v_row_2 H locs ls h w hl => ?_) _ _ _ _ _ _ h w (lv_sub hl [1, 2, 0] rfl)
    obtain ⟨x1_1, ex1_1⟩ : ∃ y : Int32, y = (x1 + 1) := ⟨_, rfl⟩
    have h := bnd_at ex1_1 h
    refine lv_iinc (v := x1_1) (lv' := [(1, .int x1_1), (0, .ref q_this)]) hx hb dX10_fills_100 hl (k := 1) rfl (by rw [ex1_1]; rfl) (by decide) rfl (fun ls hl => ?_)
    refine lv_goto (tgt := 2) hx hb dX10_fills_103 (by decide) ?_
    exact hrec _ _ _ _ _ h w (lv_sub hl [1, 0] rfl)
set_option maxRecDepth 100000 in
theorem wl_Mo_fills_L2 {p : Program} {l : Launch} {e : Env} {s : State} {m : MethodId} {args : Array Value} {below : List Frame} {meth : Method} {c : Code} {Q : State → Prop} {A : Nat → Prop} {D : va_G} {cI cJ cZ cO : ClassId} {q_this q_m q_saved q_w q_savedWords q_isSaved q_text q_far q_queue q_parent q_by q_seen q_path q_row q_more q_stateOf : Nat} {v_textLength : Int32} {v_steps : Int32} {v_missing : Int64} {v_mores : Int32} {v_hash : Int64} {v_m : (Nat → Int32)} {v_w : (Nat → Int64)} {x : Int32 × (Nat → Int32) × Int64} (C0 : Cx p s m args c A D cI cJ cZ cO cX10_fills 6 RX10) (hQ : RtI p l e rm_Mo_fills s m args below meth c Q A D cX10_fills .boolean (ws_Mo_fills cI cJ cZ q_this q_m q_saved q_w q_savedWords q_isSaved q_text q_far q_queue q_parent q_by q_seen q_path q_row q_more q_stateOf v_textLength v_steps x.2.2 v_mores v_hash v_m v_w x.2.1) x.1) {K : Int32 → (Nat → Int32) → Option (Int32 × (Nat → Int32) × Int64)} (hK : ∀ (x1 : Int32) (v_row : (Nat → Int32)) (H : Heap) (locs : List Loc) (ls : Array Slot), K x1 v_row = some x → Wd s A D (ws_Mo_fills cI cJ cZ q_this q_m q_saved q_w q_savedWords q_isSaved q_text q_far q_queue q_parent q_by q_seen q_path q_row q_more q_stateOf v_textLength v_steps v_missing v_mores v_hash v_m v_w v_row) H locs → lv_has ls 6 [] → W p l e rm_Mo_fills s m args below meth c H locs 0 0 Q (F0 m 106 ls [])) : ∀ (n : Nat) (x1 : Int32) (v_row : (Nat → Int32)) (H : Heap) (locs : List Loc) (ls : Array Slot), itr (fun _ _ => none) (f_Mo_fills_L2 v_m v_w K) n x1 v_row = some x → Wd s A D (ws_Mo_fills cI cJ cZ q_this q_m q_saved q_w q_savedWords q_isSaved q_text q_far q_queue q_parent q_by q_seen q_path q_row q_more q_stateOf v_textLength v_steps v_missing v_mores v_hash v_m v_w v_row) H locs → lv_has ls 6 [(0, .ref q_this), (1, .int x1)] → W p l e rm_Mo_fills s m args below meth c H locs 0 0 Q (F0 m 2 ls []) := by
  intro n
  induction n with
  | zero => intro _ _ _ _ _ h; cases (show none = some _ from h)
  | succ n ih => intro _ _ _ _ _ h w hl; exact w_Mo_fills_L2 C0 hQ hK ih _ _ h w hl
set_option maxRecDepth 100000 in
theorem c_Mo_fills {l : Launch} {D : va_G} {cI cJ cZ cO : ClassId} {q_this q_m q_saved q_w q_savedWords q_isSaved q_text q_far q_queue q_parent q_by q_seen q_path q_row q_more q_stateOf : Nat} {v_textLength : Int32} {v_steps : Int32} {v_missing : Int64} {v_mores : Int32} {v_hash : Int64} {v_m : (Nat → Int32)} {v_w : (Nat → Int64)} {v_row : (Nat → Int32)} {x : Int32 × (Nat → Int32) × Int64} (h : f_Mo_fills v_missing v_m v_w v_row = some x) : ctI l D cI cJ cZ cO yX10_fills cX10_fills 6 .boolean rm_Mo_fills [.ref q_this] (ws_Mo_fills cI cJ cZ q_this q_m q_saved q_w q_savedWords q_isSaved q_text q_far q_queue q_parent q_by q_seen q_path q_row q_more q_stateOf v_textLength v_steps v_missing v_mores v_hash v_m v_w v_row) (ws_Mo_fills cI cJ cZ q_this q_m q_saved q_w q_savedWords q_isSaved q_text q_far q_queue q_parent q_by q_seen q_path q_row q_more q_stateOf v_textLength v_steps x.2.2 v_mores v_hash v_m v_w x.2.1) x.1 := by
  refine ctI_of (by decide) (Nat.le_of_ble_eq_true rfl) ?_
  intro p e s m below meth c Q A ls C0 hQ w hl
  have hl : lv_has ls 6 [(0, .ref q_this)] := hl
  generalize List.toArray (α := Value) [.ref q_this] = args at C0 hQ ⊢
  obtain ⟨hx, hb, hml, hown, hts, -, -⟩ := id C0
  unfold f_Mo_fills at h
  refine lv_iconst (v := (0 : Int32)) hx hb dX10_fills_0 (by decide) ?_
  refine lv_istore_n (lv' := [(1, .int (0 : Int32)), (0, .ref q_this)]) hx hb dX10_fills_1 rfl hl (by decide) rfl (fun ls hl => ?_)
  refine wl_Mo_fills_L2 C0 hQ (fun x1 v_row_1 H locs ls h w hl => ?_) _ _ _ _ _ _ h w (lv_sub hl [1, 0] rfl)
  refine lv_iconst (v := (1 : Int32)) hx hb dX10_fills_106 (by decide) ?_
  cases h
  exact hQ _ _ _ _ dX10_fills_107 (gB_n (v := (1 : Int32)) (Or.inr rfl)) w
theorem dX10_isWord_0 : decode cX10_isWord 0 = .ok (.iconst 0, 1) := by decide +kernel
theorem dX10_isWord_1 : decode cX10_isWord 1 = .ok (.istore 5, 2) := by decide +kernel
theorem dX10_isWord_3 : decode cX10_isWord 3 = .ok (.iload 5, 2) := by decide +kernel
theorem dX10_isWord_5 : decode cX10_isWord 5 = .ok (.iload_n 2, 1) := by decide +kernel
theorem dX10_isWord_6 : decode cX10_isWord 6 = .ok (.if_icmp .ge 26, 3) := by decide +kernel
theorem dX10_isWord_9 : decode cX10_isWord 9 = .ok (.aload_n 0, 1) := by decide +kernel
theorem dX10_isWord_10 : decode cX10_isWord 10 = .ok (.getfield 16, 3) := by decide +kernel
theorem dX10_isWord_13 : decode cX10_isWord 13 = .ok (.iload_n 1, 1) := by decide +kernel
theorem dX10_isWord_14 : decode cX10_isWord 14 = .ok (.iload 5, 2) := by decide +kernel
theorem dX10_isWord_16 : decode cX10_isWord 16 = .ok (.iadd, 1) := by decide +kernel
theorem dX10_isWord_17 : decode cX10_isWord 17 = .ok (.laload, 1) := by decide +kernel
theorem dX10_isWord_18 : decode cX10_isWord 18 = .ok (.lload_n 3, 1) := by decide +kernel
theorem dX10_isWord_19 : decode cX10_isWord 19 = .ok (.lcmp, 1) := by decide +kernel
theorem dX10_isWord_20 : decode cX10_isWord 20 = .ok (.ifCond .ne 6, 3) := by decide +kernel
theorem dX10_isWord_23 : decode cX10_isWord 23 = .ok (.iload 5, 2) := by decide +kernel
theorem dX10_isWord_25 : decode cX10_isWord 25 = .ok (.ireturn, 1) := by decide +kernel
theorem dX10_isWord_26 : decode cX10_isWord 26 = .ok (.iinc 5 1, 3) := by decide +kernel
theorem dX10_isWord_29 : decode cX10_isWord 29 = .ok (.goto (-26), 3) := by decide +kernel
theorem dX10_isWord_32 : decode cX10_isWord 32 = .ok (.iconst (-1), 1) := by decide +kernel
theorem dX10_isWord_33 : decode cX10_isWord 33 = .ok (.ireturn, 1) := by decide +kernel
set_option maxRecDepth 100000 in
theorem w_Mo_isWord_L3 {p : Program} {l : Launch} {e : Env} {s : State} {m : MethodId} {args : Array Value} {below : List Frame} {meth : Method} {c : Code} {Q : State → Prop} {A : Nat → Prop} {D : va_G} {cI cJ cZ cO : ClassId} {q_this q_m q_saved q_w q_savedWords q_isSaved q_text q_far q_queue q_parent q_by q_seen q_path q_row q_more q_stateOf : Nat} {v_textLength : Int32} {v_steps : Int32} {v_missing : Int64} {v_mores : Int32} {v_hash : Int64} {v_w : (Nat → Int64)} {x1 : Int32} {x2 : Int32} {x3 : Int64} {x : Int32} (C0 : Cx p s m args c A D cI cJ cZ cO cX10_isWord 6 RX10) (hQ : RtI p l e rm_Mo_isWord s m args below meth c Q A D cX10_isWord .int (ws_Mo_isWord cI cJ cZ q_this q_m q_saved q_w q_savedWords q_isSaved q_text q_far q_queue q_parent q_by q_seen q_path q_row q_more q_stateOf v_textLength v_steps v_missing v_mores v_hash v_w) x) {K : Int32 → Option (Int32)} (hK : ∀ (x5 : Int32) (H : Heap) (locs : List Loc) (ls : Array Slot), K x5 = some x → Wd s A D (ws_Mo_isWord cI cJ cZ q_this q_m q_saved q_w q_savedWords q_isSaved q_text q_far q_queue q_parent q_by q_seen q_path q_row q_more q_stateOf v_textLength v_steps v_missing v_mores v_hash v_w) H locs → lv_has ls 6 [] → W p l e rm_Mo_isWord s m args below meth c H locs 0 0 Q (F0 m 32 ls [])) {rec : Int32 → Option (Int32)} (hrec : ∀ (x5 : Int32) (H : Heap) (locs : List Loc) (ls : Array Slot), rec x5 = some x → Wd s A D (ws_Mo_isWord cI cJ cZ q_this q_m q_saved q_w q_savedWords q_isSaved q_text q_far q_queue q_parent q_by q_seen q_path q_row q_more q_stateOf v_textLength v_steps v_missing v_mores v_hash v_w) H locs → lv_has ls 6 [(0, .ref q_this), (1, .int x1), (2, .int x2), (3, .long x3), (5, .int x5)] → W p l e rm_Mo_isWord s m args below meth c H locs 0 0 Q (F0 m 3 ls [])) (x5 : Int32) {H : Heap} {locs : List Loc} {ls : Array Slot} (h : f_Mo_isWord_L3 v_w x1 x2 x3 K rec x5 = some x) (w : Wd s A D (ws_Mo_isWord cI cJ cZ q_this q_m q_saved q_w q_savedWords q_isSaved q_text q_far q_queue q_parent q_by q_seen q_path q_row q_more q_stateOf v_textLength v_steps v_missing v_mores v_hash v_w) H locs) (hl : lv_has ls 6 [(0, .ref q_this), (1, .int x1), (2, .int x2), (3, .long x3), (5, .int x5)]) : W p l e rm_Mo_isWord s m args below meth c H locs 0 0 Q (F0 m 3 ls []) := by
  obtain ⟨hx, hb, hml, hown, hts, -, -⟩ := id C0
  unfold f_Mo_isWord_L3 at h
  refine lv_iload hx hb dX10_isWord_3 (lv_at hl 4 rfl) ?_
  refine lv_iload_n hx hb dX10_isWord_5 rfl (lv_at hl 2 rfl) ?_
  refine lv_icmp_ge (tgt := 32) hx hb dX10_isWord_6 (by decide) (fun hc => ?_) (fun hc => ?_)
  · have h := if_h hc h
    exact hK _ _ _ _ h w (lv_sub hl [] rfl)
  · have h := nf_h hc h
    refine lv_aload_n hx hb dX10_isWord_9 rfl (lv_at hl 0 rfl) ?_
    refine r_get C0 w 0 rfl kf_Mo 2 (by decide) lf_RX10_16 rfl dX10_isWord_10 ?_
    refine lv_iload_n hx hb dX10_isWord_13 rfl (lv_at hl 1 rfl) ?_
    refine lv_iload hx hb dX10_isWord_14 (lv_at hl 4 rfl) ?_
    refine lv_iadd hx hb dX10_isWord_16 ?_
    obtain ⟨hi, h⟩ := gIn_h h
    refine r_lald C0 w 1 rfl rfl hi dX10_isWord_17 ?_
    refine lv_lload_n hx hb dX10_isWord_18 rfl (lv_at hl 3 rfl) ?_
    refine r_lc_ne (tgt := 26) hx hb dX10_isWord_19 dX10_isWord_20 (by decide) (fun hc => ?_) (fun hc => ?_)
    · have h := nf_h hc h
      obtain ⟨x5_1, ex5_1⟩ : ∃ y : Int32, y = (x5 + 1) := ⟨_, rfl⟩
      have h := bnd_at ex5_1 h
      refine lv_iinc (v := x5_1) (lv' := [(5, .int x5_1), (0, .ref q_this), (1, .int x1), (2, .int x2), (3, .long x3)]) hx hb dX10_isWord_26 hl (k := 4) rfl (by rw [ex5_1]; rfl) (by decide) rfl (fun ls hl => ?_)
      refine lv_goto (tgt := 3) hx hb dX10_isWord_29 (by decide) ?_
      exact hrec _ _ _ _ h w (lv_sub hl [1, 2, 3, 4, 0] rfl)
    · have h := if_h hc h
      refine lv_iload hx hb dX10_isWord_23 (lv_at hl 4 rfl) ?_
      cases h
      exact hQ _ _ _ _ dX10_isWord_25 rfl w
set_option maxRecDepth 100000 in
theorem wl_Mo_isWord_L3 {p : Program} {l : Launch} {e : Env} {s : State} {m : MethodId} {args : Array Value} {below : List Frame} {meth : Method} {c : Code} {Q : State → Prop} {A : Nat → Prop} {D : va_G} {cI cJ cZ cO : ClassId} {q_this q_m q_saved q_w q_savedWords q_isSaved q_text q_far q_queue q_parent q_by q_seen q_path q_row q_more q_stateOf : Nat} {v_textLength : Int32} {v_steps : Int32} {v_missing : Int64} {v_mores : Int32} {v_hash : Int64} {v_w : (Nat → Int64)} {x1 : Int32} {x2 : Int32} {x3 : Int64} {x : Int32} (C0 : Cx p s m args c A D cI cJ cZ cO cX10_isWord 6 RX10) (hQ : RtI p l e rm_Mo_isWord s m args below meth c Q A D cX10_isWord .int (ws_Mo_isWord cI cJ cZ q_this q_m q_saved q_w q_savedWords q_isSaved q_text q_far q_queue q_parent q_by q_seen q_path q_row q_more q_stateOf v_textLength v_steps v_missing v_mores v_hash v_w) x) {K : Int32 → Option (Int32)} (hK : ∀ (x5 : Int32) (H : Heap) (locs : List Loc) (ls : Array Slot), K x5 = some x → Wd s A D (ws_Mo_isWord cI cJ cZ q_this q_m q_saved q_w q_savedWords q_isSaved q_text q_far q_queue q_parent q_by q_seen q_path q_row q_more q_stateOf v_textLength v_steps v_missing v_mores v_hash v_w) H locs → lv_has ls 6 [] → W p l e rm_Mo_isWord s m args below meth c H locs 0 0 Q (F0 m 32 ls [])) : ∀ (n : Nat) (x5 : Int32) (H : Heap) (locs : List Loc) (ls : Array Slot), itr (fun _ => none) (f_Mo_isWord_L3 v_w x1 x2 x3 K) n x5 = some x → Wd s A D (ws_Mo_isWord cI cJ cZ q_this q_m q_saved q_w q_savedWords q_isSaved q_text q_far q_queue q_parent q_by q_seen q_path q_row q_more q_stateOf v_textLength v_steps v_missing v_mores v_hash v_w) H locs → lv_has ls 6 [(0, .ref q_this), (1, .int x1), (2, .int x2), (3, .long x3), (5, .int x5)] → W p l e rm_Mo_isWord s m args below meth c H locs 0 0 Q (F0 m 3 ls []) := by
  intro n
  induction n with
  | zero => intro _ _ _ _ h; cases (show none = some _ from h)
  | succ n ih => intro _ _ _ _ h w hl; exact w_Mo_isWord_L3 C0 hQ hK ih _ h w hl
set_option maxRecDepth 100000 in
theorem c_Mo_isWord {l : Launch} {D : va_G} {cI cJ cZ cO : ClassId} {q_this q_m q_saved q_w q_savedWords q_isSaved q_text q_far q_queue q_parent q_by q_seen q_path q_row q_more q_stateOf : Nat} {x1 : Int32} {x2 : Int32} {x3 : Int64} {v_textLength : Int32} {v_steps : Int32} {v_missing : Int64} {v_mores : Int32} {v_hash : Int64} {v_w : (Nat → Int64)} {x : Int32} (h : f_Mo_isWord x1 x2 x3 v_w = some x) : ctI l D cI cJ cZ cO yX10_isWord cX10_isWord 6 .int rm_Mo_isWord [.ref q_this, .int x1, .int x2, .long x3] (ws_Mo_isWord cI cJ cZ q_this q_m q_saved q_w q_savedWords q_isSaved q_text q_far q_queue q_parent q_by q_seen q_path q_row q_more q_stateOf v_textLength v_steps v_missing v_mores v_hash v_w) (ws_Mo_isWord cI cJ cZ q_this q_m q_saved q_w q_savedWords q_isSaved q_text q_far q_queue q_parent q_by q_seen q_path q_row q_more q_stateOf v_textLength v_steps v_missing v_mores v_hash v_w) x := by
  refine ctI_of (by decide) (Nat.le_of_ble_eq_true rfl) ?_
  intro p e s m below meth c Q A ls C0 hQ w hl
  have hl : lv_has ls 6 [(0, .ref q_this), (1, .int x1), (2, .int x2), (3, .long x3)] := hl
  generalize List.toArray (α := Value) [.ref q_this, .int x1, .int x2, .long x3] = args at C0 hQ ⊢
  obtain ⟨hx, hb, hml, hown, hts, -, -⟩ := id C0
  unfold f_Mo_isWord at h
  refine lv_iconst (v := (0 : Int32)) hx hb dX10_isWord_0 (by decide) ?_
  refine lv_istore (lv' := [(5, .int (0 : Int32)), (0, .ref q_this), (1, .int x1), (2, .int x2), (3, .long x3)]) hx hb dX10_isWord_1 hl (by decide) rfl (fun ls hl => ?_)
  refine wl_Mo_isWord_L3 C0 hQ (fun x5 H locs ls h w hl => ?_) _ _ _ _ _ h w (lv_sub hl [1, 2, 3, 4, 0] rfl)
  refine lv_iconst (v := (-1 : Int32)) hx hb dX10_isWord_32 (by decide) ?_
  cases h
  exact hQ _ _ _ _ dX10_isWord_33 rfl w
theorem dX10_longest_0 : decode cX10_longest 0 = .ok (.iconst 0, 1) := by decide +kernel
theorem dX10_longest_1 : decode cX10_longest 1 = .ok (.istore_n 3, 1) := by decide +kernel
theorem dX10_longest_2 : decode cX10_longest 2 = .ok (.iconst 0, 1) := by decide +kernel
theorem dX10_longest_3 : decode cX10_longest 3 = .ok (.istore 4, 2) := by decide +kernel
theorem dX10_longest_5 : decode cX10_longest 5 = .ok (.iload 4, 2) := by decide +kernel
theorem dX10_longest_7 : decode cX10_longest 7 = .ok (.iload_n 2, 1) := by decide +kernel
theorem dX10_longest_8 : decode cX10_longest 8 = .ok (.if_icmp .ge 36, 3) := by decide +kernel
theorem dX10_longest_11 : decode cX10_longest 11 = .ok (.aload_n 0, 1) := by decide +kernel
theorem dX10_longest_12 : decode cX10_longest 12 = .ok (.getfield 16, 3) := by decide +kernel
theorem dX10_longest_15 : decode cX10_longest 15 = .ok (.iload_n 1, 1) := by decide +kernel
theorem dX10_longest_16 : decode cX10_longest 16 = .ok (.iload 4, 2) := by decide +kernel
theorem dX10_longest_18 : decode cX10_longest 18 = .ok (.iadd, 1) := by decide +kernel
theorem dX10_longest_19 : decode cX10_longest 19 = .ok (.laload, 1) := by decide +kernel
theorem dX10_longest_20 : decode cX10_longest 20 = .ok (.invokestatic 62, 3) := by decide +kernel
theorem dX10_longest_23 : decode cX10_longest 23 = .ok (.istore 5, 2) := by decide +kernel
theorem dX10_longest_25 : decode cX10_longest 25 = .ok (.iload 5, 2) := by decide +kernel
theorem dX10_longest_27 : decode cX10_longest 27 = .ok (.iload_n 3, 1) := by decide +kernel
theorem dX10_longest_28 : decode cX10_longest 28 = .ok (.if_icmp .le 8, 3) := by decide +kernel
theorem dX10_longest_31 : decode cX10_longest 31 = .ok (.iload 5, 2) := by decide +kernel
theorem dX10_longest_33 : decode cX10_longest 33 = .ok (.goto 4, 3) := by decide +kernel
theorem dX10_longest_36 : decode cX10_longest 36 = .ok (.iload_n 3, 1) := by decide +kernel
theorem dX10_longest_37 : decode cX10_longest 37 = .ok (.istore_n 3, 1) := by decide +kernel
theorem dX10_longest_38 : decode cX10_longest 38 = .ok (.iinc 4 1, 3) := by decide +kernel
theorem dX10_longest_41 : decode cX10_longest 41 = .ok (.goto (-36), 3) := by decide +kernel
theorem dX10_longest_44 : decode cX10_longest 44 = .ok (.iload_n 3, 1) := by decide +kernel
theorem dX10_longest_45 : decode cX10_longest 45 = .ok (.ireturn, 1) := by decide +kernel
set_option maxRecDepth 100000 in
theorem w_Mo_longest_L5 {p : Program} {l : Launch} {e : Env} {s : State} {m : MethodId} {args : Array Value} {below : List Frame} {meth : Method} {c : Code} {Q : State → Prop} {A : Nat → Prop} {D : va_G} {cI cJ cZ cO : ClassId} {q_this q_m q_saved q_w q_savedWords q_isSaved q_text q_far q_queue q_parent q_by q_seen q_path q_row q_more q_stateOf : Nat} {v_textLength : Int32} {v_steps : Int32} {v_missing : Int64} {v_mores : Int32} {v_hash : Int64} {v_w : (Nat → Int64)} {x1 : Int32} {x2 : Int32} {x : Int32} (C0 : Cx p s m args c A D cI cJ cZ cO cX10_longest 6 RX10) (hQ : RtI p l e rm_Mo_longest s m args below meth c Q A D cX10_longest .int (ws_Mo_longest cI cJ cZ q_this q_m q_saved q_w q_savedWords q_isSaved q_text q_far q_queue q_parent q_by q_seen q_path q_row q_more q_stateOf v_textLength v_steps v_missing v_mores v_hash v_w) x) {K : Int32 → Int32 → Option (Int32)} (hK : ∀ (x3 : Int32) (x4 : Int32) (H : Heap) (locs : List Loc) (ls : Array Slot), K x3 x4 = some x → Wd s A D (ws_Mo_longest cI cJ cZ q_this q_m q_saved q_w q_savedWords q_isSaved q_text q_far q_queue q_parent q_by q_seen q_path q_row q_more q_stateOf v_textLength v_steps v_missing v_mores v_hash v_w) H locs → lv_has ls 6 [(3, .int x3)] → W p l e rm_Mo_longest s m args below meth c H locs 0 0 Q (F0 m 44 ls [])) {rec : Int32 → Int32 → Option (Int32)} (hrec : ∀ (x3 : Int32) (x4 : Int32) (H : Heap) (locs : List Loc) (ls : Array Slot), rec x3 x4 = some x → Wd s A D (ws_Mo_longest cI cJ cZ q_this q_m q_saved q_w q_savedWords q_isSaved q_text q_far q_queue q_parent q_by q_seen q_path q_row q_more q_stateOf v_textLength v_steps v_missing v_mores v_hash v_w) H locs → lv_has ls 6 [(0, .ref q_this), (1, .int x1), (2, .int x2), (3, .int x3), (4, .int x4)] → W p l e rm_Mo_longest s m args below meth c H locs 0 0 Q (F0 m 5 ls [])) (x3 : Int32) (x4 : Int32) {H : Heap} {locs : List Loc} {ls : Array Slot} (h : f_Mo_longest_L5 v_w x1 x2 K rec x3 x4 = some x) (w : Wd s A D (ws_Mo_longest cI cJ cZ q_this q_m q_saved q_w q_savedWords q_isSaved q_text q_far q_queue q_parent q_by q_seen q_path q_row q_more q_stateOf v_textLength v_steps v_missing v_mores v_hash v_w) H locs) (hl : lv_has ls 6 [(0, .ref q_this), (1, .int x1), (2, .int x2), (3, .int x3), (4, .int x4)]) : W p l e rm_Mo_longest s m args below meth c H locs 0 0 Q (F0 m 5 ls []) := by
  obtain ⟨hx, hb, hml, hown, hts, -, -⟩ := id C0
  unfold f_Mo_longest_L5 at h
  refine lv_iload hx hb dX10_longest_5 (lv_at hl 4 rfl) ?_
  refine lv_iload_n hx hb dX10_longest_7 rfl (lv_at hl 2 rfl) ?_
  refine lv_icmp_ge (tgt := 44) hx hb dX10_longest_8 (by decide) (fun hc => ?_) (fun hc => ?_)
  · have h := if_h hc h
    exact hK _ _ _ _ _ h w (lv_sub hl [3] rfl)
  · have h := nf_h hc h
    refine lv_aload_n hx hb dX10_longest_11 rfl (lv_at hl 0 rfl) ?_
    refine r_get C0 w 0 rfl kf_Mo 2 (by decide) lf_RX10_16 rfl dX10_longest_12 ?_
    refine lv_iload_n hx hb dX10_longest_15 rfl (lv_at hl 1 rfl) ?_
    refine lv_iload hx hb dX10_longest_16 (lv_at hl 4 rfl) ?_
    refine lv_iadd hx hb dX10_longest_18 ?_
    obtain ⟨hi, h⟩ := gIn_h h
    refine r_lald C0 w 1 rfl rfl hi dX10_longest_19 ?_
    obtain ⟨r, hcall, h⟩ := bd1_h h
    obtain ⟨wr, hp, hp'⟩ := rd_of (ws := (ws_Mo_longest cI cJ cZ q_this q_m q_saved q_w q_savedWords q_isSaved q_text q_far q_queue q_parent q_by q_seen q_path q_row q_more q_stateOf v_textLength v_steps v_missing v_mores v_hash v_w)) (wc := (ws_Mo_lengthOf cI cJ cZ)) [] rfl rfl
    refine r_SI (r := r) (As := [.long (v_w (x1 + x4).toNatClampNeg)]) (rest := []) (wc' := (ws_Mo_lengthOf cI cJ cZ)) (ws' := (ws_Mo_longest cI cJ cZ q_this q_m q_saved q_w q_savedWords q_isSaved q_text q_far q_queue q_parent q_by q_seen q_path q_row q_more q_stateOf v_textLength v_steps v_missing v_mores v_hash v_w)) C0 w (c_Mo_lengthOf hcall) hp hp' lm_RX10_62 ms_Mo_lengthOf ⟨rfl, rfl⟩ ⟨by decide, by decide⟩ ⟨Nat.zero_le _, Nat.zero_le _⟩ rfl hl rfl (Nat.le_of_ble_eq_true rfl) dX10_longest_20 (fun H locs w => ?_)
    refine lv_istore (lv' := [(5, .int r), (0, .ref q_this), (1, .int x1), (2, .int x2), (3, .int x3), (4, .int x4)]) hx hb dX10_longest_23 hl (by decide) rfl (fun ls hl => ?_)
    refine lv_iload hx hb dX10_longest_25 (lv_at hl 0 rfl) ?_
    refine lv_iload_n hx hb dX10_longest_27 rfl (lv_at hl 4 rfl) ?_
    obtain ⟨t, et⟩ : ∃ y : Int32, y = (if r ≤ x3 then x3 else r) := ⟨_, rfl⟩
    have h := bnd_at et h
    have J : W p l e rm_Mo_longest s m args below meth c H locs 0 0 Q (F0 m 37 ls [.int t]) := by
      refine lv_istore_n (lv' := [(3, .int t), (5, .int r), (0, .ref q_this), (1, .int x1), (2, .int x2), (4, .int x4)]) hx hb dX10_longest_37 rfl hl (by decide) rfl (fun ls hl => ?_)
      obtain ⟨x4_1, ex4_1⟩ : ∃ y : Int32, y = (x4 + 1) := ⟨_, rfl⟩
      have h := bnd_at ex4_1 h
      refine lv_iinc (v := x4_1) (lv' := [(4, .int x4_1), (3, .int t), (5, .int r), (0, .ref q_this), (1, .int x1), (2, .int x2)]) hx hb dX10_longest_38 hl (k := 5) rfl (by rw [ex4_1]; rfl) (by decide) rfl (fun ls hl => ?_)
      refine lv_goto (tgt := 5) hx hb dX10_longest_41 (by decide) ?_
      exact hrec _ _ _ _ _ h w (lv_sub hl [3, 4, 5, 1, 0] rfl)
    refine lv_icmp_le (tgt := 36) hx hb dX10_longest_28 (by decide) (fun hc => ?_) (fun hc => ?_)
    · refine lv_iload_n hx hb dX10_longest_36 rfl (lv_at hl 4 rfl) ?_
      exact r_eqi (et.trans (if_pos hc)) J
    · refine lv_iload hx hb dX10_longest_31 (lv_at hl 0 rfl) ?_
      refine lv_goto (tgt := 37) hx hb dX10_longest_33 (by decide) ?_
      exact r_eqi (et.trans (if_neg hc)) J
set_option maxRecDepth 100000 in
theorem wl_Mo_longest_L5 {p : Program} {l : Launch} {e : Env} {s : State} {m : MethodId} {args : Array Value} {below : List Frame} {meth : Method} {c : Code} {Q : State → Prop} {A : Nat → Prop} {D : va_G} {cI cJ cZ cO : ClassId} {q_this q_m q_saved q_w q_savedWords q_isSaved q_text q_far q_queue q_parent q_by q_seen q_path q_row q_more q_stateOf : Nat} {v_textLength : Int32} {v_steps : Int32} {v_missing : Int64} {v_mores : Int32} {v_hash : Int64} {v_w : (Nat → Int64)} {x1 : Int32} {x2 : Int32} {x : Int32} (C0 : Cx p s m args c A D cI cJ cZ cO cX10_longest 6 RX10) (hQ : RtI p l e rm_Mo_longest s m args below meth c Q A D cX10_longest .int (ws_Mo_longest cI cJ cZ q_this q_m q_saved q_w q_savedWords q_isSaved q_text q_far q_queue q_parent q_by q_seen q_path q_row q_more q_stateOf v_textLength v_steps v_missing v_mores v_hash v_w) x) {K : Int32 → Int32 → Option (Int32)} (hK : ∀ (x3 : Int32) (x4 : Int32) (H : Heap) (locs : List Loc) (ls : Array Slot), K x3 x4 = some x → Wd s A D (ws_Mo_longest cI cJ cZ q_this q_m q_saved q_w q_savedWords q_isSaved q_text q_far q_queue q_parent q_by q_seen q_path q_row q_more q_stateOf v_textLength v_steps v_missing v_mores v_hash v_w) H locs → lv_has ls 6 [(3, .int x3)] → W p l e rm_Mo_longest s m args below meth c H locs 0 0 Q (F0 m 44 ls [])) : ∀ (n : Nat) (x3 : Int32) (x4 : Int32) (H : Heap) (locs : List Loc) (ls : Array Slot), itr (fun _ _ => none) (f_Mo_longest_L5 v_w x1 x2 K) n x3 x4 = some x → Wd s A D (ws_Mo_longest cI cJ cZ q_this q_m q_saved q_w q_savedWords q_isSaved q_text q_far q_queue q_parent q_by q_seen q_path q_row q_more q_stateOf v_textLength v_steps v_missing v_mores v_hash v_w) H locs → lv_has ls 6 [(0, .ref q_this), (1, .int x1), (2, .int x2), (3, .int x3), (4, .int x4)] → W p l e rm_Mo_longest s m args below meth c H locs 0 0 Q (F0 m 5 ls []) := by
  intro n
  induction n with
  | zero => intro _ _ _ _ _ h; cases (show none = some _ from h)
  | succ n ih => intro _ _ _ _ _ h w hl; exact w_Mo_longest_L5 C0 hQ hK ih _ _ h w hl
set_option maxRecDepth 100000 in
theorem c_Mo_longest {l : Launch} {D : va_G} {cI cJ cZ cO : ClassId} {q_this q_m q_saved q_w q_savedWords q_isSaved q_text q_far q_queue q_parent q_by q_seen q_path q_row q_more q_stateOf : Nat} {x1 : Int32} {x2 : Int32} {v_textLength : Int32} {v_steps : Int32} {v_missing : Int64} {v_mores : Int32} {v_hash : Int64} {v_w : (Nat → Int64)} {x : Int32} (h : f_Mo_longest x1 x2 v_w = some x) : ctI l D cI cJ cZ cO yX10_longest cX10_longest 6 .int rm_Mo_longest [.ref q_this, .int x1, .int x2] (ws_Mo_longest cI cJ cZ q_this q_m q_saved q_w q_savedWords q_isSaved q_text q_far q_queue q_parent q_by q_seen q_path q_row q_more q_stateOf v_textLength v_steps v_missing v_mores v_hash v_w) (ws_Mo_longest cI cJ cZ q_this q_m q_saved q_w q_savedWords q_isSaved q_text q_far q_queue q_parent q_by q_seen q_path q_row q_more q_stateOf v_textLength v_steps v_missing v_mores v_hash v_w) x := by
  refine ctI_of (by decide) (Nat.le_of_ble_eq_true rfl) ?_
  intro p e s m below meth c Q A ls C0 hQ w hl
  have hl : lv_has ls 6 [(0, .ref q_this), (1, .int x1), (2, .int x2)] := hl
  generalize List.toArray (α := Value) [.ref q_this, .int x1, .int x2] = args at C0 hQ ⊢
  obtain ⟨hx, hb, hml, hown, hts, -, -⟩ := id C0
  unfold f_Mo_longest at h
  refine lv_iconst (v := (0 : Int32)) hx hb dX10_longest_0 (by decide) ?_
  refine lv_istore_n (lv' := [(3, .int (0 : Int32)), (0, .ref q_this), (1, .int x1), (2, .int x2)]) hx hb dX10_longest_1 rfl hl (by decide) rfl (fun ls hl => ?_)
  refine lv_iconst (v := (0 : Int32)) hx hb dX10_longest_2 (by decide) ?_
  refine lv_istore (lv' := [(4, .int (0 : Int32)), (3, .int (0 : Int32)), (0, .ref q_this), (1, .int x1), (2, .int x2)]) hx hb dX10_longest_3 hl (by decide) rfl (fun ls hl => ?_)
  refine wl_Mo_longest_L5 C0 hQ (fun x3 x4 H locs ls h w hl => ?_) _ _ _ _ _ _ h w (lv_sub hl [2, 3, 4, 1, 0] rfl)
  refine lv_iload_n hx hb dX10_longest_44 rfl (lv_at hl 0 rfl) ?_
  cases h
  exact hQ _ _ _ _ dX10_longest_45 rfl w
theorem dX10_wants_0 : decode cX10_wants 0 = .ok (.aload_n 0, 1) := by decide +kernel
theorem dX10_wants_1 : decode cX10_wants 1 = .ok (.iload_n 3, 1) := by decide +kernel
theorem dX10_wants_2 : decode cX10_wants 2 = .ok (.ifCond .eq 9, 3) := by decide +kernel
theorem dX10_wants_5 : decode cX10_wants 5 = .ok (.sipush 344, 3) := by decide +kernel
theorem dX10_wants_8 : decode cX10_wants 8 = .ok (.goto 6, 3) := by decide +kernel
theorem dX10_wants_11 : decode cX10_wants 11 = .ok (.sipush 304, 3) := by decide +kernel
theorem dX10_wants_14 : decode cX10_wants 14 = .ok (.iload_n 3, 1) := by decide +kernel
theorem dX10_wants_15 : decode cX10_wants 15 = .ok (.ifCond .eq 13, 3) := by decide +kernel
theorem dX10_wants_18 : decode cX10_wants 18 = .ok (.aload_n 0, 1) := by decide +kernel
theorem dX10_wants_19 : decode cX10_wants 19 = .ok (.getfield 7, 3) := by decide +kernel
theorem dX10_wants_22 : decode cX10_wants 22 = .ok (.bipush 39, 2) := by decide +kernel
theorem dX10_wants_24 : decode cX10_wants 24 = .ok (.iaload, 1) := by decide +kernel
theorem dX10_wants_25 : decode cX10_wants 25 = .ok (.goto 10, 3) := by decide +kernel
theorem dX10_wants_28 : decode cX10_wants 28 = .ok (.aload_n 0, 1) := by decide +kernel
theorem dX10_wants_29 : decode cX10_wants 29 = .ok (.getfield 7, 3) := by decide +kernel
theorem dX10_wants_32 : decode cX10_wants 32 = .ok (.bipush 38, 2) := by decide +kernel
theorem dX10_wants_34 : decode cX10_wants 34 = .ok (.iaload, 1) := by decide +kernel
theorem dX10_wants_35 : decode cX10_wants 35 = .ok (.lload_n 1, 1) := by decide +kernel
theorem dX10_wants_36 : decode cX10_wants 36 = .ok (.invokevirtual 145, 3) := by decide +kernel
theorem dX10_wants_39 : decode cX10_wants 39 = .ok (.iconst (-1), 1) := by decide +kernel
theorem dX10_wants_40 : decode cX10_wants 40 = .ok (.if_icmp .ne 23, 3) := by decide +kernel
theorem dX10_wants_43 : decode cX10_wants 43 = .ok (.aload_n 0, 1) := by decide +kernel
theorem dX10_wants_44 : decode cX10_wants 44 = .ok (.getfield 51, 3) := by decide +kernel
theorem dX10_wants_47 : decode cX10_wants 47 = .ok (.aload_n 0, 1) := by decide +kernel
theorem dX10_wants_48 : decode cX10_wants 48 = .ok (.getfield 149, 3) := by decide +kernel
theorem dX10_wants_51 : decode cX10_wants 51 = .ok (.lload_n 1, 1) := by decide +kernel
theorem dX10_wants_52 : decode cX10_wants 52 = .ok (.lastore, 1) := by decide +kernel
theorem dX10_wants_53 : decode cX10_wants 53 = .ok (.aload_n 0, 1) := by decide +kernel
theorem dX10_wants_54 : decode cX10_wants 54 = .ok (.dup, 1) := by decide +kernel
theorem dX10_wants_55 : decode cX10_wants 55 = .ok (.getfield 149, 3) := by decide +kernel
theorem dX10_wants_58 : decode cX10_wants 58 = .ok (.iconst 1, 1) := by decide +kernel
theorem dX10_wants_59 : decode cX10_wants 59 = .ok (.iadd, 1) := by decide +kernel
theorem dX10_wants_60 : decode cX10_wants 60 = .ok (.putfield 149, 3) := by decide +kernel
theorem dX10_wants_63 : decode cX10_wants 63 = .ok (.return_, 1) := by decide +kernel
set_option maxRecDepth 100000 in
theorem c_Mo_wants {l : Launch} {D : va_G} {cI cJ cZ cO : ClassId} {q_this q_m q_saved q_w q_savedWords q_isSaved q_text q_far q_queue q_parent q_by q_seen q_path q_row q_more q_stateOf : Nat} {x1 : Int64} {x3 : Int32} {v_textLength : Int32} {v_steps : Int32} {v_missing : Int64} {v_mores : Int32} {v_hash : Int64} {v_m : (Nat → Int32)} {v_w : (Nat → Int64)} {v_more : (Nat → Int64)} {x : (Nat → Int64) × Int32} (h : f_Mo_wants x1 x3 v_mores v_m v_w v_more = some x) : ctV l D cI cJ cZ cO yX10_wants cX10_wants 4 rm_Mo_wants [.ref q_this, .long x1, .int x3] (ws_Mo_wants cI cJ cZ q_this q_m q_saved q_w q_savedWords q_isSaved q_text q_far q_queue q_parent q_by q_seen q_path q_row q_more q_stateOf v_textLength v_steps v_missing v_mores v_hash v_m v_w v_more) (ws_Mo_wants cI cJ cZ q_this q_m q_saved q_w q_savedWords q_isSaved q_text q_far q_queue q_parent q_by q_seen q_path q_row q_more q_stateOf v_textLength v_steps v_missing x.2 v_hash v_m v_w x.1) := by
  refine ctV_of (by decide) (Nat.le_of_ble_eq_true rfl) ?_
  intro p e s m below meth c Q A ls C0 hQ w hl
  have hl : lv_has ls 4 [(0, .ref q_this), (1, .long x1), (3, .int x3)] := hl
  generalize List.toArray (α := Value) [.ref q_this, .long x1, .int x3] = args at C0 hQ ⊢
  obtain ⟨hx, hb, hml, hown, hts, -, -⟩ := id C0
  unfold f_Mo_wants at h
  obtain ⟨H, eH⟩ : ∃ z, z = s.heap := ⟨_, rfl⟩
  obtain ⟨locs, eL⟩ : ∃ z : List Loc, z = [] := ⟨_, rfl⟩
  rw [← eH, ← eL] at w ⊢
  refine lv_aload_n hx hb dX10_wants_0 rfl (lv_at hl 0 rfl) ?_
  refine lv_iload_n hx hb dX10_wants_1 rfl (lv_at hl 2 rfl) ?_
  obtain ⟨t, et⟩ : ∃ y : Int32, y = (if x3 = 0 then (304 : Int32) else (344 : Int32)) := ⟨_, rfl⟩
  have h := bnd_at et h
  have J : W p l e rm_Mo_wants s m args below meth c H locs 0 0 Q (F0 m 14 ls [.int t, .ref q_this]) := by
    refine lv_iload_n hx hb dX10_wants_14 rfl (lv_at hl 2 rfl) ?_
    obtain ⟨t_1, et_1⟩ : ∃ y : Int32, y = (if x3 = 0 then (v_m 38) else (v_m 39)) := ⟨_, rfl⟩
    have h := bnd_at et_1 h
    have J : W p l e rm_Mo_wants s m args below meth c H locs 0 0 Q (F0 m 35 ls [.int t_1, .int t, .ref q_this]) := by
      refine lv_lload_n hx hb dX10_wants_35 rfl (lv_at hl 1 rfl) ?_
      obtain ⟨r, hcall, h⟩ := bd1_h h
      obtain ⟨wr, hp, hp'⟩ := rd_of (ws := (ws_Mo_wants cI cJ cZ q_this q_m q_saved q_w q_savedWords q_isSaved q_text q_far q_queue q_parent q_by q_seen q_path q_row q_more q_stateOf v_textLength v_steps v_missing v_mores v_hash v_m v_w v_more)) (wc := (ws_Mo_isWord cI cJ cZ q_this q_m q_saved q_w q_savedWords q_isSaved q_text q_far q_queue q_parent q_by q_seen q_path q_row q_more q_stateOf v_textLength v_steps v_missing v_mores v_hash v_w)) [0, 2] rfl rfl
      refine r_VI (r := r) (As := [.int t, .int t_1, .long x1]) (rest := []) (wc' := (ws_Mo_isWord cI cJ cZ q_this q_m q_saved q_w q_savedWords q_isSaved q_text q_far q_queue q_parent q_by q_seen q_path q_row q_more q_stateOf v_textLength v_steps v_missing v_mores v_hash v_w)) (ws' := (ws_Mo_wants cI cJ cZ q_this q_m q_saved q_w q_savedWords q_isSaved q_text q_far q_queue q_parent q_by q_seen q_path q_row q_more q_stateOf v_textLength v_steps v_missing v_mores v_hash v_m v_w v_more)) C0 w (c_Mo_isWord hcall) hp hp' lm_RX10_145 mv_Mo_isWord ⟨rfl, rfl⟩ ⟨by decide, by decide⟩ ⟨Nat.zero_le _, Nat.zero_le _⟩ (q0 := 0) rfl rfl rfl rfl hl rfl (Nat.le_of_ble_eq_true rfl) dX10_wants_36 (fun H locs w => ?_)
      refine lv_iconst (v := (-1 : Int32)) hx hb dX10_wants_39 (by decide) ?_
      refine lv_icmp_ne (tgt := 63) hx hb dX10_wants_40 (by decide) (fun hc => ?_) (fun hc => ?_)
      · have h := nf_h hc h
        cases h
        exact hQ _ _ _ _ dX10_wants_63 w
      · have h := if_h hc h
        refine lv_aload_n hx hb dX10_wants_43 rfl (lv_at hl 0 rfl) ?_
        refine r_get C0 w 0 rfl kf_Mo 16 (by decide) lf_RX10_51 rfl dX10_wants_44 ?_
        refine lv_aload_n hx hb dX10_wants_47 rfl (lv_at hl 0 rfl) ?_
        refine r_get C0 w 0 rfl kf_Mo 17 (by decide) lf_RX10_149 rfl dX10_wants_48 ?_
        refine lv_lload_n hx hb dX10_wants_51 rfl (lv_at hl 1 rfl) ?_
        obtain ⟨hi, h⟩ := gIn_h h
        obtain ⟨v_more_1, ev_more_1⟩ : ∃ y, y = (vp_updL v_more v_mores.toNatClampNeg x1) := ⟨_, rfl⟩
        have h := bnd_at ev_more_1 h
        refine r_last C0 w 3 rfl (f' := v_more_1) rfl hi ev_more_1 dX10_wants_52 (ws' := (ws_Mo_wants cI cJ cZ q_this q_m q_saved q_w q_savedWords q_isSaved q_text q_far q_queue q_parent q_by q_seen q_path q_row q_more q_stateOf v_textLength v_steps v_missing v_mores v_hash v_m v_w v_more_1)) rfl (fun H locs w => ?_)
        refine lv_aload_n hx hb dX10_wants_53 rfl (lv_at hl 0 rfl) ?_
        refine lv_dup hx hb dX10_wants_54 rfl ?_
        refine r_get C0 w 0 rfl kf_Mo 17 (by decide) lf_RX10_149 rfl dX10_wants_55 ?_
        refine lv_iconst (v := (1 : Int32)) hx hb dX10_wants_58 (by decide) ?_
        refine lv_iadd hx hb dX10_wants_59 ?_
        refine lv_topi (fun v_mores_1 ev_mores_1 => ?_)
        have h := bnd_at ev_mores_1 h
        refine r_put C0 w 0 rfl kf_Mo 17 (by decide) lf_RX10_149 rfl rfl rfl (Nat.le_of_ble_eq_true rfl) dX10_wants_60 (ws' := (ws_Mo_wants cI cJ cZ q_this q_m q_saved q_w q_savedWords q_isSaved q_text q_far q_queue q_parent q_by q_seen q_path q_row q_more q_stateOf v_textLength v_steps v_missing v_mores_1 v_hash v_m v_w v_more_1)) rfl (fun H locs w => ?_)
        cases h
        exact hQ _ _ _ _ dX10_wants_63 w
    refine lv_if_eq (tgt := 28) hx hb dX10_wants_15 (by decide) (fun hc => ?_) (fun hc => ?_)
    · refine lv_aload_n hx hb dX10_wants_28 rfl (lv_at hl 0 rfl) ?_
      refine r_get C0 w 0 rfl kf_Mo 0 (by decide) lf_RX10_7 rfl dX10_wants_29 ?_
      refine lv_bipush (v := (38 : Int32)) hx hb dX10_wants_32 (by decide) ?_
      refine r_iald C0 w 1 rfl (k := 38) (by decide) (inl (by decide)) dX10_wants_34 ?_
      exact r_eqi (et_1.trans (if_pos hc)) J
    · refine lv_aload_n hx hb dX10_wants_18 rfl (lv_at hl 0 rfl) ?_
      refine r_get C0 w 0 rfl kf_Mo 0 (by decide) lf_RX10_7 rfl dX10_wants_19 ?_
      refine lv_bipush (v := (39 : Int32)) hx hb dX10_wants_22 (by decide) ?_
      refine r_iald C0 w 1 rfl (k := 39) (by decide) (inl (by decide)) dX10_wants_24 ?_
      refine lv_goto (tgt := 35) hx hb dX10_wants_25 (by decide) ?_
      exact r_eqi (et_1.trans (if_neg hc)) J
  refine lv_if_eq (tgt := 11) hx hb dX10_wants_2 (by decide) (fun hc => ?_) (fun hc => ?_)
  · refine lv_sipush (v := (304 : Int32)) hx hb dX10_wants_11 (by decide) ?_
    exact r_eqi (et.trans (if_pos hc)) J
  · refine lv_sipush (v := (344 : Int32)) hx hb dX10_wants_5 (by decide) ?_
    refine lv_goto (tgt := 14) hx hb dX10_wants_8 (by decide) ?_
    exact r_eqi (et.trans (if_neg hc)) J
theorem dX10_fit_0 : decode cX10_fit 0 = .ok (.aload_n 0, 1) := by decide +kernel
theorem dX10_fit_1 : decode cX10_fit 1 = .ok (.sipush 304, 3) := by decide +kernel
theorem dX10_fit_4 : decode cX10_fit 4 = .ok (.aload_n 0, 1) := by decide +kernel
theorem dX10_fit_5 : decode cX10_fit 5 = .ok (.getfield 7, 3) := by decide +kernel
theorem dX10_fit_8 : decode cX10_fit 8 = .ok (.bipush 38, 2) := by decide +kernel
theorem dX10_fit_10 : decode cX10_fit 10 = .ok (.iaload, 1) := by decide +kernel
theorem dX10_fit_11 : decode cX10_fit 11 = .ok (.invokevirtual 152, 3) := by decide +kernel
theorem dX10_fit_14 : decode cX10_fit 14 = .ok (.istore_n 2, 1) := by decide +kernel
theorem dX10_fit_15 : decode cX10_fit 15 = .ok (.aload_n 0, 1) := by decide +kernel
theorem dX10_fit_16 : decode cX10_fit 16 = .ok (.sipush 344, 3) := by decide +kernel
theorem dX10_fit_19 : decode cX10_fit 19 = .ok (.aload_n 0, 1) := by decide +kernel
theorem dX10_fit_20 : decode cX10_fit 20 = .ok (.getfield 7, 3) := by decide +kernel
theorem dX10_fit_23 : decode cX10_fit 23 = .ok (.bipush 39, 2) := by decide +kernel
theorem dX10_fit_25 : decode cX10_fit 25 = .ok (.iaload, 1) := by decide +kernel
theorem dX10_fit_26 : decode cX10_fit 26 = .ok (.invokevirtual 152, 3) := by decide +kernel
theorem dX10_fit_29 : decode cX10_fit 29 = .ok (.istore_n 3, 1) := by decide +kernel
theorem dX10_fit_30 : decode cX10_fit 30 = .ok (.iconst 0, 1) := by decide +kernel
theorem dX10_fit_31 : decode cX10_fit 31 = .ok (.istore 4, 2) := by decide +kernel
theorem dX10_fit_33 : decode cX10_fit 33 = .ok (.iload 4, 2) := by decide +kernel
theorem dX10_fit_35 : decode cX10_fit 35 = .ok (.aload_n 0, 1) := by decide +kernel
theorem dX10_fit_36 : decode cX10_fit 36 = .ok (.getfield 149, 3) := by decide +kernel
theorem dX10_fit_39 : decode cX10_fit 39 = .ok (.if_icmp .ge 55, 3) := by decide +kernel
theorem dX10_fit_42 : decode cX10_fit 42 = .ok (.aload_n 0, 1) := by decide +kernel
theorem dX10_fit_43 : decode cX10_fit 43 = .ok (.getfield 51, 3) := by decide +kernel
theorem dX10_fit_46 : decode cX10_fit 46 = .ok (.iload 4, 2) := by decide +kernel
theorem dX10_fit_48 : decode cX10_fit 48 = .ok (.laload, 1) := by decide +kernel
theorem dX10_fit_49 : decode cX10_fit 49 = .ok (.invokestatic 62, 3) := by decide +kernel
theorem dX10_fit_52 : decode cX10_fit 52 = .ok (.istore 5, 2) := by decide +kernel
theorem dX10_fit_54 : decode cX10_fit 54 = .ok (.iload_n 1, 1) := by decide +kernel
theorem dX10_fit_55 : decode cX10_fit 55 = .ok (.ifCond .ne 14, 3) := by decide +kernel
theorem dX10_fit_58 : decode cX10_fit 58 = .ok (.iload 5, 2) := by decide +kernel
theorem dX10_fit_60 : decode cX10_fit 60 = .ok (.iload_n 2, 1) := by decide +kernel
theorem dX10_fit_61 : decode cX10_fit 61 = .ok (.if_icmp .le 8, 3) := by decide +kernel
theorem dX10_fit_64 : decode cX10_fit 64 = .ok (.iload 5, 2) := by decide +kernel
theorem dX10_fit_66 : decode cX10_fit 66 = .ok (.goto 4, 3) := by decide +kernel
theorem dX10_fit_69 : decode cX10_fit 69 = .ok (.iload_n 2, 1) := by decide +kernel
theorem dX10_fit_70 : decode cX10_fit 70 = .ok (.istore_n 2, 1) := by decide +kernel
theorem dX10_fit_71 : decode cX10_fit 71 = .ok (.iload_n 1, 1) := by decide +kernel
theorem dX10_fit_72 : decode cX10_fit 72 = .ok (.ifCond .eq 14, 3) := by decide +kernel
theorem dX10_fit_75 : decode cX10_fit 75 = .ok (.iload 5, 2) := by decide +kernel
theorem dX10_fit_77 : decode cX10_fit 77 = .ok (.iload_n 3, 1) := by decide +kernel
theorem dX10_fit_78 : decode cX10_fit 78 = .ok (.if_icmp .le 8, 3) := by decide +kernel
theorem dX10_fit_81 : decode cX10_fit 81 = .ok (.iload 5, 2) := by decide +kernel
theorem dX10_fit_83 : decode cX10_fit 83 = .ok (.goto 4, 3) := by decide +kernel
theorem dX10_fit_86 : decode cX10_fit 86 = .ok (.iload_n 3, 1) := by decide +kernel
theorem dX10_fit_87 : decode cX10_fit 87 = .ok (.istore_n 3, 1) := by decide +kernel
theorem dX10_fit_88 : decode cX10_fit 88 = .ok (.iinc 4 1, 3) := by decide +kernel
theorem dX10_fit_91 : decode cX10_fit 91 = .ok (.goto (-58), 3) := by decide +kernel
theorem dX10_fit_94 : decode cX10_fit 94 = .ok (.iload_n 1, 1) := by decide +kernel
theorem dX10_fit_95 : decode cX10_fit 95 = .ok (.ifCond .eq 28, 3) := by decide +kernel
theorem dX10_fit_98 : decode cX10_fit 98 = .ok (.aload_n 0, 1) := by decide +kernel
theorem dX10_fit_99 : decode cX10_fit 99 = .ok (.getfield 7, 3) := by decide +kernel
theorem dX10_fit_102 : decode cX10_fit 102 = .ok (.bipush 39, 2) := by decide +kernel
theorem dX10_fit_104 : decode cX10_fit 104 = .ok (.iaload, 1) := by decide +kernel
theorem dX10_fit_105 : decode cX10_fit 105 = .ok (.aload_n 0, 1) := by decide +kernel
theorem dX10_fit_106 : decode cX10_fit 106 = .ok (.getfield 149, 3) := by decide +kernel
theorem dX10_fit_109 : decode cX10_fit 109 = .ok (.iadd, 1) := by decide +kernel
theorem dX10_fit_110 : decode cX10_fit 110 = .ok (.bipush 16, 2) := by decide +kernel
theorem dX10_fit_112 : decode cX10_fit 112 = .ok (.if_icmp .gt 7, 3) := by decide +kernel
theorem dX10_fit_115 : decode cX10_fit 115 = .ok (.iconst 1, 1) := by decide +kernel
theorem dX10_fit_116 : decode cX10_fit 116 = .ok (.goto 29, 3) := by decide +kernel
theorem dX10_fit_119 : decode cX10_fit 119 = .ok (.iconst 0, 1) := by decide +kernel
theorem dX10_fit_120 : decode cX10_fit 120 = .ok (.goto 25, 3) := by decide +kernel
theorem dX10_fit_123 : decode cX10_fit 123 = .ok (.aload_n 0, 1) := by decide +kernel
theorem dX10_fit_124 : decode cX10_fit 124 = .ok (.getfield 7, 3) := by decide +kernel
theorem dX10_fit_127 : decode cX10_fit 127 = .ok (.bipush 38, 2) := by decide +kernel
theorem dX10_fit_129 : decode cX10_fit 129 = .ok (.iaload, 1) := by decide +kernel
theorem dX10_fit_130 : decode cX10_fit 130 = .ok (.aload_n 0, 1) := by decide +kernel
theorem dX10_fit_131 : decode cX10_fit 131 = .ok (.getfield 149, 3) := by decide +kernel
theorem dX10_fit_134 : decode cX10_fit 134 = .ok (.iadd, 1) := by decide +kernel
theorem dX10_fit_135 : decode cX10_fit 135 = .ok (.bipush 40, 2) := by decide +kernel
theorem dX10_fit_137 : decode cX10_fit 137 = .ok (.if_icmp .gt 7, 3) := by decide +kernel
theorem dX10_fit_140 : decode cX10_fit 140 = .ok (.iconst 1, 1) := by decide +kernel
theorem dX10_fit_141 : decode cX10_fit 141 = .ok (.goto 4, 3) := by decide +kernel
theorem dX10_fit_144 : decode cX10_fit 144 = .ok (.iconst 0, 1) := by decide +kernel
theorem dX10_fit_145 : decode cX10_fit 145 = .ok (.istore 4, 2) := by decide +kernel
theorem dX10_fit_147 : decode cX10_fit 147 = .ok (.iload 4, 2) := by decide +kernel
theorem dX10_fit_149 : decode cX10_fit 149 = .ok (.ifCond .eq 17, 3) := by decide +kernel
theorem dX10_fit_152 : decode cX10_fit 152 = .ok (.iload_n 2, 1) := by decide +kernel
theorem dX10_fit_153 : decode cX10_fit 153 = .ok (.iconst 1, 1) := by decide +kernel
theorem dX10_fit_154 : decode cX10_fit 154 = .ok (.iadd, 1) := by decide +kernel
theorem dX10_fit_155 : decode cX10_fit 155 = .ok (.iload_n 3, 1) := by decide +kernel
theorem dX10_fit_156 : decode cX10_fit 156 = .ok (.iadd, 1) := by decide +kernel
theorem dX10_fit_157 : decode cX10_fit 157 = .ok (.bipush 16, 2) := by decide +kernel
theorem dX10_fit_159 : decode cX10_fit 159 = .ok (.if_icmp .gt 7, 3) := by decide +kernel
theorem dX10_fit_162 : decode cX10_fit 162 = .ok (.iconst 1, 1) := by decide +kernel
theorem dX10_fit_163 : decode cX10_fit 163 = .ok (.goto 4, 3) := by decide +kernel
theorem dX10_fit_166 : decode cX10_fit 166 = .ok (.iconst 0, 1) := by decide +kernel
theorem dX10_fit_167 : decode cX10_fit 167 = .ok (.ireturn, 1) := by decide +kernel
set_option maxRecDepth 100000 in
theorem w_Mo_fit_J87 {p : Program} {l : Launch} {e : Env} {s : State} {m : MethodId} {args : Array Value} {below : List Frame} {meth : Method} {c : Code} {Q : State → Prop} {A : Nat → Prop} {D : va_G} {cI cJ cZ cO : ClassId} {q_this q_m q_saved q_w q_savedWords q_isSaved q_text q_far q_queue q_parent q_by q_seen q_path q_row q_more q_stateOf : Nat} {v_textLength : Int32} {v_steps : Int32} {v_missing : Int64} {v_mores : Int32} {v_hash : Int64} {v_m : (Nat → Int32)} {v_w : (Nat → Int64)} {v_more : (Nat → Int64)} {x : Int32} {x1 : Int32} {x2 : Int32} {x4 : Int32} {s0 : Int32} (C0 : Cx p s m args c A D cI cJ cZ cO cX10_fit 6 RX10) (hQ : RtI p l e rm_Mo_fit s m args below meth c Q A D cX10_fit .boolean (ws_Mo_fit cI cJ cZ q_this q_m q_saved q_w q_savedWords q_isSaved q_text q_far q_queue q_parent q_by q_seen q_path q_row q_more q_stateOf v_textLength v_steps v_missing v_mores v_hash v_m v_w v_more) x) {K : Int32 → Int32 → Int32 → Option (Int32)} (hK : ∀ (y2 : Int32) (y3 : Int32) (y4 : Int32) (H : Heap) (locs : List Loc) (ls : Array Slot), K y2 y3 y4 = some x → Wd s A D (ws_Mo_fit cI cJ cZ q_this q_m q_saved q_w q_savedWords q_isSaved q_text q_far q_queue q_parent q_by q_seen q_path q_row q_more q_stateOf v_textLength v_steps v_missing v_mores v_hash v_m v_w v_more) H locs → lv_has ls 6 [(0, .ref q_this), (1, .int x1), (2, .int y2), (3, .int y3)] → W p l e rm_Mo_fit s m args below meth c H locs 0 0 Q (F0 m 94 ls [])) {rec : Int32 → Int32 → Int32 → Option (Int32)} (hrec : ∀ (y2 : Int32) (y3 : Int32) (y4 : Int32) (H : Heap) (locs : List Loc) (ls : Array Slot), rec y2 y3 y4 = some x → Wd s A D (ws_Mo_fit cI cJ cZ q_this q_m q_saved q_w q_savedWords q_isSaved q_text q_far q_queue q_parent q_by q_seen q_path q_row q_more q_stateOf v_textLength v_steps v_missing v_mores v_hash v_m v_w v_more) H locs → lv_has ls 6 [(0, .ref q_this), (1, .int x1), (2, .int y2), (3, .int y3), (4, .int y4)] → W p l e rm_Mo_fit s m args below meth c H locs 0 0 Q (F0 m 33 ls [])) {H : Heap} {locs : List Loc} {ls : Array Slot} (h : f_Mo_fit_J87 rec x2 x4 s0 = some x) (w : Wd s A D (ws_Mo_fit cI cJ cZ q_this q_m q_saved q_w q_savedWords q_isSaved q_text q_far q_queue q_parent q_by q_seen q_path q_row q_more q_stateOf v_textLength v_steps v_missing v_mores v_hash v_m v_w v_more) H locs) (hl : lv_has ls 6 [(0, .ref q_this), (1, .int x1), (2, .int x2), (4, .int x4)]) : W p l e rm_Mo_fit s m args below meth c H locs 0 0 Q (F0 m 87 ls [.int s0]) := by
  obtain ⟨hx, hb, hml, hown, hts, -, -⟩ := id C0
  unfold f_Mo_fit_J87 at h
  refine lv_istore_n (lv' := [(3, .int s0), (0, .ref q_this), (1, .int x1), (2, .int x2), (4, .int x4)]) hx hb dX10_fit_87 rfl hl (by decide) rfl (fun ls hl => ?_)
  obtain ⟨x4_1, ex4_1⟩ : ∃ y : Int32, y = (x4 + 1) := ⟨_, rfl⟩
  have h := bnd_at ex4_1 h
  refine lv_iinc (v := x4_1) (lv' := [(4, .int x4_1), (3, .int s0), (0, .ref q_this), (1, .int x1), (2, .int x2)]) hx hb dX10_fit_88 hl (k := 4) rfl (by rw [ex4_1]; rfl) (by decide) rfl (fun ls hl => ?_)
  refine lv_goto (tgt := 33) hx hb dX10_fit_91 (by decide) ?_
  exact hrec _ _ _ _ _ _ h w (lv_sub hl [2, 3, 4, 1, 0] rfl)
set_option maxRecDepth 100000 in
theorem w_Mo_fit_J86 {p : Program} {l : Launch} {e : Env} {s : State} {m : MethodId} {args : Array Value} {below : List Frame} {meth : Method} {c : Code} {Q : State → Prop} {A : Nat → Prop} {D : va_G} {cI cJ cZ cO : ClassId} {q_this q_m q_saved q_w q_savedWords q_isSaved q_text q_far q_queue q_parent q_by q_seen q_path q_row q_more q_stateOf : Nat} {v_textLength : Int32} {v_steps : Int32} {v_missing : Int64} {v_mores : Int32} {v_hash : Int64} {v_m : (Nat → Int32)} {v_w : (Nat → Int64)} {v_more : (Nat → Int64)} {x : Int32} {x1 : Int32} {x2 : Int32} {x3 : Int32} {x4 : Int32} (C0 : Cx p s m args c A D cI cJ cZ cO cX10_fit 6 RX10) (hQ : RtI p l e rm_Mo_fit s m args below meth c Q A D cX10_fit .boolean (ws_Mo_fit cI cJ cZ q_this q_m q_saved q_w q_savedWords q_isSaved q_text q_far q_queue q_parent q_by q_seen q_path q_row q_more q_stateOf v_textLength v_steps v_missing v_mores v_hash v_m v_w v_more) x) {K : Int32 → Int32 → Int32 → Option (Int32)} (hK : ∀ (y2 : Int32) (y3 : Int32) (y4 : Int32) (H : Heap) (locs : List Loc) (ls : Array Slot), K y2 y3 y4 = some x → Wd s A D (ws_Mo_fit cI cJ cZ q_this q_m q_saved q_w q_savedWords q_isSaved q_text q_far q_queue q_parent q_by q_seen q_path q_row q_more q_stateOf v_textLength v_steps v_missing v_mores v_hash v_m v_w v_more) H locs → lv_has ls 6 [(0, .ref q_this), (1, .int x1), (2, .int y2), (3, .int y3)] → W p l e rm_Mo_fit s m args below meth c H locs 0 0 Q (F0 m 94 ls [])) {rec : Int32 → Int32 → Int32 → Option (Int32)} (hrec : ∀ (y2 : Int32) (y3 : Int32) (y4 : Int32) (H : Heap) (locs : List Loc) (ls : Array Slot), rec y2 y3 y4 = some x → Wd s A D (ws_Mo_fit cI cJ cZ q_this q_m q_saved q_w q_savedWords q_isSaved q_text q_far q_queue q_parent q_by q_seen q_path q_row q_more q_stateOf v_textLength v_steps v_missing v_mores v_hash v_m v_w v_more) H locs → lv_has ls 6 [(0, .ref q_this), (1, .int x1), (2, .int y2), (3, .int y3), (4, .int y4)] → W p l e rm_Mo_fit s m args below meth c H locs 0 0 Q (F0 m 33 ls [])) {H : Heap} {locs : List Loc} {ls : Array Slot} (h : f_Mo_fit_J86 rec x2 x3 x4 = some x) (w : Wd s A D (ws_Mo_fit cI cJ cZ q_this q_m q_saved q_w q_savedWords q_isSaved q_text q_far q_queue q_parent q_by q_seen q_path q_row q_more q_stateOf v_textLength v_steps v_missing v_mores v_hash v_m v_w v_more) H locs) (hl : lv_has ls 6 [(0, .ref q_this), (1, .int x1), (2, .int x2), (3, .int x3), (4, .int x4)]) : W p l e rm_Mo_fit s m args below meth c H locs 0 0 Q (F0 m 86 ls []) := by
  obtain ⟨hx, hb, hml, hown, hts, -, -⟩ := id C0
  unfold f_Mo_fit_J86 at h
  refine lv_iload_n hx hb dX10_fit_86 rfl (lv_at hl 3 rfl) ?_
  exact w_Mo_fit_J87 C0 hQ hK hrec h w (lv_sub hl [0, 1, 2, 4] rfl)
set_option maxRecDepth 100000 in
theorem w_Mo_fit_J70 {p : Program} {l : Launch} {e : Env} {s : State} {m : MethodId} {args : Array Value} {below : List Frame} {meth : Method} {c : Code} {Q : State → Prop} {A : Nat → Prop} {D : va_G} {cI cJ cZ cO : ClassId} {q_this q_m q_saved q_w q_savedWords q_isSaved q_text q_far q_queue q_parent q_by q_seen q_path q_row q_more q_stateOf : Nat} {v_textLength : Int32} {v_steps : Int32} {v_missing : Int64} {v_mores : Int32} {v_hash : Int64} {v_m : (Nat → Int32)} {v_w : (Nat → Int64)} {v_more : (Nat → Int64)} {x : Int32} {x1 : Int32} {x3 : Int32} {x4 : Int32} {x5 : Int32} {s0 : Int32} (C0 : Cx p s m args c A D cI cJ cZ cO cX10_fit 6 RX10) (hQ : RtI p l e rm_Mo_fit s m args below meth c Q A D cX10_fit .boolean (ws_Mo_fit cI cJ cZ q_this q_m q_saved q_w q_savedWords q_isSaved q_text q_far q_queue q_parent q_by q_seen q_path q_row q_more q_stateOf v_textLength v_steps v_missing v_mores v_hash v_m v_w v_more) x) {K : Int32 → Int32 → Int32 → Option (Int32)} (hK : ∀ (y2 : Int32) (y3 : Int32) (y4 : Int32) (H : Heap) (locs : List Loc) (ls : Array Slot), K y2 y3 y4 = some x → Wd s A D (ws_Mo_fit cI cJ cZ q_this q_m q_saved q_w q_savedWords q_isSaved q_text q_far q_queue q_parent q_by q_seen q_path q_row q_more q_stateOf v_textLength v_steps v_missing v_mores v_hash v_m v_w v_more) H locs → lv_has ls 6 [(0, .ref q_this), (1, .int x1), (2, .int y2), (3, .int y3)] → W p l e rm_Mo_fit s m args below meth c H locs 0 0 Q (F0 m 94 ls [])) {rec : Int32 → Int32 → Int32 → Option (Int32)} (hrec : ∀ (y2 : Int32) (y3 : Int32) (y4 : Int32) (H : Heap) (locs : List Loc) (ls : Array Slot), rec y2 y3 y4 = some x → Wd s A D (ws_Mo_fit cI cJ cZ q_this q_m q_saved q_w q_savedWords q_isSaved q_text q_far q_queue q_parent q_by q_seen q_path q_row q_more q_stateOf v_textLength v_steps v_missing v_mores v_hash v_m v_w v_more) H locs → lv_has ls 6 [(0, .ref q_this), (1, .int x1), (2, .int y2), (3, .int y3), (4, .int y4)] → W p l e rm_Mo_fit s m args below meth c H locs 0 0 Q (F0 m 33 ls [])) {H : Heap} {locs : List Loc} {ls : Array Slot} (h : f_Mo_fit_J70 rec x1 x3 x4 x5 s0 = some x) (w : Wd s A D (ws_Mo_fit cI cJ cZ q_this q_m q_saved q_w q_savedWords q_isSaved q_text q_far q_queue q_parent q_by q_seen q_path q_row q_more q_stateOf v_textLength v_steps v_missing v_mores v_hash v_m v_w v_more) H locs) (hl : lv_has ls 6 [(0, .ref q_this), (1, .int x1), (3, .int x3), (4, .int x4), (5, .int x5)]) : W p l e rm_Mo_fit s m args below meth c H locs 0 0 Q (F0 m 70 ls [.int s0]) := by
  obtain ⟨hx, hb, hml, hown, hts, -, -⟩ := id C0
  unfold f_Mo_fit_J70 at h
  refine lv_istore_n (lv' := [(2, .int s0), (0, .ref q_this), (1, .int x1), (3, .int x3), (4, .int x4), (5, .int x5)]) hx hb dX10_fit_70 rfl hl (by decide) rfl (fun ls hl => ?_)
  refine lv_iload_n hx hb dX10_fit_71 rfl (lv_at hl 2 rfl) ?_
  refine lv_if_eq (tgt := 86) hx hb dX10_fit_72 (by decide) (fun hc => ?_) (fun hc => ?_)
  · have h := if_h hc h
    exact w_Mo_fit_J86 C0 hQ hK hrec h w (lv_sub hl [1, 2, 0, 3, 4] rfl)
  · have h := nf_h hc h
    refine lv_iload hx hb dX10_fit_75 (lv_at hl 5 rfl) ?_
    refine lv_iload_n hx hb dX10_fit_77 rfl (lv_at hl 3 rfl) ?_
    refine lv_icmp_le (tgt := 86) hx hb dX10_fit_78 (by decide) (fun hc => ?_) (fun hc => ?_)
    · have h := if_h hc h
      exact w_Mo_fit_J86 C0 hQ hK hrec h w (lv_sub hl [1, 2, 0, 3, 4] rfl)
    · have h := nf_h hc h
      refine lv_iload hx hb dX10_fit_81 (lv_at hl 5 rfl) ?_
      refine lv_goto (tgt := 87) hx hb dX10_fit_83 (by decide) ?_
      exact w_Mo_fit_J87 C0 hQ hK hrec h w (lv_sub hl [1, 2, 0, 4] rfl)
set_option maxRecDepth 100000 in
theorem w_Mo_fit_J69 {p : Program} {l : Launch} {e : Env} {s : State} {m : MethodId} {args : Array Value} {below : List Frame} {meth : Method} {c : Code} {Q : State → Prop} {A : Nat → Prop} {D : va_G} {cI cJ cZ cO : ClassId} {q_this q_m q_saved q_w q_savedWords q_isSaved q_text q_far q_queue q_parent q_by q_seen q_path q_row q_more q_stateOf : Nat} {v_textLength : Int32} {v_steps : Int32} {v_missing : Int64} {v_mores : Int32} {v_hash : Int64} {v_m : (Nat → Int32)} {v_w : (Nat → Int64)} {v_more : (Nat → Int64)} {x : Int32} {x1 : Int32} {x2 : Int32} {x3 : Int32} {x4 : Int32} {x5 : Int32} (C0 : Cx p s m args c A D cI cJ cZ cO cX10_fit 6 RX10) (hQ : RtI p l e rm_Mo_fit s m args below meth c Q A D cX10_fit .boolean (ws_Mo_fit cI cJ cZ q_this q_m q_saved q_w q_savedWords q_isSaved q_text q_far q_queue q_parent q_by q_seen q_path q_row q_more q_stateOf v_textLength v_steps v_missing v_mores v_hash v_m v_w v_more) x) {K : Int32 → Int32 → Int32 → Option (Int32)} (hK : ∀ (y2 : Int32) (y3 : Int32) (y4 : Int32) (H : Heap) (locs : List Loc) (ls : Array Slot), K y2 y3 y4 = some x → Wd s A D (ws_Mo_fit cI cJ cZ q_this q_m q_saved q_w q_savedWords q_isSaved q_text q_far q_queue q_parent q_by q_seen q_path q_row q_more q_stateOf v_textLength v_steps v_missing v_mores v_hash v_m v_w v_more) H locs → lv_has ls 6 [(0, .ref q_this), (1, .int x1), (2, .int y2), (3, .int y3)] → W p l e rm_Mo_fit s m args below meth c H locs 0 0 Q (F0 m 94 ls [])) {rec : Int32 → Int32 → Int32 → Option (Int32)} (hrec : ∀ (y2 : Int32) (y3 : Int32) (y4 : Int32) (H : Heap) (locs : List Loc) (ls : Array Slot), rec y2 y3 y4 = some x → Wd s A D (ws_Mo_fit cI cJ cZ q_this q_m q_saved q_w q_savedWords q_isSaved q_text q_far q_queue q_parent q_by q_seen q_path q_row q_more q_stateOf v_textLength v_steps v_missing v_mores v_hash v_m v_w v_more) H locs → lv_has ls 6 [(0, .ref q_this), (1, .int x1), (2, .int y2), (3, .int y3), (4, .int y4)] → W p l e rm_Mo_fit s m args below meth c H locs 0 0 Q (F0 m 33 ls [])) {H : Heap} {locs : List Loc} {ls : Array Slot} (h : f_Mo_fit_J69 rec x1 x2 x3 x4 x5 = some x) (w : Wd s A D (ws_Mo_fit cI cJ cZ q_this q_m q_saved q_w q_savedWords q_isSaved q_text q_far q_queue q_parent q_by q_seen q_path q_row q_more q_stateOf v_textLength v_steps v_missing v_mores v_hash v_m v_w v_more) H locs) (hl : lv_has ls 6 [(0, .ref q_this), (1, .int x1), (2, .int x2), (3, .int x3), (4, .int x4), (5, .int x5)]) : W p l e rm_Mo_fit s m args below meth c H locs 0 0 Q (F0 m 69 ls []) := by
  obtain ⟨hx, hb, hml, hown, hts, -, -⟩ := id C0
  unfold f_Mo_fit_J69 at h
  refine lv_iload_n hx hb dX10_fit_69 rfl (lv_at hl 2 rfl) ?_
  exact w_Mo_fit_J70 C0 hQ hK hrec h w (lv_sub hl [0, 1, 3, 4, 5] rfl)
set_option maxRecDepth 100000 in
theorem w_Mo_fit_L33 {p : Program} {l : Launch} {e : Env} {s : State} {m : MethodId} {args : Array Value} {below : List Frame} {meth : Method} {c : Code} {Q : State → Prop} {A : Nat → Prop} {D : va_G} {cI cJ cZ cO : ClassId} {q_this q_m q_saved q_w q_savedWords q_isSaved q_text q_far q_queue q_parent q_by q_seen q_path q_row q_more q_stateOf : Nat} {v_textLength : Int32} {v_steps : Int32} {v_missing : Int64} {v_mores : Int32} {v_hash : Int64} {v_m : (Nat → Int32)} {v_w : (Nat → Int64)} {v_more : (Nat → Int64)} {x1 : Int32} {x : Int32} (C0 : Cx p s m args c A D cI cJ cZ cO cX10_fit 6 RX10) (hQ : RtI p l e rm_Mo_fit s m args below meth c Q A D cX10_fit .boolean (ws_Mo_fit cI cJ cZ q_this q_m q_saved q_w q_savedWords q_isSaved q_text q_far q_queue q_parent q_by q_seen q_path q_row q_more q_stateOf v_textLength v_steps v_missing v_mores v_hash v_m v_w v_more) x) {K : Int32 → Int32 → Int32 → Option (Int32)} (hK : ∀ (x2 : Int32) (x3 : Int32) (x4 : Int32) (H : Heap) (locs : List Loc) (ls : Array Slot), K x2 x3 x4 = some x → Wd s A D (ws_Mo_fit cI cJ cZ q_this q_m q_saved q_w q_savedWords q_isSaved q_text q_far q_queue q_parent q_by q_seen q_path q_row q_more q_stateOf v_textLength v_steps v_missing v_mores v_hash v_m v_w v_more) H locs → lv_has ls 6 [(0, .ref q_this), (1, .int x1), (2, .int x2), (3, .int x3)] → W p l e rm_Mo_fit s m args below meth c H locs 0 0 Q (F0 m 94 ls [])) {rec : Int32 → Int32 → Int32 → Option (Int32)} (hrec : ∀ (x2 : Int32) (x3 : Int32) (x4 : Int32) (H : Heap) (locs : List Loc) (ls : Array Slot), rec x2 x3 x4 = some x → Wd s A D (ws_Mo_fit cI cJ cZ q_this q_m q_saved q_w q_savedWords q_isSaved q_text q_far q_queue q_parent q_by q_seen q_path q_row q_more q_stateOf v_textLength v_steps v_missing v_mores v_hash v_m v_w v_more) H locs → lv_has ls 6 [(0, .ref q_this), (1, .int x1), (2, .int x2), (3, .int x3), (4, .int x4)] → W p l e rm_Mo_fit s m args below meth c H locs 0 0 Q (F0 m 33 ls [])) (x2 : Int32) (x3 : Int32) (x4 : Int32) {H : Heap} {locs : List Loc} {ls : Array Slot} (h : f_Mo_fit_L33 v_mores v_more x1 K rec x2 x3 x4 = some x) (w : Wd s A D (ws_Mo_fit cI cJ cZ q_this q_m q_saved q_w q_savedWords q_isSaved q_text q_far q_queue q_parent q_by q_seen q_path q_row q_more q_stateOf v_textLength v_steps v_missing v_mores v_hash v_m v_w v_more) H locs) (hl : lv_has ls 6 [(0, .ref q_this), (1, .int x1), (2, .int x2), (3, .int x3), (4, .int x4)]) : W p l e rm_Mo_fit s m args below meth c H locs 0 0 Q (F0 m 33 ls []) := by
  obtain ⟨hx, hb, hml, hown, hts, -, -⟩ := id C0
  unfold f_Mo_fit_L33 at h
  refine lv_iload hx hb dX10_fit_33 (lv_at hl 4 rfl) ?_
  refine lv_aload_n hx hb dX10_fit_35 rfl (lv_at hl 0 rfl) ?_
  refine r_get C0 w 0 rfl kf_Mo 17 (by decide) lf_RX10_149 rfl dX10_fit_36 ?_
  refine lv_icmp_ge (tgt := 94) hx hb dX10_fit_39 (by decide) (fun hc => ?_) (fun hc => ?_)
  · have h := if_h hc h
    exact hK _ _ _ _ _ _ h w (lv_sub hl [0, 1, 2, 3] rfl)
  · have h := nf_h hc h
    refine lv_aload_n hx hb dX10_fit_42 rfl (lv_at hl 0 rfl) ?_
    refine r_get C0 w 0 rfl kf_Mo 16 (by decide) lf_RX10_51 rfl dX10_fit_43 ?_
    refine lv_iload hx hb dX10_fit_46 (lv_at hl 4 rfl) ?_
    obtain ⟨hi, h⟩ := gIn_h h
    refine r_lald C0 w 3 rfl rfl hi dX10_fit_48 ?_
    obtain ⟨r, hcall, h⟩ := bd1_h h
    obtain ⟨wr, hp, hp'⟩ := rd_of (ws := (ws_Mo_fit cI cJ cZ q_this q_m q_saved q_w q_savedWords q_isSaved q_text q_far q_queue q_parent q_by q_seen q_path q_row q_more q_stateOf v_textLength v_steps v_missing v_mores v_hash v_m v_w v_more)) (wc := (ws_Mo_lengthOf cI cJ cZ)) [] rfl rfl
    refine r_SI (r := r) (As := [.long (v_more x4.toNatClampNeg)]) (rest := []) (wc' := (ws_Mo_lengthOf cI cJ cZ)) (ws' := (ws_Mo_fit cI cJ cZ q_this q_m q_saved q_w q_savedWords q_isSaved q_text q_far q_queue q_parent q_by q_seen q_path q_row q_more q_stateOf v_textLength v_steps v_missing v_mores v_hash v_m v_w v_more)) C0 w (c_Mo_lengthOf hcall) hp hp' lm_RX10_62 ms_Mo_lengthOf ⟨rfl, rfl⟩ ⟨by decide, by decide⟩ ⟨Nat.zero_le _, Nat.zero_le _⟩ rfl hl rfl (Nat.le_of_ble_eq_true rfl) dX10_fit_49 (fun H locs w => ?_)
    refine lv_istore (lv' := [(5, .int r), (0, .ref q_this), (1, .int x1), (2, .int x2), (3, .int x3), (4, .int x4)]) hx hb dX10_fit_52 hl (by decide) rfl (fun ls hl => ?_)
    refine lv_iload_n hx hb dX10_fit_54 rfl (lv_at hl 2 rfl) ?_
    refine lv_if_ne (tgt := 69) hx hb dX10_fit_55 (by decide) (fun hc => ?_) (fun hc => ?_)
    · have h := nf_h hc h
      exact w_Mo_fit_J69 C0 hQ hK hrec h w (lv_sub hl [1, 2, 3, 4, 5, 0] rfl)
    · have h := if_h hc h
      refine lv_iload hx hb dX10_fit_58 (lv_at hl 0 rfl) ?_
      refine lv_iload_n hx hb dX10_fit_60 rfl (lv_at hl 3 rfl) ?_
      refine lv_icmp_le (tgt := 69) hx hb dX10_fit_61 (by decide) (fun hc => ?_) (fun hc => ?_)
      · have h := if_h hc h
        exact w_Mo_fit_J69 C0 hQ hK hrec h w (lv_sub hl [1, 2, 3, 4, 5, 0] rfl)
      · have h := nf_h hc h
        refine lv_iload hx hb dX10_fit_64 (lv_at hl 0 rfl) ?_
        refine lv_goto (tgt := 70) hx hb dX10_fit_66 (by decide) ?_
        exact w_Mo_fit_J70 C0 hQ hK hrec h w (lv_sub hl [1, 2, 4, 5, 0] rfl)
set_option maxRecDepth 100000 in
theorem wl_Mo_fit_L33 {p : Program} {l : Launch} {e : Env} {s : State} {m : MethodId} {args : Array Value} {below : List Frame} {meth : Method} {c : Code} {Q : State → Prop} {A : Nat → Prop} {D : va_G} {cI cJ cZ cO : ClassId} {q_this q_m q_saved q_w q_savedWords q_isSaved q_text q_far q_queue q_parent q_by q_seen q_path q_row q_more q_stateOf : Nat} {v_textLength : Int32} {v_steps : Int32} {v_missing : Int64} {v_mores : Int32} {v_hash : Int64} {v_m : (Nat → Int32)} {v_w : (Nat → Int64)} {v_more : (Nat → Int64)} {x1 : Int32} {x : Int32} (C0 : Cx p s m args c A D cI cJ cZ cO cX10_fit 6 RX10) (hQ : RtI p l e rm_Mo_fit s m args below meth c Q A D cX10_fit .boolean (ws_Mo_fit cI cJ cZ q_this q_m q_saved q_w q_savedWords q_isSaved q_text q_far q_queue q_parent q_by q_seen q_path q_row q_more q_stateOf v_textLength v_steps v_missing v_mores v_hash v_m v_w v_more) x) {K : Int32 → Int32 → Int32 → Option (Int32)} (hK : ∀ (x2 : Int32) (x3 : Int32) (x4 : Int32) (H : Heap) (locs : List Loc) (ls : Array Slot), K x2 x3 x4 = some x → Wd s A D (ws_Mo_fit cI cJ cZ q_this q_m q_saved q_w q_savedWords q_isSaved q_text q_far q_queue q_parent q_by q_seen q_path q_row q_more q_stateOf v_textLength v_steps v_missing v_mores v_hash v_m v_w v_more) H locs → lv_has ls 6 [(0, .ref q_this), (1, .int x1), (2, .int x2), (3, .int x3)] → W p l e rm_Mo_fit s m args below meth c H locs 0 0 Q (F0 m 94 ls [])) : ∀ (n : Nat) (x2 : Int32) (x3 : Int32) (x4 : Int32) (H : Heap) (locs : List Loc) (ls : Array Slot), itr (fun _ _ _ => none) (f_Mo_fit_L33 v_mores v_more x1 K) n x2 x3 x4 = some x → Wd s A D (ws_Mo_fit cI cJ cZ q_this q_m q_saved q_w q_savedWords q_isSaved q_text q_far q_queue q_parent q_by q_seen q_path q_row q_more q_stateOf v_textLength v_steps v_missing v_mores v_hash v_m v_w v_more) H locs → lv_has ls 6 [(0, .ref q_this), (1, .int x1), (2, .int x2), (3, .int x3), (4, .int x4)] → W p l e rm_Mo_fit s m args below meth c H locs 0 0 Q (F0 m 33 ls []) := by
  intro n
  induction n with
  | zero => intro _ _ _ _ _ _ h; cases (show none = some _ from h)
  | succ n ih => intro _ _ _ _ _ _ h w hl; exact w_Mo_fit_L33 C0 hQ hK ih _ _ _ h w hl
set_option maxRecDepth 100000 in
theorem w_Mo_fit_J145 {p : Program} {l : Launch} {e : Env} {s : State} {m : MethodId} {args : Array Value} {below : List Frame} {meth : Method} {c : Code} {Q : State → Prop} {A : Nat → Prop} {D : va_G} {cI cJ cZ cO : ClassId} {q_this q_m q_saved q_w q_savedWords q_isSaved q_text q_far q_queue q_parent q_by q_seen q_path q_row q_more q_stateOf : Nat} {v_textLength : Int32} {v_steps : Int32} {v_missing : Int64} {v_mores : Int32} {v_hash : Int64} {v_m : (Nat → Int32)} {v_w : (Nat → Int64)} {v_more : (Nat → Int64)} {x : Int32} {x2 : Int32} {x3 : Int32} {s0 : Int32} (C0 : Cx p s m args c A D cI cJ cZ cO cX10_fit 6 RX10) (hQ : RtI p l e rm_Mo_fit s m args below meth c Q A D cX10_fit .boolean (ws_Mo_fit cI cJ cZ q_this q_m q_saved q_w q_savedWords q_isSaved q_text q_far q_queue q_parent q_by q_seen q_path q_row q_more q_stateOf v_textLength v_steps v_missing v_mores v_hash v_m v_w v_more) x) {H : Heap} {locs : List Loc} {ls : Array Slot} (h : f_Mo_fit_J145 x2 x3 s0 = some x) (w : Wd s A D (ws_Mo_fit cI cJ cZ q_this q_m q_saved q_w q_savedWords q_isSaved q_text q_far q_queue q_parent q_by q_seen q_path q_row q_more q_stateOf v_textLength v_steps v_missing v_mores v_hash v_m v_w v_more) H locs) (hl : lv_has ls 6 [(2, .int x2), (3, .int x3)]) : W p l e rm_Mo_fit s m args below meth c H locs 0 0 Q (F0 m 145 ls [.int s0]) := by
  obtain ⟨hx, hb, hml, hown, hts, -, -⟩ := id C0
  unfold f_Mo_fit_J145 at h
  refine lv_istore (lv' := [(4, .int s0), (2, .int x2), (3, .int x3)]) hx hb dX10_fit_145 hl (by decide) rfl (fun ls hl => ?_)
  refine lv_iload hx hb dX10_fit_147 (lv_at hl 0 rfl) ?_
  refine lv_if_eq (tgt := 166) hx hb dX10_fit_149 (by decide) (fun hc => ?_) (fun hc => ?_)
  · have h := if_h hc h
    refine lv_iconst (v := (0 : Int32)) hx hb dX10_fit_166 (by decide) ?_
    cases h
    exact hQ _ _ _ _ dX10_fit_167 (gB_n (v := (0 : Int32)) (Or.inl rfl)) w
  · have h := nf_h hc h
    refine lv_iload_n hx hb dX10_fit_152 rfl (lv_at hl 1 rfl) ?_
    refine lv_iconst (v := (1 : Int32)) hx hb dX10_fit_153 (by decide) ?_
    refine lv_iadd hx hb dX10_fit_154 ?_
    refine lv_iload_n hx hb dX10_fit_155 rfl (lv_at hl 2 rfl) ?_
    refine lv_iadd hx hb dX10_fit_156 ?_
    refine lv_bipush (v := (16 : Int32)) hx hb dX10_fit_157 (by decide) ?_
    refine lv_icmp_gt (tgt := 166) hx hb dX10_fit_159 (by decide) (fun hc => ?_) (fun hc => ?_)
    · have h := if_h hc h
      refine lv_iconst (v := (0 : Int32)) hx hb dX10_fit_166 (by decide) ?_
      cases h
      exact hQ _ _ _ _ dX10_fit_167 (gB_n (v := (0 : Int32)) (Or.inl rfl)) w
    · have h := nf_h hc h
      refine lv_iconst (v := (1 : Int32)) hx hb dX10_fit_162 (by decide) ?_
      refine lv_goto (tgt := 167) hx hb dX10_fit_163 (by decide) ?_
      cases h
      exact hQ _ _ _ _ dX10_fit_167 (gB_n (v := (1 : Int32)) (Or.inr rfl)) w
set_option maxRecDepth 100000 in
theorem c_Mo_fit {l : Launch} {D : va_G} {cI cJ cZ cO : ClassId} {q_this q_m q_saved q_w q_savedWords q_isSaved q_text q_far q_queue q_parent q_by q_seen q_path q_row q_more q_stateOf : Nat} {x1 : Int32} {v_textLength : Int32} {v_steps : Int32} {v_missing : Int64} {v_mores : Int32} {v_hash : Int64} {v_m : (Nat → Int32)} {v_w : (Nat → Int64)} {v_more : (Nat → Int64)} {x : Int32} (h : f_Mo_fit x1 v_mores v_m v_w v_more = some x) : ctI l D cI cJ cZ cO yX10_fit cX10_fit 6 .boolean rm_Mo_fit [.ref q_this, .int x1] (ws_Mo_fit cI cJ cZ q_this q_m q_saved q_w q_savedWords q_isSaved q_text q_far q_queue q_parent q_by q_seen q_path q_row q_more q_stateOf v_textLength v_steps v_missing v_mores v_hash v_m v_w v_more) (ws_Mo_fit cI cJ cZ q_this q_m q_saved q_w q_savedWords q_isSaved q_text q_far q_queue q_parent q_by q_seen q_path q_row q_more q_stateOf v_textLength v_steps v_missing v_mores v_hash v_m v_w v_more) x := by
  refine ctI_of (by decide) (Nat.le_of_ble_eq_true rfl) ?_
  intro p e s m below meth c Q A ls C0 hQ w hl
  have hl : lv_has ls 6 [(0, .ref q_this), (1, .int x1)] := hl
  generalize List.toArray (α := Value) [.ref q_this, .int x1] = args at C0 hQ ⊢
  obtain ⟨hx, hb, hml, hown, hts, -, -⟩ := id C0
  unfold f_Mo_fit at h
  refine lv_aload_n hx hb dX10_fit_0 rfl (lv_at hl 0 rfl) ?_
  refine lv_sipush (v := (304 : Int32)) hx hb dX10_fit_1 (by decide) ?_
  refine lv_aload_n hx hb dX10_fit_4 rfl (lv_at hl 0 rfl) ?_
  refine r_get C0 w 0 rfl kf_Mo 0 (by decide) lf_RX10_7 rfl dX10_fit_5 ?_
  refine lv_bipush (v := (38 : Int32)) hx hb dX10_fit_8 (by decide) ?_
  refine r_iald C0 w 1 rfl (k := 38) (by decide) (inl (by decide)) dX10_fit_10 ?_
  obtain ⟨r, hcall, h⟩ := bd1_h h
  obtain ⟨wr, hp, hp'⟩ := rd_of (ws := (ws_Mo_fit cI cJ cZ q_this q_m q_saved q_w q_savedWords q_isSaved q_text q_far q_queue q_parent q_by q_seen q_path q_row q_more q_stateOf v_textLength v_steps v_missing v_mores v_hash v_m v_w v_more)) (wc := (ws_Mo_longest cI cJ cZ q_this q_m q_saved q_w q_savedWords q_isSaved q_text q_far q_queue q_parent q_by q_seen q_path q_row q_more q_stateOf v_textLength v_steps v_missing v_mores v_hash v_w)) [0, 2] rfl rfl
  refine r_VI (r := r) (As := [.int (304 : Int32), .int (v_m 38)]) (rest := []) (wc' := (ws_Mo_longest cI cJ cZ q_this q_m q_saved q_w q_savedWords q_isSaved q_text q_far q_queue q_parent q_by q_seen q_path q_row q_more q_stateOf v_textLength v_steps v_missing v_mores v_hash v_w)) (ws' := (ws_Mo_fit cI cJ cZ q_this q_m q_saved q_w q_savedWords q_isSaved q_text q_far q_queue q_parent q_by q_seen q_path q_row q_more q_stateOf v_textLength v_steps v_missing v_mores v_hash v_m v_w v_more)) C0 w (c_Mo_longest hcall) hp hp' lm_RX10_152 mv_Mo_longest ⟨rfl, rfl⟩ ⟨by decide, by decide⟩ ⟨Nat.zero_le _, Nat.zero_le _⟩ (q0 := 0) rfl rfl rfl rfl hl rfl (Nat.le_of_ble_eq_true rfl) dX10_fit_11 (fun H locs w => ?_)
  refine lv_istore_n (lv' := [(2, .int r), (0, .ref q_this), (1, .int x1)]) hx hb dX10_fit_14 rfl hl (by decide) rfl (fun ls hl => ?_)
  refine lv_aload_n hx hb dX10_fit_15 rfl (lv_at hl 1 rfl) ?_
  refine lv_sipush (v := (344 : Int32)) hx hb dX10_fit_16 (by decide) ?_
  refine lv_aload_n hx hb dX10_fit_19 rfl (lv_at hl 1 rfl) ?_
  refine r_get C0 w 0 rfl kf_Mo 0 (by decide) lf_RX10_7 rfl dX10_fit_20 ?_
  refine lv_bipush (v := (39 : Int32)) hx hb dX10_fit_23 (by decide) ?_
  refine r_iald C0 w 1 rfl (k := 39) (by decide) (inl (by decide)) dX10_fit_25 ?_
  obtain ⟨r_1, hcall, h⟩ := bd1_h h
  obtain ⟨wr, hp, hp'⟩ := rd_of (ws := (ws_Mo_fit cI cJ cZ q_this q_m q_saved q_w q_savedWords q_isSaved q_text q_far q_queue q_parent q_by q_seen q_path q_row q_more q_stateOf v_textLength v_steps v_missing v_mores v_hash v_m v_w v_more)) (wc := (ws_Mo_longest cI cJ cZ q_this q_m q_saved q_w q_savedWords q_isSaved q_text q_far q_queue q_parent q_by q_seen q_path q_row q_more q_stateOf v_textLength v_steps v_missing v_mores v_hash v_w)) [0, 2] rfl rfl
  refine r_VI (r := r_1) (As := [.int (344 : Int32), .int (v_m 39)]) (rest := []) (wc' := (ws_Mo_longest cI cJ cZ q_this q_m q_saved q_w q_savedWords q_isSaved q_text q_far q_queue q_parent q_by q_seen q_path q_row q_more q_stateOf v_textLength v_steps v_missing v_mores v_hash v_w)) (ws' := (ws_Mo_fit cI cJ cZ q_this q_m q_saved q_w q_savedWords q_isSaved q_text q_far q_queue q_parent q_by q_seen q_path q_row q_more q_stateOf v_textLength v_steps v_missing v_mores v_hash v_m v_w v_more)) C0 w (c_Mo_longest hcall) hp hp' lm_RX10_152 mv_Mo_longest ⟨rfl, rfl⟩ ⟨by decide, by decide⟩ ⟨Nat.zero_le _, Nat.zero_le _⟩ (q0 := 0) rfl rfl rfl rfl hl rfl (Nat.le_of_ble_eq_true rfl) dX10_fit_26 (fun H locs w => ?_)
  refine lv_istore_n (lv' := [(3, .int r_1), (2, .int r), (0, .ref q_this), (1, .int x1)]) hx hb dX10_fit_29 rfl hl (by decide) rfl (fun ls hl => ?_)
  refine lv_iconst (v := (0 : Int32)) hx hb dX10_fit_30 (by decide) ?_
  refine lv_istore (lv' := [(4, .int (0 : Int32)), (3, .int r_1), (2, .int r), (0, .ref q_this), (1, .int x1)]) hx hb dX10_fit_31 hl (by decide) rfl (fun ls hl => ?_)
  refine wl_Mo_fit_L33 C0 hQ (fun x2 x3 x4 H locs ls h w hl => ?_) _ _ _ _ _ _ _ h w (lv_sub hl [3, 4, 2, 1, 0] rfl)
  refine lv_iload_n hx hb dX10_fit_94 rfl (lv_at hl 1 rfl) ?_
  refine lv_if_eq (tgt := 123) hx hb dX10_fit_95 (by decide) (fun hc => ?_) (fun hc => ?_)
  · have h := if_h hc h
    refine lv_aload_n hx hb dX10_fit_123 rfl (lv_at hl 0 rfl) ?_
    refine r_get C0 w 0 rfl kf_Mo 0 (by decide) lf_RX10_7 rfl dX10_fit_124 ?_
    refine lv_bipush (v := (38 : Int32)) hx hb dX10_fit_127 (by decide) ?_
    refine r_iald C0 w 1 rfl (k := 38) (by decide) (inl (by decide)) dX10_fit_129 ?_
    refine lv_aload_n hx hb dX10_fit_130 rfl (lv_at hl 0 rfl) ?_
    refine r_get C0 w 0 rfl kf_Mo 17 (by decide) lf_RX10_149 rfl dX10_fit_131 ?_
    refine lv_iadd hx hb dX10_fit_134 ?_
    refine lv_bipush (v := (40 : Int32)) hx hb dX10_fit_135 (by decide) ?_
    refine lv_icmp_gt (tgt := 144) hx hb dX10_fit_137 (by decide) (fun hc => ?_) (fun hc => ?_)
    · have h := if_h hc h
      refine lv_iconst (v := (0 : Int32)) hx hb dX10_fit_144 (by decide) ?_
      exact w_Mo_fit_J145 C0 hQ h w (lv_sub hl [2, 3] rfl)
    · have h := nf_h hc h
      refine lv_iconst (v := (1 : Int32)) hx hb dX10_fit_140 (by decide) ?_
      refine lv_goto (tgt := 145) hx hb dX10_fit_141 (by decide) ?_
      exact w_Mo_fit_J145 C0 hQ h w (lv_sub hl [2, 3] rfl)
  · have h := nf_h hc h
    refine lv_aload_n hx hb dX10_fit_98 rfl (lv_at hl 0 rfl) ?_
    refine r_get C0 w 0 rfl kf_Mo 0 (by decide) lf_RX10_7 rfl dX10_fit_99 ?_
    refine lv_bipush (v := (39 : Int32)) hx hb dX10_fit_102 (by decide) ?_
    refine r_iald C0 w 1 rfl (k := 39) (by decide) (inl (by decide)) dX10_fit_104 ?_
    refine lv_aload_n hx hb dX10_fit_105 rfl (lv_at hl 0 rfl) ?_
    refine r_get C0 w 0 rfl kf_Mo 17 (by decide) lf_RX10_149 rfl dX10_fit_106 ?_
    refine lv_iadd hx hb dX10_fit_109 ?_
    refine lv_bipush (v := (16 : Int32)) hx hb dX10_fit_110 (by decide) ?_
    refine lv_icmp_gt (tgt := 119) hx hb dX10_fit_112 (by decide) (fun hc => ?_) (fun hc => ?_)
    · have h := if_h hc h
      refine lv_iconst (v := (0 : Int32)) hx hb dX10_fit_119 (by decide) ?_
      refine lv_goto (tgt := 145) hx hb dX10_fit_120 (by decide) ?_
      exact w_Mo_fit_J145 C0 hQ h w (lv_sub hl [2, 3] rfl)
    · have h := nf_h hc h
      refine lv_iconst (v := (1 : Int32)) hx hb dX10_fit_115 (by decide) ?_
      refine lv_goto (tgt := 145) hx hb dX10_fit_116 (by decide) ?_
      exact w_Mo_fit_J145 C0 hQ h w (lv_sub hl [2, 3] rfl)

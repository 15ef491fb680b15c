set_option maxRecDepth 100000 in
theorem law_0 {p : Program} {l : Launch} {e : Env} {s : State} {m : MethodId} {args : Array Value} {below : List Frame} {meth : Method} {c : Code} {H : Heap} {locs : List Loc} {cells slots : Nat} {Q : State → Prop} {A : Nat → Prop} {D : va_G} {cI cJ cZ cO : ClassId} {a b : Nat → Nat} {sb L i : Nat} {xs : Nat → Int32} {ls : Array Slot} {ws : va_W} (G : LG p s m args c A D cI cJ cZ cO sb L xs) (hi : i + 4 ≤ L) (hL : L ≤ 2048) (hcs : cells + 20 ≤ room_1.cells ∧ slots + 948 ≤ room_1.slots) (hnext : LN p l e s m args below meth c cells slots Q A D cI cJ cZ cO a b sb i) (hOK : LawOK cI cJ cZ cO a b ws) (w : Wd s A D ws H locs) (hl : lv_has ls 4 [(0, .ref sb), (1, .ref (a 0)), (2, .ref (b 0)), (3, .int (nI i))]) : W p l e room_1 s m args below meth c H locs cells slots Q (F0 m 144 ls []) := by
  obtain ⟨C0, hz, hX, hbl, hbA⟩ := id G
  obtain ⟨hx, hb, hml, hown, hts, hA, hK⟩ := id C0
  obtain ⟨f, vtS, vtL, vtM, vtF, vlc, vlv, vmode, vbudget, vformed, vce, vcorr, vdec, vqn, vE, vtl, vpn, vpl, vpv, vsn, vsl, vsv, vkn, vbi, vhs, vhl, vhm, vhf, vrep, vtn, vtx, vlen, vqd, vse, vqu, vog, var, vlt, vtn2, vst, vmi, vmos, vhash, vm, vsa, vw, vsw, viS, vtx2, vfar, vq2, vp2, vb2, vs2, vpa, vrow, vmo2, vso, X0, X1, hws, hRW, hRX, hS0, hS1⟩ := hOK
  subst hws
  have hcs0 : cells ≤ room_1.cells ∧ slots ≤ room_1.slots := ⟨Nat.le_trans (Nat.le_add_right _ _) hcs.1, Nat.le_trans (Nat.le_add_right _ _) hcs.2⟩
  obtain ⟨r, vtM', vtF', vtS', vtL', vlc', vqn', vpv', vpn', vpl', vsv', vsn', vsl', vkn', vbi', vtl', vhm', vhf', vhs', vhl', vformed', vce', vcorr', vdec', vm', vw', e1, e2, hR⟩ := s_reset hRW (xs (i + 1)) (xs (i + 2))
  refine lv_aload_n hx hb dL_law_144 rfl (lv_at hl 1 rfl) ?_
  refine lv_aload_n hx hb dL_law_145 rfl (lv_at hl 0 rfl) ?_
  refine lv_iload_n hx hb dL_law_146 rfl (lv_at hl 3 rfl) ?_
  refine lv_iconst (v := (1 : Int32)) hx hb dL_law_147 (by decide) ?_
  refine lv_iadd hx hb dL_law_148 ?_
  refine r_sld (i := i) G w 1 (by omega) hL dL_law_149 ?_
  refine lv_aload_n hx hb dL_law_150 rfl (lv_at hl 0 rfl) ?_
  refine lv_iload_n hx hb dL_law_151 rfl (lv_at hl 3 rfl) ?_
  refine lv_iconst (v := (2 : Int32)) hx hb dL_law_152 (by decide) ?_
  refine lv_iadd hx hb dL_law_153 ?_
  refine r_sld (i := i) G w 2 (by omega) hL dL_law_154 ?_
  refine r_VIs (r := r) (As := [.int (xs (i + 1)), .int (xs (i + 2))]) (rest := []) (wc := (ws_TL_reset cI cJ cZ (a 0) (a 1) (a 21) (a 22) (a 23) (a 2) (a 7) (a 3) (a 6) (a 4) (a 5) (a 8) (a 10) (a 17) (a 20) (a 9) (a 11) (a 13) (a 15) (a 16) (a 12) (a 14) (a 18) (a 19) vtn vlc vtS vtL vtM vtF vmode vbudget vformed vce vcorr vdec vqn vtl vpn vpl vpv vsn vsl vsv vkn vbi vhs vhl vhm vhf)) (wc' := (ws_TL_reset cI cJ cZ (a 0) (a 1) (a 21) (a 22) (a 23) (a 2) (a 7) (a 3) (a 6) (a 4) (a 5) (a 8) (a 10) (a 17) (a 20) (a 9) (a 11) (a 13) (a 15) (a 16) (a 12) (a 14) (a 18) (a 19) vtn vlc' vtS' vtL' vtM' vtF' vmode vbudget vformed' vce' vcorr' vdec' vqn' vtl' vpn' vpl' vpv' vsn' vsl' vsv' vkn' vbi' vhs' vhl' vhm' vhf')) (ws' := ((wT cI cJ cO a f vtS' vtL' vtM' vtF' vlc' vlv vmode vbudget vformed' vce' vcorr' vdec' vqn' vE vtl' vpn' vpl' vpv' vsn' vsl' vsv' vkn' vbi' vhs' vhl' vhm' vhf' vrep vtn vtx vlen vqd vse vqu vog var vlt) ++ ((wM cI cJ cZ b vtn2 vst vmi vmos vhash vm vsa vw vsw viS vtx2 vfar vq2 vp2 vb2 vs2 vpa vrow vmo2 vso) ++ (X0 ++ X1)))) C0 w (c_TL_reset e1) [0, 1, 2, 3, 4, 5, 7, 8, 10, 11, 12, 13, 14, 15, 16, 17, 18, 19] rfl rfl rfl rfl lm_RL_13 mv_TL_reset ⟨rfl, rfl⟩ ⟨by decide, by decide⟩ hcs0 (q0 := 0) rfl rfl rfl rfl hl rfl (Nat.le_of_ble_eq_true rfl) dL_law_155 (fun H locs w => ?_)
  refine lv_aload_n hx hb dL_law_158 rfl (lv_at hl 2 rfl) ?_
  refine lv_aload_n hx hb dL_law_159 rfl (lv_at hl 0 rfl) ?_
  refine lv_iload_n hx hb dL_law_160 rfl (lv_at hl 3 rfl) ?_
  refine lv_iconst (v := (1 : Int32)) hx hb dL_law_161 (by decide) ?_
  refine lv_iadd hx hb dL_law_162 ?_
  refine r_sld (i := i) G w 1 (by omega) hL dL_law_163 ?_
  refine lv_aload_n hx hb dL_law_164 rfl (lv_at hl 0 rfl) ?_
  refine lv_iload_n hx hb dL_law_165 rfl (lv_at hl 3 rfl) ?_
  refine lv_iconst (v := (2 : Int32)) hx hb dL_law_166 (by decide) ?_
  refine lv_iadd hx hb dL_law_167 ?_
  refine r_sld (i := i) G w 2 (by omega) hL dL_law_168 ?_
  refine r_VIs (r := r) (As := [.int (xs (i + 1)), .int (xs (i + 2))]) (rest := [.int r]) (wc := (ws_Mo_reset cI cJ cZ (b 0) (b 1) (b 2) (b 3) (b 4) (b 5) (b 6) (b 7) (b 8) (b 9) (b 10) (b 11) (b 12) (b 13) (b 14) (b 15) vtn2 vst vmi vmos vhash vm vw)) (wc' := (ws_Mo_reset cI cJ cZ (b 0) (b 1) (b 2) (b 3) (b 4) (b 5) (b 6) (b 7) (b 8) (b 9) (b 10) (b 11) (b 12) (b 13) (b 14) (b 15) vtn2 vst vmi vmos vhash vm' vw')) (ws' := ((wT cI cJ cO a f vtS' vtL' vtM' vtF' vlc' vlv vmode vbudget vformed' vce' vcorr' vdec' vqn' vE vtl' vpn' vpl' vpv' vsn' vsl' vsv' vkn' vbi' vhs' vhl' vhm' vhf' vrep vtn vtx vlen vqd vse vqu vog var vlt) ++ ((wM cI cJ cZ b vtn2 vst vmi vmos vhash vm' vsa vw' vsw viS vtx2 vfar vq2 vp2 vb2 vs2 vpa vrow vmo2 vso) ++ (X0 ++ X1)))) C0 w (c_Mo_reset e2) [29, 30, 32] rfl rfl rfl rfl lm_RL_17 mv_Mo_reset ⟨rfl, rfl⟩ ⟨by decide, by decide⟩ hcs0 (q0 := 29) rfl rfl rfl rfl hl rfl (Nat.le_of_ble_eq_true rfl) dL_law_169 (fun H locs w => ?_)
  refine lv_icmp_eq (tgt := 779) hx hb dL_law_172 (by decide) (fun hc => ?_) (fun hc => absurd rfl hc)
  refine W.widen (k := cells + 20) (n := slots + 948) (Nat.le_add_right _ _) (Nat.le_add_right _ _) ?_
  exact hnext _ _ _ _ ⟨f, vtS', vtL', vtM', vtF', vlc', vlv, vmode, vbudget, vformed', vce', vcorr', vdec', vqn', vE, vtl', vpn', vpl', vpv', vsn', vsl', vsv', vkn', vbi', vhs', vhl', vhm', vhf', vrep, vtn, vtx, vlen, vqd, vse, vqu, vog, var, vlt, vtn2, vst, vmi, vmos, vhash, vm', vsa, vw', vsw, viS, vtx2, vfar, vq2, vp2, vb2, vs2, vpa, vrow, vmo2, vso, X0, X1, rfl, hR, hRX, hS0, hS1⟩ w hl
set_option maxRecDepth 100000 in
theorem law_1 {p : Program} {l : Launch} {e : Env} {s : State} {m : MethodId} {args : Array Value} {below : List Frame} {meth : Method} {c : Code} {H : Heap} {locs : List Loc} {cells slots : Nat} {Q : State → Prop} {A : Nat → Prop} {D : va_G} {cI cJ cZ cO : ClassId} {a b : Nat → Nat} {sb L i : Nat} {xs : Nat → Int32} {ls : Array Slot} {ws : va_W} (G : LG p s m args c A D cI cJ cZ cO sb L xs) (hi : i + 4 ≤ L) (hL : L ≤ 2048) (hcs : cells + 20 ≤ room_1.cells ∧ slots + 948 ≤ room_1.slots) (hnext : LN p l e s m args below meth c cells slots Q A D cI cJ cZ cO a b sb i) (hOK : LawOK cI cJ cZ cO a b ws) (w : Wd s A D ws H locs) (hl : lv_has ls 4 [(0, .ref sb), (1, .ref (a 0)), (2, .ref (b 0)), (3, .int (nI i))]) : W p l e room_1 s m args below meth c H locs cells slots Q (F0 m 177 ls []) := by
  obtain ⟨C0, hz, hX, hbl, hbA⟩ := id G
  obtain ⟨hx, hb, hml, hown, hts, hA, hK⟩ := id C0
  obtain ⟨f, vtS, vtL, vtM, vtF, vlc, vlv, vmode, vbudget, vformed, vce, vcorr, vdec, vqn, vE, vtl, vpn, vpl, vpv, vsn, vsl, vsv, vkn, vbi, vhs, vhl, vhm, vhf, vrep, vtn, vtx, vlen, vqd, vse, vqu, vog, var, vlt, vtn2, vst, vmi, vmos, vhash, vm, vsa, vw, vsw, viS, vtx2, vfar, vq2, vp2, vb2, vs2, vpa, vrow, vmo2, vso, X0, X1, hws, hRW, hRX, hS0, hS1⟩ := hOK
  subst hws
  have hcs0 : cells ≤ room_1.cells ∧ slots ≤ room_1.slots := ⟨Nat.le_trans (Nat.le_add_right _ _) hcs.1, Nat.le_trans (Nat.le_add_right _ _) hcs.2⟩
  obtain ⟨r, vtM', vqn', vpv', vpn', vpl', vsv', vsn', vsl', vkn', vbi', vtl', vhm', vhf', vhs', vhl', vformed', vce', vcorr', vdec', vm', vw', e1, e2, hR⟩ := s_setMove hRW (xs (i + 1)) (xs (i + 2)) (xs (i + 3))
  refine lv_aload_n hx hb dL_law_177 rfl (lv_at hl 1 rfl) ?_
  refine lv_aload_n hx hb dL_law_178 rfl (lv_at hl 0 rfl) ?_
  refine lv_iload_n hx hb dL_law_179 rfl (lv_at hl 3 rfl) ?_
  refine lv_iconst (v := (1 : Int32)) hx hb dL_law_180 (by decide) ?_
  refine lv_iadd hx hb dL_law_181 ?_
  refine r_sld (i := i) G w 1 (by omega) hL dL_law_182 ?_
  refine lv_aload_n hx hb dL_law_183 rfl (lv_at hl 0 rfl) ?_
  refine lv_iload_n hx hb dL_law_184 rfl (lv_at hl 3 rfl) ?_
  refine lv_iconst (v := (2 : Int32)) hx hb dL_law_185 (by decide) ?_
  refine lv_iadd hx hb dL_law_186 ?_
  refine r_sld (i := i) G w 2 (by omega) hL dL_law_187 ?_
  refine lv_aload_n hx hb dL_law_188 rfl (lv_at hl 0 rfl) ?_
  refine lv_iload_n hx hb dL_law_189 rfl (lv_at hl 3 rfl) ?_
  refine lv_iconst (v := (3 : Int32)) hx hb dL_law_190 (by decide) ?_
  refine lv_iadd hx hb dL_law_191 ?_
  refine r_sld (i := i) G w 3 (by omega) hL dL_law_192 ?_
  refine r_VIs (r := r) (As := [.int (xs (i + 1)), .int (xs (i + 2)), .int (xs (i + 3))]) (rest := []) (wc := (ws_TL_setMove cI cJ cZ (a 0) (a 1) (a 21) (a 22) (a 23) (a 2) (a 7) (a 3) (a 6) (a 4) (a 5) (a 8) (a 10) (a 17) (a 20) (a 9) (a 11) (a 13) (a 15) (a 16) (a 12) (a 14) (a 18) (a 19) vtn vlc vtS vtL vtM vmode vbudget vformed vce vcorr vdec vqn vtl vpn vpl vpv vsn vsl vsv vkn vbi vhs vhl vhm vhf)) (wc' := (ws_TL_setMove cI cJ cZ (a 0) (a 1) (a 21) (a 22) (a 23) (a 2) (a 7) (a 3) (a 6) (a 4) (a 5) (a 8) (a 10) (a 17) (a 20) (a 9) (a 11) (a 13) (a 15) (a 16) (a 12) (a 14) (a 18) (a 19) vtn vlc vtS vtL vtM' vmode vbudget vformed' vce' vcorr' vdec' vqn' vtl' vpn' vpl' vpv' vsn' vsl' vsv' vkn' vbi' vhs' vhl' vhm' vhf')) (ws' := ((wT cI cJ cO a f vtS vtL vtM' vtF vlc vlv vmode vbudget vformed' vce' vcorr' vdec' vqn' vE vtl' vpn' vpl' vpv' vsn' vsl' vsv' vkn' vbi' vhs' vhl' vhm' vhf' vrep vtn vtx vlen vqd vse vqu vog var vlt) ++ ((wM cI cJ cZ b vtn2 vst vmi vmos vhash vm vsa vw vsw viS vtx2 vfar vq2 vp2 vb2 vs2 vpa vrow vmo2 vso) ++ (X0 ++ X1)))) C0 w (c_TL_setMove e1) [0, 1, 2, 3, 4, 7, 8, 10, 11, 12, 13, 14, 15, 16, 17, 18, 19] rfl rfl rfl rfl lm_RL_18 mv_TL_setMove ⟨rfl, rfl⟩ ⟨by decide, by decide⟩ hcs0 (q0 := 0) rfl rfl rfl rfl hl rfl (Nat.le_of_ble_eq_true rfl) dL_law_193 (fun H locs w => ?_)
  refine lv_aload_n hx hb dL_law_196 rfl (lv_at hl 2 rfl) ?_
  refine lv_aload_n hx hb dL_law_197 rfl (lv_at hl 0 rfl) ?_
  refine lv_iload_n hx hb dL_law_198 rfl (lv_at hl 3 rfl) ?_
  refine lv_iconst (v := (1 : Int32)) hx hb dL_law_199 (by decide) ?_
  refine lv_iadd hx hb dL_law_200 ?_
  refine r_sld (i := i) G w 1 (by omega) hL dL_law_201 ?_
  refine lv_aload_n hx hb dL_law_202 rfl (lv_at hl 0 rfl) ?_
  refine lv_iload_n hx hb dL_law_203 rfl (lv_at hl 3 rfl) ?_
  refine lv_iconst (v := (2 : Int32)) hx hb dL_law_204 (by decide) ?_
  refine lv_iadd hx hb dL_law_205 ?_
  refine r_sld (i := i) G w 2 (by omega) hL dL_law_206 ?_
  refine lv_aload_n hx hb dL_law_207 rfl (lv_at hl 0 rfl) ?_
  refine lv_iload_n hx hb dL_law_208 rfl (lv_at hl 3 rfl) ?_
  refine lv_iconst (v := (3 : Int32)) hx hb dL_law_209 (by decide) ?_
  refine lv_iadd hx hb dL_law_210 ?_
  refine r_sld (i := i) G w 3 (by omega) hL dL_law_211 ?_
  refine r_VIs (r := r) (As := [.int (xs (i + 1)), .int (xs (i + 2)), .int (xs (i + 3))]) (rest := [.int r]) (wc := (ws_Mo_setMove cI cJ cZ (b 0) (b 1) (b 2) (b 3) (b 4) (b 5) (b 6) (b 7) (b 8) (b 9) (b 10) (b 11) (b 12) (b 13) (b 14) (b 15) vtn2 vst vmi vmos vhash vm vw)) (wc' := (ws_Mo_setMove cI cJ cZ (b 0) (b 1) (b 2) (b 3) (b 4) (b 5) (b 6) (b 7) (b 8) (b 9) (b 10) (b 11) (b 12) (b 13) (b 14) (b 15) vtn2 vst vmi vmos vhash vm' vw')) (ws' := ((wT cI cJ cO a f vtS vtL vtM' vtF vlc vlv vmode vbudget vformed' vce' vcorr' vdec' vqn' vE vtl' vpn' vpl' vpv' vsn' vsl' vsv' vkn' vbi' vhs' vhl' vhm' vhf' vrep vtn vtx vlen vqd vse vqu vog var vlt) ++ ((wM cI cJ cZ b vtn2 vst vmi vmos vhash vm' vsa vw' vsw viS vtx2 vfar vq2 vp2 vb2 vs2 vpa vrow vmo2 vso) ++ (X0 ++ X1)))) C0 w (c_Mo_setMove e2) [29, 30, 32] rfl rfl rfl rfl lm_RL_22 mv_Mo_setMove ⟨rfl, rfl⟩ ⟨by decide, by decide⟩ hcs0 (q0 := 29) rfl rfl rfl rfl hl rfl (Nat.le_of_ble_eq_true rfl) dL_law_212 (fun H locs w => ?_)
  refine lv_icmp_eq (tgt := 779) hx hb dL_law_215 (by decide) (fun hc => ?_) (fun hc => absurd rfl hc)
  refine W.widen (k := cells + 20) (n := slots + 948) (Nat.le_add_right _ _) (Nat.le_add_right _ _) ?_
  exact hnext _ _ _ _ ⟨f, vtS, vtL, vtM', vtF, vlc, vlv, vmode, vbudget, vformed', vce', vcorr', vdec', vqn', vE, vtl', vpn', vpl', vpv', vsn', vsl', vsv', vkn', vbi', vhs', vhl', vhm', vhf', vrep, vtn, vtx, vlen, vqd, vse, vqu, vog, var, vlt, vtn2, vst, vmi, vmos, vhash, vm', vsa, vw', vsw, viS, vtx2, vfar, vq2, vp2, vb2, vs2, vpa, vrow, vmo2, vso, X0, X1, rfl, hR, hRX, hS0, hS1⟩ w hl
set_option maxRecDepth 100000 in
theorem law_2 {p : Program} {l : Launch} {e : Env} {s : State} {m : MethodId} {args : Array Value} {below : List Frame} {meth : Method} {c : Code} {H : Heap} {locs : List Loc} {cells slots : Nat} {Q : State → Prop} {A : Nat → Prop} {D : va_G} {cI cJ cZ cO : ClassId} {a b : Nat → Nat} {sb L i : Nat} {xs : Nat → Int32} {ls : Array Slot} {ws : va_W} (G : LG p s m args c A D cI cJ cZ cO sb L xs) (hi : i + 4 ≤ L) (hL : L ≤ 2048) (hcs : cells + 20 ≤ room_1.cells ∧ slots + 948 ≤ room_1.slots) (hnext : LN p l e s m args below meth c cells slots Q A D cI cJ cZ cO a b sb i) (hOK : LawOK cI cJ cZ cO a b ws) (w : Wd s A D ws H locs) (hl : lv_has ls 4 [(0, .ref sb), (1, .ref (a 0)), (2, .ref (b 0)), (3, .int (nI i))]) : W p l e room_1 s m args below meth c H locs cells slots Q (F0 m 220 ls []) := by
  obtain ⟨C0, hz, hX, hbl, hbA⟩ := id G
  obtain ⟨hx, hb, hml, hown, hts, hA, hK⟩ := id C0
  obtain ⟨f, vtS, vtL, vtM, vtF, vlc, vlv, vmode, vbudget, vformed, vce, vcorr, vdec, vqn, vE, vtl, vpn, vpl, vpv, vsn, vsl, vsv, vkn, vbi, vhs, vhl, vhm, vhf, vrep, vtn, vtx, vlen, vqd, vse, vqu, vog, var, vlt, vtn2, vst, vmi, vmos, vhash, vm, vsa, vw, vsw, viS, vtx2, vfar, vq2, vp2, vb2, vs2, vpa, vrow, vmo2, vso, X0, X1, hws, hRW, hRX, hS0, hS1⟩ := hOK
  subst hws
  have hcs0 : cells ≤ room_1.cells ∧ slots ≤ room_1.slots := ⟨Nat.le_trans (Nat.le_add_right _ _) hcs.1, Nat.le_trans (Nat.le_add_right _ _) hcs.2⟩
  obtain ⟨r, vtF', vqn', vpv', vpn', vpl', vsv', vsn', vsl', vkn', vbi', vtl', vhm', vhf', vhs', vhl', vformed', vce', vcorr', vdec', vm', vw', e1, e2, hR⟩ := s_setFinal hRW (xs (i + 1)) (if (xs (i + 2)) = 0 then (0 : Int32) else 1)
  refine lv_aload_n hx hb dL_law_220 rfl (lv_at hl 1 rfl) ?_
  refine lv_aload_n hx hb dL_law_221 rfl (lv_at hl 0 rfl) ?_
  refine lv_iload_n hx hb dL_law_222 rfl (lv_at hl 3 rfl) ?_
  refine lv_iconst (v := (1 : Int32)) hx hb dL_law_223 (by decide) ?_
  refine lv_iadd hx hb dL_law_224 ?_
  refine r_sld (i := i) G w 1 (by omega) hL dL_law_225 ?_
  refine lv_aload_n hx hb dL_law_226 rfl (lv_at hl 0 rfl) ?_
  refine lv_iload_n hx hb dL_law_227 rfl (lv_at hl 3 rfl) ?_
  refine lv_iconst (v := (2 : Int32)) hx hb dL_law_228 (by decide) ?_
  refine lv_iadd hx hb dL_law_229 ?_
  refine r_sld (i := i) G w 2 (by omega) hL dL_law_230 ?_
  refine r_bool (pc1 := 238) (pc2 := 239) G dL_law_231 (by decide) dL_law_234 dL_law_235 (by decide) dL_law_238 rfl ?_
  refine r_VIs (r := r) (As := [.int (xs (i + 1)), .int (if (xs (i + 2)) = 0 then (0 : Int32) else 1)]) (rest := []) (wc := (ws_TL_setFinal cI cJ cZ (a 0) (a 1) (a 21) (a 22) (a 23) (a 2) (a 7) (a 3) (a 6) (a 4) (a 5) (a 8) (a 10) (a 17) (a 20) (a 9) (a 11) (a 13) (a 15) (a 16) (a 12) (a 14) (a 18) (a 19) vtn vlc vtS vtL vtF vmode vbudget vformed vce vcorr vdec vqn vtl vpn vpl vpv vsn vsl vsv vkn vbi vhs vhl vhm vhf)) (wc' := (ws_TL_setFinal cI cJ cZ (a 0) (a 1) (a 21) (a 22) (a 23) (a 2) (a 7) (a 3) (a 6) (a 4) (a 5) (a 8) (a 10) (a 17) (a 20) (a 9) (a 11) (a 13) (a 15) (a 16) (a 12) (a 14) (a 18) (a 19) vtn vlc vtS vtL vtF' vmode vbudget vformed' vce' vcorr' vdec' vqn' vtl' vpn' vpl' vpv' vsn' vsl' vsv' vkn' vbi' vhs' vhl' vhm' vhf')) (ws' := ((wT cI cJ cO a f vtS vtL vtM vtF' vlc vlv vmode vbudget vformed' vce' vcorr' vdec' vqn' vE vtl' vpn' vpl' vpv' vsn' vsl' vsv' vkn' vbi' vhs' vhl' vhm' vhf' vrep vtn vtx vlen vqd vse vqu vog var vlt) ++ ((wM cI cJ cZ b vtn2 vst vmi vmos vhash vm vsa vw vsw viS vtx2 vfar vq2 vp2 vb2 vs2 vpa vrow vmo2 vso) ++ (X0 ++ X1)))) C0 w (c_TL_setFinal e1) [0, 1, 2, 3, 5, 7, 8, 10, 11, 12, 13, 14, 15, 16, 17, 18, 19] rfl rfl rfl rfl lm_RL_23 mv_TL_setFinal ⟨rfl, rfl⟩ ⟨by decide, by decide⟩ hcs0 (q0 := 0) rfl rfl rfl rfl hl rfl (Nat.le_of_ble_eq_true rfl) dL_law_239 (fun H locs w => ?_)
  refine lv_aload_n hx hb dL_law_242 rfl (lv_at hl 2 rfl) ?_
  refine lv_aload_n hx hb dL_law_243 rfl (lv_at hl 0 rfl) ?_
  refine lv_iload_n hx hb dL_law_244 rfl (lv_at hl 3 rfl) ?_
  refine lv_iconst (v := (1 : Int32)) hx hb dL_law_245 (by decide) ?_
  refine lv_iadd hx hb dL_law_246 ?_
  refine r_sld (i := i) G w 1 (by omega) hL dL_law_247 ?_
  refine lv_aload_n hx hb dL_law_248 rfl (lv_at hl 0 rfl) ?_
  refine lv_iload_n hx hb dL_law_249 rfl (lv_at hl 3 rfl) ?_
  refine lv_iconst (v := (2 : Int32)) hx hb dL_law_250 (by decide) ?_
  refine lv_iadd hx hb dL_law_251 ?_
  refine r_sld (i := i) G w 2 (by omega) hL dL_law_252 ?_
  refine r_bool (pc1 := 260) (pc2 := 261) G dL_law_253 (by decide) dL_law_256 dL_law_257 (by decide) dL_law_260 rfl ?_
  refine r_VIs (r := r) (As := [.int (xs (i + 1)), .int (if (xs (i + 2)) = 0 then (0 : Int32) else 1)]) (rest := [.int r]) (wc := (ws_Mo_setFinal cI cJ cZ (b 0) (b 1) (b 2) (b 3) (b 4) (b 5) (b 6) (b 7) (b 8) (b 9) (b 10) (b 11) (b 12) (b 13) (b 14) (b 15) vtn2 vst vmi vmos vhash vm vw)) (wc' := (ws_Mo_setFinal cI cJ cZ (b 0) (b 1) (b 2) (b 3) (b 4) (b 5) (b 6) (b 7) (b 8) (b 9) (b 10) (b 11) (b 12) (b 13) (b 14) (b 15) vtn2 vst vmi vmos vhash vm' vw')) (ws' := ((wT cI cJ cO a f vtS vtL vtM vtF' vlc vlv vmode vbudget vformed' vce' vcorr' vdec' vqn' vE vtl' vpn' vpl' vpv' vsn' vsl' vsv' vkn' vbi' vhs' vhl' vhm' vhf' vrep vtn vtx vlen vqd vse vqu vog var vlt) ++ ((wM cI cJ cZ b vtn2 vst vmi vmos vhash vm' vsa vw' vsw viS vtx2 vfar vq2 vp2 vb2 vs2 vpa vrow vmo2 vso) ++ (X0 ++ X1)))) C0 w (c_Mo_setFinal e2) [29, 30, 32] rfl rfl rfl rfl lm_RL_27 mv_Mo_setFinal ⟨rfl, rfl⟩ ⟨by decide, by decide⟩ hcs0 (q0 := 29) rfl rfl rfl rfl hl rfl (Nat.le_of_ble_eq_true rfl) dL_law_261 (fun H locs w => ?_)
  refine lv_icmp_eq (tgt := 779) hx hb dL_law_264 (by decide) (fun hc => ?_) (fun hc => absurd rfl hc)
  refine W.widen (k := cells + 20) (n := slots + 948) (Nat.le_add_right _ _) (Nat.le_add_right _ _) ?_
  exact hnext _ _ _ _ ⟨f, vtS, vtL, vtM, vtF', vlc, vlv, vmode, vbudget, vformed', vce', vcorr', vdec', vqn', vE, vtl', vpn', vpl', vpv', vsn', vsl', vsv', vkn', vbi', vhs', vhl', vhm', vhf', vrep, vtn, vtx, vlen, vqd, vse, vqu, vog, var, vlt, vtn2, vst, vmi, vmos, vhash, vm', vsa, vw', vsw, viS, vtx2, vfar, vq2, vp2, vb2, vs2, vpa, vrow, vmo2, vso, X0, X1, rfl, hR, hRX, hS0, hS1⟩ w hl
set_option maxRecDepth 100000 in
theorem law_3 {p : Program} {l : Launch} {e : Env} {s : State} {m : MethodId} {args : Array Value} {below : List Frame} {meth : Method} {c : Code} {H : Heap} {locs : List Loc} {cells slots : Nat} {Q : State → Prop} {A : Nat → Prop} {D : va_G} {cI cJ cZ cO : ClassId} {a b : Nat → Nat} {sb L i : Nat} {xs : Nat → Int32} {ls : Array Slot} {ws : va_W} (G : LG p s m args c A D cI cJ cZ cO sb L xs) (hi : i + 4 ≤ L) (hL : L ≤ 2048) (hcs : cells + 20 ≤ room_1.cells ∧ slots + 948 ≤ room_1.slots) (hnext : LN p l e s m args below meth c cells slots Q A D cI cJ cZ cO a b sb i) (hOK : LawOK cI cJ cZ cO a b ws) (w : Wd s A D ws H locs) (hl : lv_has ls 4 [(0, .ref sb), (1, .ref (a 0)), (2, .ref (b 0)), (3, .int (nI i))]) : W p l e room_1 s m args below meth c H locs cells slots Q (F0 m 269 ls []) := by
  obtain ⟨C0, hz, hX, hbl, hbA⟩ := id G
  obtain ⟨hx, hb, hml, hown, hts, hA, hK⟩ := id C0
  obtain ⟨f, vtS, vtL, vtM, vtF, vlc, vlv, vmode, vbudget, vformed, vce, vcorr, vdec, vqn, vE, vtl, vpn, vpl, vpv, vsn, vsl, vsv, vkn, vbi, vhs, vhl, vhm, vhf, vrep, vtn, vtx, vlen, vqd, vse, vqu, vog, var, vlt, vtn2, vst, vmi, vmos, vhash, vm, vsa, vw, vsw, viS, vtx2, vfar, vq2, vp2, vb2, vs2, vpa, vrow, vmo2, vso, X0, X1, hws, hRW, hRX, hS0, hS1⟩ := hOK
  subst hws
  have hcs0 : cells ≤ room_1.cells ∧ slots ≤ room_1.slots := ⟨Nat.le_trans (Nat.le_add_right _ _) hcs.1, Nat.le_trans (Nat.le_add_right _ _) hcs.2⟩
  obtain ⟨r, vlv', vlc', vqn', vpv', vpn', vpl', vsv', vsn', vsl', vkn', vbi', vtl', vhm', vhf', vhs', vhl', vformed', vce', vcorr', vdec', vm', vw', e1, e2, hR⟩ := s_lie hRW hRX
  refine lv_aload_n hx hb dL_law_269 rfl (lv_at hl 1 rfl) ?_
  refine r_VIs (r := r) (As := []) (rest := []) (wc := (ws_TL_lie cI cJ cZ (a 0) (a 1) (a 21) (a 22) (a 23) (a 2) (a 7) (a 3) (a 6) (a 4) (a 5) (a 8) (a 10) (a 17) (a 20) (a 9) (a 11) (a 13) (a 15) (a 16) (a 12) (a 14) (a 18) (a 19) vtn vlc vtS vtL vlv vmode vbudget vformed vce vcorr vdec vqn vtl vpn vpl vpv vsn vsl vsv vkn vbi vhs vhl vhm vhf vtx)) (wc' := (ws_TL_lie cI cJ cZ (a 0) (a 1) (a 21) (a 22) (a 23) (a 2) (a 7) (a 3) (a 6) (a 4) (a 5) (a 8) (a 10) (a 17) (a 20) (a 9) (a 11) (a 13) (a 15) (a 16) (a 12) (a 14) (a 18) (a 19) vtn vlc' vtS vtL vlv' vmode vbudget vformed' vce' vcorr' vdec' vqn' vtl' vpn' vpl' vpv' vsn' vsl' vsv' vkn' vbi' vhs' vhl' vhm' vhf' vtx)) (ws' := ((wT cI cJ cO a f vtS vtL vtM vtF vlc' vlv' vmode vbudget vformed' vce' vcorr' vdec' vqn' vE vtl' vpn' vpl' vpv' vsn' vsl' vsv' vkn' vbi' vhs' vhl' vhm' vhf' vrep vtn vtx vlen vqd vse vqu vog var vlt) ++ ((wM cI cJ cZ b vtn2 vst vmi vmos vhash vm vsa vw vsw viS vtx2 vfar vq2 vp2 vb2 vs2 vpa vrow vmo2 vso) ++ (X0 ++ X1)))) C0 w (c_TL_lie e1) [0, 1, 2, 3, 6, 7, 8, 10, 11, 12, 13, 14, 15, 16, 17, 18, 19, 22] rfl rfl rfl rfl lm_RL_28 mv_TL_lie ⟨rfl, rfl⟩ ⟨by decide, by decide⟩ hcs0 (q0 := 0) rfl rfl rfl rfl hl rfl (Nat.le_of_ble_eq_true rfl) dL_law_270 (fun H locs w => ?_)
  refine lv_aload_n hx hb dL_law_273 rfl (lv_at hl 2 rfl) ?_
  refine r_VIs (r := r) (As := []) (rest := [.int r]) (wc := (ws_Mo_lie cI cJ cZ (b 0) (b 1) (b 2) (b 3) (b 4) (b 5) (b 6) (b 7) (b 8) (b 9) (b 10) (b 11) (b 12) (b 13) (b 14) (b 15) vtn2 vst vmi vmos vhash vm vw vtx2)) (wc' := (ws_Mo_lie cI cJ cZ (b 0) (b 1) (b 2) (b 3) (b 4) (b 5) (b 6) (b 7) (b 8) (b 9) (b 10) (b 11) (b 12) (b 13) (b 14) (b 15) vtn2 vst vmi vmos vhash vm' vw' vtx2)) (ws' := ((wT cI cJ cO a f vtS vtL vtM vtF vlc' vlv' vmode vbudget vformed' vce' vcorr' vdec' vqn' vE vtl' vpn' vpl' vpv' vsn' vsl' vsv' vkn' vbi' vhs' vhl' vhm' vhf' vrep vtn vtx vlen vqd vse vqu vog var vlt) ++ ((wM cI cJ cZ b vtn2 vst vmi vmos vhash vm' vsa vw' vsw viS vtx2 vfar vq2 vp2 vb2 vs2 vpa vrow vmo2 vso) ++ (X0 ++ X1)))) C0 w (c_Mo_lie e2) [29, 30, 32, 35] rfl rfl rfl rfl lm_RL_32 mv_Mo_lie ⟨rfl, rfl⟩ ⟨by decide, by decide⟩ hcs0 (q0 := 29) rfl rfl rfl rfl hl rfl (Nat.le_of_ble_eq_true rfl) dL_law_274 (fun H locs w => ?_)
  refine lv_icmp_eq (tgt := 779) hx hb dL_law_277 (by decide) (fun hc => ?_) (fun hc => absurd rfl hc)
  refine W.widen (k := cells + 20) (n := slots + 948) (Nat.le_add_right _ _) (Nat.le_add_right _ _) ?_
  exact hnext _ _ _ _ ⟨f, vtS, vtL, vtM, vtF, vlc', vlv', vmode, vbudget, vformed', vce', vcorr', vdec', vqn', vE, vtl', vpn', vpl', vpv', vsn', vsl', vsv', vkn', vbi', vhs', vhl', vhm', vhf', vrep, vtn, vtx, vlen, vqd, vse, vqu, vog, var, vlt, vtn2, vst, vmi, vmos, vhash, vm', vsa, vw', vsw, viS, vtx2, vfar, vq2, vp2, vb2, vs2, vpa, vrow, vmo2, vso, X0, X1, rfl, hR, hRX, hS0, hS1⟩ w hl
set_option maxRecDepth 100000 in
theorem law_4 {p : Program} {l : Launch} {e : Env} {s : State} {m : MethodId} {args : Array Value} {below : List Frame} {meth : Method} {c : Code} {H : Heap} {locs : List Loc} {cells slots : Nat} {Q : State → Prop} {A : Nat → Prop} {D : va_G} {cI cJ cZ cO : ClassId} {a b : Nat → Nat} {sb L i : Nat} {xs : Nat → Int32} {ls : Array Slot} {ws : va_W} (G : LG p s m args c A D cI cJ cZ cO sb L xs) (hi : i + 4 ≤ L) (hL : L ≤ 2048) (hcs : cells + 20 ≤ room_1.cells ∧ slots + 948 ≤ room_1.slots) (hnext : LN p l e s m args below meth c cells slots Q A D cI cJ cZ cO a b sb i) (hOK : LawOK cI cJ cZ cO a b ws) (w : Wd s A D ws H locs) (hl : lv_has ls 4 [(0, .ref sb), (1, .ref (a 0)), (2, .ref (b 0)), (3, .int (nI i))]) : W p l e room_1 s m args below meth c H locs cells slots Q (F0 m 282 ls []) := by
  obtain ⟨C0, hz, hX, hbl, hbA⟩ := id G
  obtain ⟨hx, hb, hml, hown, hts, hA, hK⟩ := id C0
  obtain ⟨f, vtS, vtL, vtM, vtF, vlc, vlv, vmode, vbudget, vformed, vce, vcorr, vdec, vqn, vE, vtl, vpn, vpl, vpv, vsn, vsl, vsv, vkn, vbi, vhs, vhl, vhm, vhf, vrep, vtn, vtx, vlen, vqd, vse, vqu, vog, var, vlt, vtn2, vst, vmi, vmos, vhash, vm, vsa, vw, vsw, viS, vtx2, vfar, vq2, vp2, vb2, vs2, vpa, vrow, vmo2, vso, X0, X1, hws, hRW, hRX, hS0, hS1⟩ := hOK
  subst hws
  have hcs0 : cells ≤ room_1.cells ∧ slots ≤ room_1.slots := ⟨Nat.le_trans (Nat.le_add_right _ _) hcs.1, Nat.le_trans (Nat.le_add_right _ _) hcs.2⟩
  obtain ⟨r, vfar', e1, e2⟩ := s_state hRW (xs (i + 1)) (xs (i + 2)) vfar
  refine lv_aload_n hx hb dL_law_282 rfl (lv_at hl 1 rfl) ?_
  refine lv_aload_n hx hb dL_law_283 rfl (lv_at hl 0 rfl) ?_
  refine lv_iload_n hx hb dL_law_284 rfl (lv_at hl 3 rfl) ?_
  refine lv_iconst (v := (1 : Int32)) hx hb dL_law_285 (by decide) ?_
  refine lv_iadd hx hb dL_law_286 ?_
  refine r_sld (i := i) G w 1 (by omega) hL dL_law_287 ?_
  refine lv_aload_n hx hb dL_law_288 rfl (lv_at hl 0 rfl) ?_
  refine lv_iload_n hx hb dL_law_289 rfl (lv_at hl 3 rfl) ?_
  refine lv_iconst (v := (2 : Int32)) hx hb dL_law_290 (by decide) ?_
  refine lv_iadd hx hb dL_law_291 ?_
  refine r_sld (i := i) G w 2 (by omega) hL dL_law_292 ?_
  refine r_VIs (r := r) (As := [.int (xs (i + 1)), .int (xs (i + 2))]) (rest := []) (wc := (ws_TL_state cI cJ cZ (a 0) (a 1) (a 21) (a 22) (a 23) (a 2) (a 7) (a 3) (a 6) (a 4) (a 5) vtn vlc vtS vtL vtM vtF)) (wc' := (ws_TL_state cI cJ cZ (a 0) (a 1) (a 21) (a 22) (a 23) (a 2) (a 7) (a 3) (a 6) (a 4) (a 5) vtn vlc vtS vtL vtM vtF)) (ws' := ((wT cI cJ cO a f vtS vtL vtM vtF vlc vlv vmode vbudget vformed vce vcorr vdec vqn vE vtl vpn vpl vpv vsn vsl vsv vkn vbi vhs vhl vhm vhf vrep vtn vtx vlen vqd vse vqu vog var vlt) ++ ((wM cI cJ cZ b vtn2 vst vmi vmos vhash vm vsa vw vsw viS vtx2 vfar vq2 vp2 vb2 vs2 vpa vrow vmo2 vso) ++ (X0 ++ X1)))) C0 w (c_TL_state e1) [0, 1, 2, 3, 4, 5] rfl rfl rfl rfl lm_RL_33 mv_TL_state ⟨rfl, rfl⟩ ⟨by decide, by decide⟩ hcs0 (q0 := 0) rfl rfl rfl rfl hl rfl (Nat.le_of_ble_eq_true rfl) dL_law_293 (fun H locs w => ?_)
  refine lv_aload_n hx hb dL_law_296 rfl (lv_at hl 2 rfl) ?_
  refine lv_aload_n hx hb dL_law_297 rfl (lv_at hl 0 rfl) ?_
  refine lv_iload_n hx hb dL_law_298 rfl (lv_at hl 3 rfl) ?_
  refine lv_iconst (v := (1 : Int32)) hx hb dL_law_299 (by decide) ?_
  refine lv_iadd hx hb dL_law_300 ?_
  refine r_sld (i := i) G w 1 (by omega) hL dL_law_301 ?_
  refine lv_aload_n hx hb dL_law_302 rfl (lv_at hl 0 rfl) ?_
  refine lv_iload_n hx hb dL_law_303 rfl (lv_at hl 3 rfl) ?_
  refine lv_iconst (v := (2 : Int32)) hx hb dL_law_304 (by decide) ?_
  refine lv_iadd hx hb dL_law_305 ?_
  refine r_sld (i := i) G w 2 (by omega) hL dL_law_306 ?_
  refine r_VIs (r := r) (As := [.int (xs (i + 1)), .int (xs (i + 2))]) (rest := [.int r]) (wc := (ws_Mo_state cI cJ cZ (b 0) (b 1) (b 2) (b 3) (b 4) (b 5) (b 6) (b 7) (b 8) (b 9) (b 10) (b 11) (b 12) (b 13) (b 14) (b 15) vtn2 vst vmi vmos vhash vm vfar)) (wc' := (ws_Mo_state cI cJ cZ (b 0) (b 1) (b 2) (b 3) (b 4) (b 5) (b 6) (b 7) (b 8) (b 9) (b 10) (b 11) (b 12) (b 13) (b 14) (b 15) vtn2 vst vmi vmos vhash vm vfar')) (ws' := ((wT cI cJ cO a f vtS vtL vtM vtF vlc vlv vmode vbudget vformed vce vcorr vdec vqn vE vtl vpn vpl vpv vsn vsl vsv vkn vbi vhs vhl vhm vhf vrep vtn vtx vlen vqd vse vqu vog var vlt) ++ ((wM cI cJ cZ b vtn2 vst vmi vmos vhash vm vsa vw vsw viS vtx2 vfar' vq2 vp2 vb2 vs2 vpa vrow vmo2 vso) ++ (X0 ++ X1)))) C0 w (c_Mo_state e2) [29, 30, 36] rfl rfl rfl rfl lm_RL_36 mv_Mo_state ⟨rfl, rfl⟩ ⟨by decide, by decide⟩ hcs0 (q0 := 29) rfl rfl rfl rfl hl rfl (Nat.le_of_ble_eq_true rfl) dL_law_307 (fun H locs w => ?_)
  refine lv_icmp_eq (tgt := 779) hx hb dL_law_310 (by decide) (fun hc => ?_) (fun hc => absurd rfl hc)
  refine W.widen (k := cells + 20) (n := slots + 948) (Nat.le_add_right _ _) (Nat.le_add_right _ _) ?_
  exact hnext _ _ _ _ ⟨f, vtS, vtL, vtM, vtF, vlc, vlv, vmode, vbudget, vformed, vce, vcorr, vdec, vqn, vE, vtl, vpn, vpl, vpv, vsn, vsl, vsv, vkn, vbi, vhs, vhl, vhm, vhf, vrep, vtn, vtx, vlen, vqd, vse, vqu, vog, var, vlt, vtn2, vst, vmi, vmos, vhash, vm, vsa, vw, vsw, viS, vtx2, vfar', vq2, vp2, vb2, vs2, vpa, vrow, vmo2, vso, X0, X1, rfl, hRW, hRX, hS0, hS1⟩ w hl
set_option maxRecDepth 100000 in
theorem law_5 {p : Program} {l : Launch} {e : Env} {s : State} {m : MethodId} {args : Array Value} {below : List Frame} {meth : Method} {c : Code} {H : Heap} {locs : List Loc} {cells slots : Nat} {Q : State → Prop} {A : Nat → Prop} {D : va_G} {cI cJ cZ cO : ClassId} {a b : Nat → Nat} {sb L i : Nat} {xs : Nat → Int32} {ls : Array Slot} {ws : va_W} (G : LG p s m args c A D cI cJ cZ cO sb L xs) (hi : i + 4 ≤ L) (hL : L ≤ 2048) (hcs : cells + 20 ≤ room_1.cells ∧ slots + 948 ≤ room_1.slots) (hnext : LN p l e s m args below meth c cells slots Q A D cI cJ cZ cO a b sb i) (hOK : LawOK cI cJ cZ cO a b ws) (w : Wd s A D ws H locs) (hl : lv_has ls 4 [(0, .ref sb), (1, .ref (a 0)), (2, .ref (b 0)), (3, .int (nI i))]) : W p l e room_1 s m args below meth c H locs cells slots Q (F0 m 315 ls []) := by
  obtain ⟨C0, hz, hX, hbl, hbA⟩ := id G
  obtain ⟨hx, hb, hml, hown, hts, hA, hK⟩ := id C0
  obtain ⟨f, vtS, vtL, vtM, vtF, vlc, vlv, vmode, vbudget, vformed, vce, vcorr, vdec, vqn, vE, vtl, vpn, vpl, vpv, vsn, vsl, vsv, vkn, vbi, vhs, vhl, vhm, vhf, vrep, vtn, vtx, vlen, vqd, vse, vqu, vog, var, vlt, vtn2, vst, vmi, vmos, vhash, vm, vsa, vw, vsw, viS, vtx2, vfar, vq2, vp2, vb2, vs2, vpa, vrow, vmo2, vso, X0, X1, hws, hRW, hRX, hS0, hS1⟩ := hOK
  subst hws
  have hcs0 : cells ≤ room_1.cells ∧ slots ≤ room_1.slots := ⟨Nat.le_trans (Nat.le_add_right _ _) hcs.1, Nat.le_trans (Nat.le_add_right _ _) hcs.2⟩
  obtain ⟨r, vse', vqu', vog', var', vlt', vlen', vqd', vq2', vp2', vb2', vs2', vpa', vst', e1, e2⟩ := s_distinguish hRW (xs (i + 1)) (xs (i + 2)) (xs (i + 3)) vlen vqd vse vqu vog var vlt vq2 vp2 vb2 vs2 vpa vst
  refine lv_aload_n hx hb dL_law_315 rfl (lv_at hl 1 rfl) ?_
  refine lv_aload_n hx hb dL_law_316 rfl (lv_at hl 0 rfl) ?_
  refine lv_iload_n hx hb dL_law_317 rfl (lv_at hl 3 rfl) ?_
  refine lv_iconst (v := (1 : Int32)) hx hb dL_law_318 (by decide) ?_
  refine lv_iadd hx hb dL_law_319 ?_
  refine r_sld (i := i) G w 1 (by omega) hL dL_law_320 ?_
  refine lv_aload_n hx hb dL_law_321 rfl (lv_at hl 0 rfl) ?_
  refine lv_iload_n hx hb dL_law_322 rfl (lv_at hl 3 rfl) ?_
  refine lv_iconst (v := (2 : Int32)) hx hb dL_law_323 (by decide) ?_
  refine lv_iadd hx hb dL_law_324 ?_
  refine r_sld (i := i) G w 2 (by omega) hL dL_law_325 ?_
  refine lv_aload_n hx hb dL_law_326 rfl (lv_at hl 0 rfl) ?_
  refine lv_iload_n hx hb dL_law_327 rfl (lv_at hl 3 rfl) ?_
  refine lv_iconst (v := (3 : Int32)) hx hb dL_law_328 (by decide) ?_
  refine lv_iadd hx hb dL_law_329 ?_
  refine r_sld (i := i) G w 3 (by omega) hL dL_law_330 ?_
  refine r_VIs (r := r) (As := [.int (xs (i + 1)), .int (xs (i + 2)), .int (xs (i + 3))]) (rest := []) (wc := (ws_TL_distinguish cI cJ cZ (a 0) (a 1) (a 21) (a 22) (a 23) (a 2) (a 7) (a 3) (a 6) (a 4) (a 5) (a 24) (a 25) (a 26) (a 27) (a 28) vtn vlc vtS vtL vtM vtF vlen vqd vse vqu vog var vlt)) (wc' := (ws_TL_distinguish cI cJ cZ (a 0) (a 1) (a 21) (a 22) (a 23) (a 2) (a 7) (a 3) (a 6) (a 4) (a 5) (a 24) (a 25) (a 26) (a 27) (a 28) vtn vlc vtS vtL vtM vtF vlen' vqd' vse' vqu' vog' var' vlt')) (ws' := ((wT cI cJ cO a f vtS vtL vtM vtF vlc vlv vmode vbudget vformed vce vcorr vdec vqn vE vtl vpn vpl vpv vsn vsl vsv vkn vbi vhs vhl vhm vhf vrep vtn vtx vlen' vqd' vse' vqu' vog' var' vlt') ++ ((wM cI cJ cZ b vtn2 vst vmi vmos vhash vm vsa vw vsw viS vtx2 vfar vq2 vp2 vb2 vs2 vpa vrow vmo2 vso) ++ (X0 ++ X1)))) C0 w (c_TL_distinguish e1) [0, 1, 2, 3, 4, 5, 23, 24, 25, 26, 27, 28] rfl rfl rfl rfl lm_RL_37 mv_TL_distinguish ⟨rfl, rfl⟩ ⟨by decide, by decide⟩ hcs0 (q0 := 0) rfl rfl rfl rfl hl rfl (Nat.le_of_ble_eq_true rfl) dL_law_331 (fun H locs w => ?_)
  refine lv_aload_n hx hb dL_law_334 rfl (lv_at hl 2 rfl) ?_
  refine lv_aload_n hx hb dL_law_335 rfl (lv_at hl 0 rfl) ?_
  refine lv_iload_n hx hb dL_law_336 rfl (lv_at hl 3 rfl) ?_
  refine lv_iconst (v := (1 : Int32)) hx hb dL_law_337 (by decide) ?_
  refine lv_iadd hx hb dL_law_338 ?_
  refine r_sld (i := i) G w 1 (by omega) hL dL_law_339 ?_
  refine lv_aload_n hx hb dL_law_340 rfl (lv_at hl 0 rfl) ?_
  refine lv_iload_n hx hb dL_law_341 rfl (lv_at hl 3 rfl) ?_
  refine lv_iconst (v := (2 : Int32)) hx hb dL_law_342 (by decide) ?_
  refine lv_iadd hx hb dL_law_343 ?_
  refine r_sld (i := i) G w 2 (by omega) hL dL_law_344 ?_
  refine lv_aload_n hx hb dL_law_345 rfl (lv_at hl 0 rfl) ?_
  refine lv_iload_n hx hb dL_law_346 rfl (lv_at hl 3 rfl) ?_
  refine lv_iconst (v := (3 : Int32)) hx hb dL_law_347 (by decide) ?_
  refine lv_iadd hx hb dL_law_348 ?_
  refine r_sld (i := i) G w 3 (by omega) hL dL_law_349 ?_
  refine r_VIs (r := r) (As := [.int (xs (i + 1)), .int (xs (i + 2)), .int (xs (i + 3))]) (rest := [.int r]) (wc := (ws_Mo_distinguish cI cJ cZ (b 0) (b 1) (b 2) (b 3) (b 4) (b 5) (b 6) (b 7) (b 8) (b 9) (b 10) (b 11) (b 12) (b 13) (b 14) (b 15) vtn2 vst vmi vmos vhash vm vq2 vp2 vb2 vs2 vpa)) (wc' := (ws_Mo_distinguish cI cJ cZ (b 0) (b 1) (b 2) (b 3) (b 4) (b 5) (b 6) (b 7) (b 8) (b 9) (b 10) (b 11) (b 12) (b 13) (b 14) (b 15) vtn2 vst' vmi vmos vhash vm vq2' vp2' vb2' vs2' vpa')) (ws' := ((wT cI cJ cO a f vtS vtL vtM vtF vlc vlv vmode vbudget vformed vce vcorr vdec vqn vE vtl vpn vpl vpv vsn vsl vsv vkn vbi vhs vhl vhm vhf vrep vtn vtx vlen' vqd' vse' vqu' vog' var' vlt') ++ ((wM cI cJ cZ b vtn2 vst' vmi vmos vhash vm vsa vw vsw viS vtx2 vfar vq2' vp2' vb2' vs2' vpa' vrow vmo2 vso) ++ (X0 ++ X1)))) C0 w (c_Mo_distinguish e2) [29, 30, 37, 38, 39, 40, 41] rfl rfl rfl rfl lm_RL_40 mv_Mo_distinguish ⟨rfl, rfl⟩ ⟨by decide, by decide⟩ hcs0 (q0 := 29) rfl rfl rfl rfl hl rfl (Nat.le_of_ble_eq_true rfl) dL_law_350 (fun H locs w => ?_)
  refine lv_icmp_eq (tgt := 779) hx hb dL_law_353 (by decide) (fun hc => ?_) (fun hc => absurd rfl hc)
  refine W.widen (k := cells + 20) (n := slots + 948) (Nat.le_add_right _ _) (Nat.le_add_right _ _) ?_
  exact hnext _ _ _ _ ⟨f, vtS, vtL, vtM, vtF, vlc, vlv, vmode, vbudget, vformed, vce, vcorr, vdec, vqn, vE, vtl, vpn, vpl, vpv, vsn, vsl, vsv, vkn, vbi, vhs, vhl, vhm, vhf, vrep, vtn, vtx, vlen', vqd', vse', vqu', vog', var', vlt', vtn2, vst', vmi, vmos, vhash, vm, vsa, vw, vsw, viS, vtx2, vfar, vq2', vp2', vb2', vs2', vpa', vrow, vmo2, vso, X0, X1, rfl, hRW, hRX, hS0, hS1⟩ w hl
set_option maxRecDepth 100000 in
theorem law_6 {p : Program} {l : Launch} {e : Env} {s : State} {m : MethodId} {args : Array Value} {below : List Frame} {meth : Method} {c : Code} {H : Heap} {locs : List Loc} {cells slots : Nat} {Q : State → Prop} {A : Nat → Prop} {D : va_G} {cI cJ cZ cO : ClassId} {a b : Nat → Nat} {sb L i : Nat} {xs : Nat → Int32} {ls : Array Slot} {ws : va_W} (G : LG p s m args c A D cI cJ cZ cO sb L xs) (hi : i + 4 ≤ L) (hL : L ≤ 2048) (hcs : cells + 20 ≤ room_1.cells ∧ slots + 948 ≤ room_1.slots) (hnext : LN p l e s m args below meth c cells slots Q A D cI cJ cZ cO a b sb i) (hOK : LawOK cI cJ cZ cO a b ws) (w : Wd s A D ws H locs) (hl : lv_has ls 4 [(0, .ref sb), (1, .ref (a 0)), (2, .ref (b 0)), (3, .int (nI i))]) : W p l e room_1 s m args below meth c H locs cells slots Q (F0 m 358 ls []) := by
  obtain ⟨C0, hz, hX, hbl, hbA⟩ := id G
  obtain ⟨hx, hb, hml, hown, hts, hA, hK⟩ := id C0
  obtain ⟨f, vtS, vtL, vtM, vtF, vlc, vlv, vmode, vbudget, vformed, vce, vcorr, vdec, vqn, vE, vtl, vpn, vpl, vpv, vsn, vsl, vsv, vkn, vbi, vhs, vhl, vhm, vhf, vrep, vtn, vtx, vlen, vqd, vse, vqu, vog, var, vlt, vtn2, vst, vmi, vmos, vhash, vm, vsa, vw, vsw, viS, vtx2, vfar, vq2, vp2, vb2, vs2, vpa, vrow, vmo2, vso, X0, X1, hws, hRW, hRX, hS0, hS1⟩ := hOK
  subst hws
  have hcs0 : cells ≤ room_1.cells ∧ slots ≤ room_1.slots := ⟨Nat.le_trans (Nat.le_add_right _ _) hcs.1, Nat.le_trans (Nat.le_add_right _ _) hcs.2⟩
  obtain ⟨r, vse', vqu', vog', var', vlt', vlen', vqd', vfar', vq2', vp2', vb2', vs2', vpa', vst', e1, e2⟩ := s_leastStates hRW vlen vqd vse vqu vog var vlt vfar vq2 vp2 vb2 vs2 vpa vst
  refine lv_aload_n hx hb dL_law_358 rfl (lv_at hl 1 rfl) ?_
  refine r_VIs (r := r) (As := []) (rest := []) (wc := (ws_TL_leastStates cI cJ cZ (a 0) (a 1) (a 21) (a 22) (a 23) (a 2) (a 7) (a 3) (a 6) (a 4) (a 5) (a 24) (a 25) (a 26) (a 27) (a 28) vtn vlc vtS vtL vtM vtF vlen vqd vse vqu vog var vlt)) (wc' := (ws_TL_leastStates cI cJ cZ (a 0) (a 1) (a 21) (a 22) (a 23) (a 2) (a 7) (a 3) (a 6) (a 4) (a 5) (a 24) (a 25) (a 26) (a 27) (a 28) vtn vlc vtS vtL vtM vtF vlen' vqd' vse' vqu' vog' var' vlt')) (ws' := ((wT cI cJ cO a f vtS vtL vtM vtF vlc vlv vmode vbudget vformed vce vcorr vdec vqn vE vtl vpn vpl vpv vsn vsl vsv vkn vbi vhs vhl vhm vhf vrep vtn vtx vlen' vqd' vse' vqu' vog' var' vlt') ++ ((wM cI cJ cZ b vtn2 vst vmi vmos vhash vm vsa vw vsw viS vtx2 vfar vq2 vp2 vb2 vs2 vpa vrow vmo2 vso) ++ (X0 ++ X1)))) C0 w (c_TL_leastStates e1) [0, 1, 2, 3, 4, 5, 23, 24, 25, 26, 27, 28] rfl rfl rfl rfl lm_RL_41 mv_TL_leastStates ⟨rfl, rfl⟩ ⟨by decide, by decide⟩ hcs0 (q0 := 0) rfl rfl rfl rfl hl rfl (Nat.le_of_ble_eq_true rfl) dL_law_359 (fun H locs w => ?_)
  refine lv_aload_n hx hb dL_law_362 rfl (lv_at hl 2 rfl) ?_
  refine r_VIs (r := r) (As := []) (rest := [.int r]) (wc := (ws_Mo_leastStates cI cJ cZ (b 0) (b 1) (b 2) (b 3) (b 4) (b 5) (b 6) (b 7) (b 8) (b 9) (b 10) (b 11) (b 12) (b 13) (b 14) (b 15) vtn2 vst vmi vmos vhash vm vfar vq2 vp2 vb2 vs2 vpa)) (wc' := (ws_Mo_leastStates cI cJ cZ (b 0) (b 1) (b 2) (b 3) (b 4) (b 5) (b 6) (b 7) (b 8) (b 9) (b 10) (b 11) (b 12) (b 13) (b 14) (b 15) vtn2 vst' vmi vmos vhash vm vfar' vq2' vp2' vb2' vs2' vpa')) (ws' := ((wT cI cJ cO a f vtS vtL vtM vtF vlc vlv vmode vbudget vformed vce vcorr vdec vqn vE vtl vpn vpl vpv vsn vsl vsv vkn vbi vhs vhl vhm vhf vrep vtn vtx vlen' vqd' vse' vqu' vog' var' vlt') ++ ((wM cI cJ cZ b vtn2 vst' vmi vmos vhash vm vsa vw vsw viS vtx2 vfar' vq2' vp2' vb2' vs2' vpa' vrow vmo2 vso) ++ (X0 ++ X1)))) C0 w (c_Mo_leastStates e2) [29, 30, 36, 37, 38, 39, 40, 41] rfl rfl rfl rfl lm_RL_44 mv_Mo_leastStates ⟨rfl, rfl⟩ ⟨by decide, by decide⟩ hcs0 (q0 := 29) rfl rfl rfl rfl hl rfl (Nat.le_of_ble_eq_true rfl) dL_law_363 (fun H locs w => ?_)
  refine lv_icmp_eq (tgt := 779) hx hb dL_law_366 (by decide) (fun hc => ?_) (fun hc => absurd rfl hc)
  refine W.widen (k := cells + 20) (n := slots + 948) (Nat.le_add_right _ _) (Nat.le_add_right _ _) ?_
  exact hnext _ _ _ _ ⟨f, vtS, vtL, vtM, vtF, vlc, vlv, vmode, vbudget, vformed, vce, vcorr, vdec, vqn, vE, vtl, vpn, vpl, vpv, vsn, vsl, vsv, vkn, vbi, vhs, vhl, vhm, vhf, vrep, vtn, vtx, vlen', vqd', vse', vqu', vog', var', vlt', vtn2, vst', vmi, vmos, vhash, vm, vsa, vw, vsw, viS, vtx2, vfar', vq2', vp2', vb2', vs2', vpa', vrow, vmo2, vso, X0, X1, rfl, hRW, hRX, hS0, hS1⟩ w hl
set_option maxRecDepth 100000 in
theorem law_7 {p : Program} {l : Launch} {e : Env} {s : State} {m : MethodId} {args : Array Value} {below : List Frame} {meth : Method} {c : Code} {H : Heap} {locs : List Loc} {cells slots : Nat} {Q : State → Prop} {A : Nat → Prop} {D : va_G} {cI cJ cZ cO : ClassId} {a b : Nat → Nat} {sb L i : Nat} {xs : Nat → Int32} {ls : Array Slot} {ws : va_W} (G : LG p s m args c A D cI cJ cZ cO sb L xs) (hi : i + 4 ≤ L) (hL : L ≤ 2048) (hcs : cells + 20 ≤ room_1.cells ∧ slots + 948 ≤ room_1.slots) (hnext : LN p l e s m args below meth c cells slots Q A D cI cJ cZ cO a b sb i) (hOK : LawOK cI cJ cZ cO a b ws) (w : Wd s A D ws H locs) (hl : lv_has ls 4 [(0, .ref sb), (1, .ref (a 0)), (2, .ref (b 0)), (3, .int (nI i))]) : W p l e room_1 s m args below meth c H locs cells slots Q (F0 m 371 ls []) := by
  obtain ⟨C0, hz, hX, hbl, hbA⟩ := id G
  obtain ⟨hx, hb, hml, hown, hts, hA, hK⟩ := id C0
  obtain ⟨f, vtS, vtL, vtM, vtF, vlc, vlv, vmode, vbudget, vformed, vce, vcorr, vdec, vqn, vE, vtl, vpn, vpl, vpv, vsn, vsl, vsv, vkn, vbi, vhs, vhl, vhm, vhf, vrep, vtn, vtx, vlen, vqd, vse, vqu, vog, var, vlt, vtn2, vst, vmi, vmos, vhash, vm, vsa, vw, vsw, viS, vtx2, vfar, vq2, vp2, vb2, vs2, vpa, vrow, vmo2, vso, X0, X1, hws, hRW, hRX, hS0, hS1⟩ := hOK
  subst hws
  have hcs0 : cells ≤ room_1.cells ∧ slots ≤ room_1.slots := ⟨Nat.le_trans (Nat.le_add_right _ _) hcs.1, Nat.le_trans (Nat.le_add_right _ _) hcs.2⟩
  obtain ⟨r, e1, e2⟩ := s_accepts hRW hRX
  refine lv_aload_n hx hb dL_law_371 rfl (lv_at hl 1 rfl) ?_
  refine r_VIs (r := r) (As := []) (rest := []) (wc := (ws_TL_accepts cI cJ cZ (a 0) (a 1) (a 21) (a 22) (a 23) (a 2) (a 7) (a 3) (a 6) (a 4) (a 5) vtn vlc vtS vtL vtM vtF vtx)) (wc' := (ws_TL_accepts cI cJ cZ (a 0) (a 1) (a 21) (a 22) (a 23) (a 2) (a 7) (a 3) (a 6) (a 4) (a 5) vtn vlc vtS vtL vtM vtF vtx)) (ws' := ((wT cI cJ cO a f vtS vtL vtM vtF vlc vlv vmode vbudget vformed vce vcorr vdec vqn vE vtl vpn vpl vpv vsn vsl vsv vkn vbi vhs vhl vhm vhf vrep vtn vtx vlen vqd vse vqu vog var vlt) ++ ((wM cI cJ cZ b vtn2 vst vmi vmos vhash vm vsa vw vsw viS vtx2 vfar vq2 vp2 vb2 vs2 vpa vrow vmo2 vso) ++ (X0 ++ X1)))) C0 w (c_TL_accepts e1) [0, 1, 2, 3, 4, 5, 22] rfl rfl rfl rfl lm_RL_45 mv_TL_accepts ⟨rfl, rfl⟩ ⟨by decide, by decide⟩ hcs0 (q0 := 0) rfl rfl rfl rfl hl rfl (Nat.le_of_ble_eq_true rfl) dL_law_372 (fun H locs w => ?_)
  refine lv_aload_n hx hb dL_law_375 rfl (lv_at hl 2 rfl) ?_
  refine r_VIs (r := r) (As := []) (rest := [.int r]) (wc := (ws_Mo_accepts cI cJ cZ (b 0) (b 1) (b 2) (b 3) (b 4) (b 5) (b 6) (b 7) (b 8) (b 9) (b 10) (b 11) (b 12) (b 13) (b 14) (b 15) vtn2 vst vmi vmos vhash vm vtx2)) (wc' := (ws_Mo_accepts cI cJ cZ (b 0) (b 1) (b 2) (b 3) (b 4) (b 5) (b 6) (b 7) (b 8) (b 9) (b 10) (b 11) (b 12) (b 13) (b 14) (b 15) vtn2 vst vmi vmos vhash vm vtx2)) (ws' := ((wT cI cJ cO a f vtS vtL vtM vtF vlc vlv vmode vbudget vformed vce vcorr vdec vqn vE vtl vpn vpl vpv vsn vsl vsv vkn vbi vhs vhl vhm vhf vrep vtn vtx vlen vqd vse vqu vog var vlt) ++ ((wM cI cJ cZ b vtn2 vst vmi vmos vhash vm vsa vw vsw viS vtx2 vfar vq2 vp2 vb2 vs2 vpa vrow vmo2 vso) ++ (X0 ++ X1)))) C0 w (c_Mo_accepts e2) [29, 30, 35] rfl rfl rfl rfl lm_RL_48 mv_Mo_accepts ⟨rfl, rfl⟩ ⟨by decide, by decide⟩ hcs0 (q0 := 29) rfl rfl rfl rfl hl rfl (Nat.le_of_ble_eq_true rfl) dL_law_376 (fun H locs w => ?_)
  refine lv_icmp_eq (tgt := 779) hx hb dL_law_379 (by decide) (fun hc => ?_) (fun hc => absurd rfl hc)
  refine W.widen (k := cells + 20) (n := slots + 948) (Nat.le_add_right _ _) (Nat.le_add_right _ _) ?_
  exact hnext _ _ _ _ ⟨f, vtS, vtL, vtM, vtF, vlc, vlv, vmode, vbudget, vformed, vce, vcorr, vdec, vqn, vE, vtl, vpn, vpl, vpv, vsn, vsl, vsv, vkn, vbi, vhs, vhl, vhm, vhf, vrep, vtn, vtx, vlen, vqd, vse, vqu, vog, var, vlt, vtn2, vst, vmi, vmos, vhash, vm, vsa, vw, vsw, viS, vtx2, vfar, vq2, vp2, vb2, vs2, vpa, vrow, vmo2, vso, X0, X1, rfl, hRW, hRX, hS0, hS1⟩ w hl
set_option maxRecDepth 100000 in
theorem law_8 {p : Program} {l : Launch} {e : Env} {s : State} {m : MethodId} {args : Array Value} {below : List Frame} {meth : Method} {c : Code} {H : Heap} {locs : List Loc} {cells slots : Nat} {Q : State → Prop} {A : Nat → Prop} {D : va_G} {cI cJ cZ cO : ClassId} {a b : Nat → Nat} {sb L i : Nat} {xs : Nat → Int32} {ls : Array Slot} {ws : va_W} (G : LG p s m args c A D cI cJ cZ cO sb L xs) (hi : i + 4 ≤ L) (hL : L ≤ 2048) (hcs : cells + 20 ≤ room_1.cells ∧ slots + 948 ≤ room_1.slots) (hnext : LN p l e s m args below meth c cells slots Q A D cI cJ cZ cO a b sb i) (hOK : LawOK cI cJ cZ cO a b ws) (w : Wd s A D ws H locs) (hl : lv_has ls 4 [(0, .ref sb), (1, .ref (a 0)), (2, .ref (b 0)), (3, .int (nI i))]) : W p l e room_1 s m args below meth c H locs cells slots Q (F0 m 384 ls []) := by
  obtain ⟨C0, hz, hX, hbl, hbA⟩ := id G
  obtain ⟨hx, hb, hml, hown, hts, hA, hK⟩ := id C0
  obtain ⟨f, vtS, vtL, vtM, vtF, vlc, vlv, vmode, vbudget, vformed, vce, vcorr, vdec, vqn, vE, vtl, vpn, vpl, vpv, vsn, vsl, vsv, vkn, vbi, vhs, vhl, vhm, vhf, vrep, vtn, vtx, vlen, vqd, vse, vqu, vog, var, vlt, vtn2, vst, vmi, vmos, vhash, vm, vsa, vw, vsw, viS, vtx2, vfar, vq2, vp2, vb2, vs2, vpa, vrow, vmo2, vso, X0, X1, hws, hRW, hRX, hS0, hS1⟩ := hOK
  subst hws
  have hcs0 : cells ≤ room_1.cells ∧ slots ≤ room_1.slots := ⟨Nat.le_trans (Nat.le_add_right _ _) hcs.1, Nat.le_trans (Nat.le_add_right _ _) hcs.2⟩
  obtain ⟨r, vtx', vtn', vtx2', vtn2', e1, e2, hR⟩ := s_type hRX (xs (i + 1))
  refine lv_aload_n hx hb dL_law_384 rfl (lv_at hl 1 rfl) ?_
  refine lv_aload_n hx hb dL_law_385 rfl (lv_at hl 0 rfl) ?_
  refine lv_iload_n hx hb dL_law_386 rfl (lv_at hl 3 rfl) ?_
  refine lv_iconst (v := (1 : Int32)) hx hb dL_law_387 (by decide) ?_
  refine lv_iadd hx hb dL_law_388 ?_
  refine r_sld (i := i) G w 1 (by omega) hL dL_law_389 ?_
  refine r_VIs (r := r) (As := [.int (xs (i + 1))]) (rest := []) (wc := (ws_TL_type cI cJ cZ (a 0) (a 1) (a 21) (a 22) (a 23) vtn vtx)) (wc' := (ws_TL_type cI cJ cZ (a 0) (a 1) (a 21) (a 22) (a 23) vtn' vtx')) (ws' := ((wT cI cJ cO a f vtS vtL vtM vtF vlc vlv vmode vbudget vformed vce vcorr vdec vqn vE vtl vpn vpl vpv vsn vsl vsv vkn vbi vhs vhl vhm vhf vrep vtn' vtx' vlen vqd vse vqu vog var vlt) ++ ((wM cI cJ cZ b vtn2 vst vmi vmos vhash vm vsa vw vsw viS vtx2 vfar vq2 vp2 vb2 vs2 vpa vrow vmo2 vso) ++ (X0 ++ X1)))) C0 w (c_TL_type e1) [0, 22] rfl rfl rfl rfl lm_RL_49 mv_TL_type ⟨rfl, rfl⟩ ⟨by decide, by decide⟩ hcs0 (q0 := 0) rfl rfl rfl rfl hl rfl (Nat.le_of_ble_eq_true rfl) dL_law_390 (fun H locs w => ?_)
  refine lv_aload_n hx hb dL_law_393 rfl (lv_at hl 2 rfl) ?_
  refine lv_aload_n hx hb dL_law_394 rfl (lv_at hl 0 rfl) ?_
  refine lv_iload_n hx hb dL_law_395 rfl (lv_at hl 3 rfl) ?_
  refine lv_iconst (v := (1 : Int32)) hx hb dL_law_396 (by decide) ?_
  refine lv_iadd hx hb dL_law_397 ?_
  refine r_sld (i := i) G w 1 (by omega) hL dL_law_398 ?_
  refine r_VIs (r := r) (As := [.int (xs (i + 1))]) (rest := [.int r]) (wc := (ws_Mo_type cI cJ cZ (b 0) (b 1) (b 2) (b 3) (b 4) (b 5) (b 6) (b 7) (b 8) (b 9) (b 10) (b 11) (b 12) (b 13) (b 14) (b 15) vtn2 vst vmi vmos vhash vtx2)) (wc' := (ws_Mo_type cI cJ cZ (b 0) (b 1) (b 2) (b 3) (b 4) (b 5) (b 6) (b 7) (b 8) (b 9) (b 10) (b 11) (b 12) (b 13) (b 14) (b 15) vtn2' vst vmi vmos vhash vtx2')) (ws' := ((wT cI cJ cO a f vtS vtL vtM vtF vlc vlv vmode vbudget vformed vce vcorr vdec vqn vE vtl vpn vpl vpv vsn vsl vsv vkn vbi vhs vhl vhm vhf vrep vtn' vtx' vlen vqd vse vqu vog var vlt) ++ ((wM cI cJ cZ b vtn2' vst vmi vmos vhash vm vsa vw vsw viS vtx2' vfar vq2 vp2 vb2 vs2 vpa vrow vmo2 vso) ++ (X0 ++ X1)))) C0 w (c_Mo_type e2) [29, 35] rfl rfl rfl rfl lm_RL_53 mv_Mo_type ⟨rfl, rfl⟩ ⟨by decide, by decide⟩ hcs0 (q0 := 29) rfl rfl rfl rfl hl rfl (Nat.le_of_ble_eq_true rfl) dL_law_399 (fun H locs w => ?_)
  refine lv_icmp_eq (tgt := 779) hx hb dL_law_402 (by decide) (fun hc => ?_) (fun hc => absurd rfl hc)
  refine W.widen (k := cells + 20) (n := slots + 948) (Nat.le_add_right _ _) (Nat.le_add_right _ _) ?_
  exact hnext _ _ _ _ ⟨f, vtS, vtL, vtM, vtF, vlc, vlv, vmode, vbudget, vformed, vce, vcorr, vdec, vqn, vE, vtl, vpn, vpl, vpv, vsn, vsl, vsv, vkn, vbi, vhs, vhl, vhm, vhf, vrep, vtn', vtx', vlen, vqd, vse, vqu, vog, var, vlt, vtn2', vst, vmi, vmos, vhash, vm, vsa, vw, vsw, viS, vtx2', vfar, vq2, vp2, vb2, vs2, vpa, vrow, vmo2, vso, X0, X1, rfl, hRW, hR, hS0, hS1⟩ w hl
set_option maxRecDepth 100000 in
theorem law_9 {p : Program} {l : Launch} {e : Env} {s : State} {m : MethodId} {args : Array Value} {below : List Frame} {meth : Method} {c : Code} {H : Heap} {locs : List Loc} {cells slots : Nat} {Q : State → Prop} {A : Nat → Prop} {D : va_G} {cI cJ cZ cO : ClassId} {a b : Nat → Nat} {sb L i : Nat} {xs : Nat → Int32} {ls : Array Slot} {ws : va_W} (G : LG p s m args c A D cI cJ cZ cO sb L xs) (hi : i + 4 ≤ L) (hL : L ≤ 2048) (hcs : cells + 20 ≤ room_1.cells ∧ slots + 948 ≤ room_1.slots) (hnext : LN p l e s m args below meth c cells slots Q A D cI cJ cZ cO a b sb i) (hOK : LawOK cI cJ cZ cO a b ws) (w : Wd s A D ws H locs) (hl : lv_has ls 4 [(0, .ref sb), (1, .ref (a 0)), (2, .ref (b 0)), (3, .int (nI i))]) : W p l e room_1 s m args below meth c H locs cells slots Q (F0 m 407 ls []) := by
  obtain ⟨C0, hz, hX, hbl, hbA⟩ := id G
  obtain ⟨hx, hb, hml, hown, hts, hA, hK⟩ := id C0
  obtain ⟨f, vtS, vtL, vtM, vtF, vlc, vlv, vmode, vbudget, vformed, vce, vcorr, vdec, vqn, vE, vtl, vpn, vpl, vpv, vsn, vsl, vsv, vkn, vbi, vhs, vhl, vhm, vhf, vrep, vtn, vtx, vlen, vqd, vse, vqu, vog, var, vlt, vtn2, vst, vmi, vmos, vhash, vm, vsa, vw, vsw, viS, vtx2, vfar, vq2, vp2, vb2, vs2, vpa, vrow, vmo2, vso, X0, X1, hws, hRW, hRX, hS0, hS1⟩ := hOK
  subst hws
  have hcs0 : cells ≤ room_1.cells ∧ slots ≤ room_1.slots := ⟨Nat.le_trans (Nat.le_add_right _ _) hcs.1, Nat.le_trans (Nat.le_add_right _ _) hcs.2⟩
  obtain ⟨r, vtn', vtn2', e1, e2, hR⟩ := s_clearText hRX
  refine lv_aload_n hx hb dL_law_407 rfl (lv_at hl 1 rfl) ?_
  refine r_VIs (r := r) (As := []) (rest := []) (wc := (ws_TL_clearText cI cJ cZ (a 0) (a 1) (a 21) (a 22) (a 23) vtn)) (wc' := (ws_TL_clearText cI cJ cZ (a 0) (a 1) (a 21) (a 22) (a 23) vtn')) (ws' := ((wT cI cJ cO a f vtS vtL vtM vtF vlc vlv vmode vbudget vformed vce vcorr vdec vqn vE vtl vpn vpl vpv vsn vsl vsv vkn vbi vhs vhl vhm vhf vrep vtn' vtx vlen vqd vse vqu vog var vlt) ++ ((wM cI cJ cZ b vtn2 vst vmi vmos vhash vm vsa vw vsw viS vtx2 vfar vq2 vp2 vb2 vs2 vpa vrow vmo2 vso) ++ (X0 ++ X1)))) C0 w (c_TL_clearText e1) [0] rfl rfl rfl rfl lm_RL_54 mv_TL_clearText ⟨rfl, rfl⟩ ⟨by decide, by decide⟩ hcs0 (q0 := 0) rfl rfl rfl rfl hl rfl (Nat.le_of_ble_eq_true rfl) dL_law_408 (fun H locs w => ?_)
  refine lv_aload_n hx hb dL_law_411 rfl (lv_at hl 2 rfl) ?_
  refine r_VIs (r := r) (As := []) (rest := [.int r]) (wc := (ws_Mo_clearText cI cJ cZ (b 0) (b 1) (b 2) (b 3) (b 4) (b 5) (b 6) (b 7) (b 8) (b 9) (b 10) (b 11) (b 12) (b 13) (b 14) (b 15) vtn2 vst vmi vmos vhash)) (wc' := (ws_Mo_clearText cI cJ cZ (b 0) (b 1) (b 2) (b 3) (b 4) (b 5) (b 6) (b 7) (b 8) (b 9) (b 10) (b 11) (b 12) (b 13) (b 14) (b 15) vtn2' vst vmi vmos vhash)) (ws' := ((wT cI cJ cO a f vtS vtL vtM vtF vlc vlv vmode vbudget vformed vce vcorr vdec vqn vE vtl vpn vpl vpv vsn vsl vsv vkn vbi vhs vhl vhm vhf vrep vtn' vtx vlen vqd vse vqu vog var vlt) ++ ((wM cI cJ cZ b vtn2' vst vmi vmos vhash vm vsa vw vsw viS vtx2 vfar vq2 vp2 vb2 vs2 vpa vrow vmo2 vso) ++ (X0 ++ X1)))) C0 w (c_Mo_clearText e2) [29] rfl rfl rfl rfl lm_RL_57 mv_Mo_clearText ⟨rfl, rfl⟩ ⟨by decide, by decide⟩ hcs0 (q0 := 29) rfl rfl rfl rfl hl rfl (Nat.le_of_ble_eq_true rfl) dL_law_412 (fun H locs w => ?_)
  refine lv_icmp_eq (tgt := 779) hx hb dL_law_415 (by decide) (fun hc => ?_) (fun hc => absurd rfl hc)
  refine W.widen (k := cells + 20) (n := slots + 948) (Nat.le_add_right _ _) (Nat.le_add_right _ _) ?_
  exact hnext _ _ _ _ ⟨f, vtS, vtL, vtM, vtF, vlc, vlv, vmode, vbudget, vformed, vce, vcorr, vdec, vqn, vE, vtl, vpn, vpl, vpv, vsn, vsl, vsv, vkn, vbi, vhs, vhl, vhm, vhf, vrep, vtn', vtx, vlen, vqd, vse, vqu, vog, var, vlt, vtn2', vst, vmi, vmos, vhash, vm, vsa, vw, vsw, viS, vtx2, vfar, vq2, vp2, vb2, vs2, vpa, vrow, vmo2, vso, X0, X1, rfl, hRW, hR, hS0, hS1⟩ w hl
set_option maxRecDepth 100000 in
theorem law_10 {p : Program} {l : Launch} {e : Env} {s : State} {m : MethodId} {args : Array Value} {below : List Frame} {meth : Method} {c : Code} {H : Heap} {locs : List Loc} {cells slots : Nat} {Q : State → Prop} {A : Nat → Prop} {D : va_G} {cI cJ cZ cO : ClassId} {a b : Nat → Nat} {sb L i : Nat} {xs : Nat → Int32} {ls : Array Slot} {ws : va_W} (G : LG p s m args c A D cI cJ cZ cO sb L xs) (hi : i + 4 ≤ L) (hL : L ≤ 2048) (hcs : cells + 20 ≤ room_1.cells ∧ slots + 948 ≤ room_1.slots) (hnext : LN p l e s m args below meth c cells slots Q A D cI cJ cZ cO a b sb i) (hOK : LawOK cI cJ cZ cO a b ws) (w : Wd s A D ws H locs) (hl : lv_has ls 4 [(0, .ref sb), (1, .ref (a 0)), (2, .ref (b 0)), (3, .int (nI i))]) : W p l e room_1 s m args below meth c H locs cells slots Q (F0 m 420 ls []) := by
  obtain ⟨C0, hz, hX, hbl, hbA⟩ := id G
  obtain ⟨hx, hb, hml, hown, hts, hA, hK⟩ := id C0
  obtain ⟨f, vtS, vtL, vtM, vtF, vlc, vlv, vmode, vbudget, vformed, vce, vcorr, vdec, vqn, vE, vtl, vpn, vpl, vpv, vsn, vsl, vsv, vkn, vbi, vhs, vhl, vhm, vhf, vrep, vtn, vtx, vlen, vqd, vse, vqu, vog, var, vlt, vtn2, vst, vmi, vmos, vhash, vm, vsa, vw, vsw, viS, vtx2, vfar, vq2, vp2, vb2, vs2, vpa, vrow, vmo2, vso, X0, X1, hws, hRW, hRX, hS0, hS1⟩ := hOK
  subst hws
  have hcs0 : cells ≤ room_1.cells ∧ slots ≤ room_1.slots := ⟨Nat.le_trans (Nat.le_add_right _ _) hcs.1, Nat.le_trans (Nat.le_add_right _ _) hcs.2⟩
  obtain ⟨r, vqn', vpv', vpn', vpl', vsv', vsn', vsl', vkn', vbi', vtl', vhm', vhf', vhs', vhl', vmode', vbudget', vformed', vce', vcorr', vdec', vm', vw', e1, e2, hR⟩ := s_begin hRW (xs (i + 1)) (xs (i + 2))
  refine lv_aload_n hx hb dL_law_420 rfl (lv_at hl 1 rfl) ?_
  refine lv_aload_n hx hb dL_law_421 rfl (lv_at hl 0 rfl) ?_
  refine lv_iload_n hx hb dL_law_422 rfl (lv_at hl 3 rfl) ?_
  refine lv_iconst (v := (1 : Int32)) hx hb dL_law_423 (by decide) ?_
  refine lv_iadd hx hb dL_law_424 ?_
  refine r_sld (i := i) G w 1 (by omega) hL dL_law_425 ?_
  refine lv_aload_n hx hb dL_law_426 rfl (lv_at hl 0 rfl) ?_
  refine lv_iload_n hx hb dL_law_427 rfl (lv_at hl 3 rfl) ?_
  refine lv_iconst (v := (2 : Int32)) hx hb dL_law_428 (by decide) ?_
  refine lv_iadd hx hb dL_law_429 ?_
  refine r_sld (i := i) G w 2 (by omega) hL dL_law_430 ?_
  refine r_VIs (r := r) (As := [.int (xs (i + 1)), .int (xs (i + 2))]) (rest := []) (wc := (ws_TL_begin cI cJ cZ (a 0) (a 1) (a 21) (a 22) (a 23) (a 2) (a 7) (a 3) (a 6) (a 4) (a 5) (a 8) (a 10) (a 17) (a 20) (a 9) (a 11) (a 13) (a 15) (a 16) (a 12) (a 14) (a 18) (a 19) vtn vlc vtS vtL vmode vbudget vformed vce vcorr vdec vqn vtl vpn vpl vpv vsn vsl vsv vkn vbi vhs vhl vhm vhf)) (wc' := (ws_TL_begin cI cJ cZ (a 0) (a 1) (a 21) (a 22) (a 23) (a 2) (a 7) (a 3) (a 6) (a 4) (a 5) (a 8) (a 10) (a 17) (a 20) (a 9) (a 11) (a 13) (a 15) (a 16) (a 12) (a 14) (a 18) (a 19) vtn vlc vtS vtL vmode' vbudget' vformed' vce' vcorr' vdec' vqn' vtl' vpn' vpl' vpv' vsn' vsl' vsv' vkn' vbi' vhs' vhl' vhm' vhf')) (ws' := ((wT cI cJ cO a f vtS vtL vtM vtF vlc vlv vmode' vbudget' vformed' vce' vcorr' vdec' vqn' vE vtl' vpn' vpl' vpv' vsn' vsl' vsv' vkn' vbi' vhs' vhl' vhm' vhf' vrep vtn vtx vlen vqd vse vqu vog var vlt) ++ ((wM cI cJ cZ b vtn2 vst vmi vmos vhash vm vsa vw vsw viS vtx2 vfar vq2 vp2 vb2 vs2 vpa vrow vmo2 vso) ++ (X0 ++ X1)))) C0 w (c_TL_begin e1) [0, 1, 2, 3, 7, 8, 10, 11, 12, 13, 14, 15, 16, 17, 18, 19] rfl rfl rfl rfl lm_RL_58 mv_TL_begin ⟨rfl, rfl⟩ ⟨by decide, by decide⟩ hcs0 (q0 := 0) rfl rfl rfl rfl hl rfl (Nat.le_of_ble_eq_true rfl) dL_law_431 (fun H locs w => ?_)
  refine lv_aload_n hx hb dL_law_434 rfl (lv_at hl 2 rfl) ?_
  refine lv_aload_n hx hb dL_law_435 rfl (lv_at hl 0 rfl) ?_
  refine lv_iload_n hx hb dL_law_436 rfl (lv_at hl 3 rfl) ?_
  refine lv_iconst (v := (1 : Int32)) hx hb dL_law_437 (by decide) ?_
  refine lv_iadd hx hb dL_law_438 ?_
  refine r_sld (i := i) G w 1 (by omega) hL dL_law_439 ?_
  refine lv_aload_n hx hb dL_law_440 rfl (lv_at hl 0 rfl) ?_
  refine lv_iload_n hx hb dL_law_441 rfl (lv_at hl 3 rfl) ?_
  refine lv_iconst (v := (2 : Int32)) hx hb dL_law_442 (by decide) ?_
  refine lv_iadd hx hb dL_law_443 ?_
  refine r_sld (i := i) G w 2 (by omega) hL dL_law_444 ?_
  refine r_VIs (r := r) (As := [.int (xs (i + 1)), .int (xs (i + 2))]) (rest := [.int r]) (wc := (ws_Mo_begin cI cJ cZ (b 0) (b 1) (b 2) (b 3) (b 4) (b 5) (b 6) (b 7) (b 8) (b 9) (b 10) (b 11) (b 12) (b 13) (b 14) (b 15) vtn2 vst vmi vmos vhash vm vw)) (wc' := (ws_Mo_begin cI cJ cZ (b 0) (b 1) (b 2) (b 3) (b 4) (b 5) (b 6) (b 7) (b 8) (b 9) (b 10) (b 11) (b 12) (b 13) (b 14) (b 15) vtn2 vst vmi vmos vhash vm' vw')) (ws' := ((wT cI cJ cO a f vtS vtL vtM vtF vlc vlv vmode' vbudget' vformed' vce' vcorr' vdec' vqn' vE vtl' vpn' vpl' vpv' vsn' vsl' vsv' vkn' vbi' vhs' vhl' vhm' vhf' vrep vtn vtx vlen vqd vse vqu vog var vlt) ++ ((wM cI cJ cZ b vtn2 vst vmi vmos vhash vm' vsa vw' vsw viS vtx2 vfar vq2 vp2 vb2 vs2 vpa vrow vmo2 vso) ++ (X0 ++ X1)))) C0 w (c_Mo_begin e2) [29, 30, 32] rfl rfl rfl rfl lm_RL_61 mv_Mo_begin ⟨rfl, rfl⟩ ⟨by decide, by decide⟩ hcs0 (q0 := 29) rfl rfl rfl rfl hl rfl (Nat.le_of_ble_eq_true rfl) dL_law_445 (fun H locs w => ?_)
  refine lv_icmp_eq (tgt := 779) hx hb dL_law_448 (by decide) (fun hc => ?_) (fun hc => absurd rfl hc)
  refine W.widen (k := cells + 20) (n := slots + 948) (Nat.le_add_right _ _) (Nat.le_add_right _ _) ?_
  exact hnext _ _ _ _ ⟨f, vtS, vtL, vtM, vtF, vlc, vlv, vmode', vbudget', vformed', vce', vcorr', vdec', vqn', vE, vtl', vpn', vpl', vpv', vsn', vsl', vsv', vkn', vbi', vhs', vhl', vhm', vhf', vrep, vtn, vtx, vlen, vqd, vse, vqu, vog, var, vlt, vtn2, vst, vmi, vmos, vhash, vm', vsa, vw', vsw, viS, vtx2, vfar, vq2, vp2, vb2, vs2, vpa, vrow, vmo2, vso, X0, X1, rfl, hR, hRX, hS0, hS1⟩ w hl

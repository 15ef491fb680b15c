set_option maxRecDepth 100000 in
theorem law_11 {p : Program} {l : Launch} {e : Env} {s : State} {m : MethodId} {args : Array Value} {below : List Frame} {meth : Method} {c : Code} {H : Heap} {locs : List Loc} {cells slots : Nat} {Q : State → Prop} {A : Nat → Prop} {D : va_G} {cI cJ cZ cO : ClassId} {a b : Nat → Nat} {sb L i : Nat} {xs : Nat → Int32} {ls : Array Slot} {ws : va_W} (G : LG p s m args c A D cI cJ cZ cO sb L xs) (hi : i + 4 ≤ L) (hL : L ≤ 2048) (hcs : cells + 20 ≤ room_1.cells ∧ slots + 948 ≤ room_1.slots) (hnext : LN p l e s m args below meth c cells slots Q A D cI cJ cZ cO a b sb i) (hOK : LawOK cI cJ cZ cO a b ws) (w : Wd s A D ws H locs) (hl : lv_has ls 4 [(0, .ref sb), (1, .ref (a 0)), (2, .ref (b 0)), (3, .int (nI i))]) : W p l e room_1 s m args below meth c H locs cells slots Q (F0 m 453 ls []) := by
  obtain ⟨C0, hz, hX, hbl, hbA⟩ := id G
  obtain ⟨hx, hb, hml, hown, hts, hA, hK⟩ := id C0
  obtain ⟨f, vtS, vtL, vtM, vtF, vlc, vlv, vmode, vbudget, vformed, vce, vcorr, vdec, vqn, vE, vtl, vpn, vpl, vpv, vsn, vsl, vsv, vkn, vbi, vhs, vhl, vhm, vhf, vrep, vtn, vtx, vlen, vqd, vse, vqu, vog, var, vlt, vtn2, vst, vmi, vmos, vhash, vm, vsa, vw, vsw, viS, vtx2, vfar, vq2, vp2, vb2, vs2, vpa, vrow, vmo2, vso, X0, X1, hws, hRW, hRX, hS0, hS1⟩ := hOK
  subst hws
  have hcs0 : cells ≤ room_1.cells ∧ slots ≤ room_1.slots := ⟨Nat.le_trans (Nat.le_add_right _ _) hcs.1, Nat.le_trans (Nat.le_add_right _ _) hcs.2⟩
  obtain ⟨r, vE', vqn', vpv', vpn', vpl', vsv', vsn', vsl', vkn', vbi', vhm', vhf', vhs', vhl', vrep', vformed', vce', vcorr', vdec', vse', vqu', vog', var', vlt', vlen', vqd', vm', vw', vq2', vp2', vb2', vs2', vpa', vst', vrow', vmi', vmo2', vmos', vso', e1, e2, hR⟩ := s_TL_step hRW vlen vqd vse vqu vog var vlt vq2 vp2 vb2 vs2 vpa vrow vso vst vmos vmi vmo2
  refine lv_aload_n hx hb dL_law_453 rfl (lv_at hl 1 rfl) ?_
  refine r_VIs (r := r) (As := []) (rest := []) (wc := (ws_TL_step cI cJ cZ (a 0) (a 1) (a 21) (a 22) (a 23) (a 2) (a 7) (a 3) (a 6) (a 4) (a 5) (a 8) (a 10) (a 17) (a 20) (a 9) (a 11) (a 13) (a 15) (a 16) (a 12) (a 14) (a 18) (a 19) (a 24) (a 25) (a 26) (a 27) (a 28) vtn vlc vtS vtL vtM vtF vlv vmode vbudget vformed vce vcorr vdec vqn vE vtl vpn vpl vpv vsn vsl vsv vkn vbi vhs vhl vhm vhf vrep vlen vqd vse vqu vog var vlt)) (wc' := (ws_TL_step cI cJ cZ (a 0) (a 1) (a 21) (a 22) (a 23) (a 2) (a 7) (a 3) (a 6) (a 4) (a 5) (a 8) (a 10) (a 17) (a 20) (a 9) (a 11) (a 13) (a 15) (a 16) (a 12) (a 14) (a 18) (a 19) (a 24) (a 25) (a 26) (a 27) (a 28) vtn vlc vtS vtL vtM vtF vlv vmode vbudget vformed' vce' vcorr' vdec' vqn' vE' vtl vpn' vpl' vpv' vsn' vsl' vsv' vkn' vbi' vhs' vhl' vhm' vhf' vrep' vlen' vqd' vse' vqu' vog' var' vlt')) (ws' := ((wT cI cJ cO a f vtS vtL vtM vtF vlc vlv vmode vbudget vformed' vce' vcorr' vdec' vqn' vE' vtl vpn' vpl' vpv' vsn' vsl' vsv' vkn' vbi' vhs' vhl' vhm' vhf' vrep' vtn vtx vlen' vqd' vse' vqu' vog' var' vlt') ++ ((wM cI cJ cZ b vtn2 vst vmi vmos vhash vm vsa vw vsw viS vtx2 vfar vq2 vp2 vb2 vs2 vpa vrow vmo2 vso) ++ (X0 ++ X1)))) C0 w (c_TL_step e1) [0, 1, 2, 3, 4, 5, 6, 7, 8, 9, 10, 11, 12, 13, 14, 15, 16, 17, 18, 19, 20, 23, 24, 25, 26, 27, 28] rfl rfl rfl rfl lm_RL_62 mv_TL_step ⟨rfl, rfl⟩ ⟨by decide, by decide⟩ hcs0 (q0 := 0) rfl rfl rfl rfl hl rfl (Nat.le_of_ble_eq_true rfl) dL_law_454 (fun H locs w => ?_)
  refine lv_aload_n hx hb dL_law_457 rfl (lv_at hl 2 rfl) ?_
  refine r_VIs (r := r) (As := []) (rest := [.int r]) (wc := (ws_Mo_step cI cJ cZ (b 0) (b 1) (b 2) (b 3) (b 4) (b 5) (b 6) (b 7) (b 8) (b 9) (b 10) (b 11) (b 12) (b 13) (b 14) (b 15) vtn2 vst vmi vmos vhash vm vw vq2 vp2 vb2 vs2 vpa vrow vmo2 vso)) (wc' := (ws_Mo_step cI cJ cZ (b 0) (b 1) (b 2) (b 3) (b 4) (b 5) (b 6) (b 7) (b 8) (b 9) (b 10) (b 11) (b 12) (b 13) (b 14) (b 15) vtn2 vst' vmi' vmos' vhash vm' vw' vq2' vp2' vb2' vs2' vpa' vrow' vmo2' vso')) (ws' := ((wT cI cJ cO a f vtS vtL vtM vtF vlc vlv vmode vbudget vformed' vce' vcorr' vdec' vqn' vE' vtl vpn' vpl' vpv' vsn' vsl' vsv' vkn' vbi' vhs' vhl' vhm' vhf' vrep' vtn vtx vlen' vqd' vse' vqu' vog' var' vlt') ++ ((wM cI cJ cZ b vtn2 vst' vmi' vmos' vhash vm' vsa vw' vsw viS vtx2 vfar vq2' vp2' vb2' vs2' vpa' vrow' vmo2' vso') ++ (X0 ++ X1)))) C0 w (c_Mo_step e2) [29, 30, 32, 37, 38, 39, 40, 41, 42, 43, 44] rfl rfl rfl rfl lm_RL_65 mv_Mo_step ⟨rfl, rfl⟩ ⟨by decide, by decide⟩ hcs0 (q0 := 29) rfl rfl rfl rfl hl rfl (Nat.le_of_ble_eq_true rfl) dL_law_458 (fun H locs w => ?_)
  refine lv_icmp_eq (tgt := 779) hx hb dL_law_461 (by decide) (fun hc => ?_) (fun hc => absurd rfl hc)
  refine W.widen (k := cells + 20) (n := slots + 948) (Nat.le_add_right _ _) (Nat.le_add_right _ _) ?_
  exact hnext _ _ _ _ ⟨f, vtS, vtL, vtM, vtF, vlc, vlv, vmode, vbudget, vformed', vce', vcorr', vdec', vqn', vE', vtl, vpn', vpl', vpv', vsn', vsl', vsv', vkn', vbi', vhs', vhl', vhm', vhf', vrep', vtn, vtx, vlen', vqd', vse', vqu', vog', var', vlt', vtn2, vst', vmi', vmos', vhash, vm', vsa, vw', vsw, viS, vtx2, vfar, vq2', vp2', vb2', vs2', vpa', vrow', vmo2', vso', X0, X1, rfl, hR, hRX, hS0, hS1⟩ w hl
set_option maxRecDepth 100000 in
theorem law_12 {p : Program} {l : Launch} {e : Env} {s : State} {m : MethodId} {args : Array Value} {below : List Frame} {meth : Method} {c : Code} {H : Heap} {locs : List Loc} {cells slots : Nat} {Q : State → Prop} {A : Nat → Prop} {D : va_G} {cI cJ cZ cO : ClassId} {a b : Nat → Nat} {sb L i : Nat} {xs : Nat → Int32} {ls : Array Slot} {ws : va_W} (G : LG p s m args c A D cI cJ cZ cO sb L xs) (hi : i + 4 ≤ L) (hL : L ≤ 2048) (hcs : cells + 20 ≤ room_1.cells ∧ slots + 948 ≤ room_1.slots) (hnext : LN p l e s m args below meth c cells slots Q A D cI cJ cZ cO a b sb i) (hOK : LawOK cI cJ cZ cO a b ws) (w : Wd s A D ws H locs) (hl : lv_has ls 4 [(0, .ref sb), (1, .ref (a 0)), (2, .ref (b 0)), (3, .int (nI i))]) : W p l e room_1 s m args below meth c H locs cells slots Q (F0 m 466 ls []) := by
  obtain ⟨C0, hz, hX, hbl, hbA⟩ := id G
  obtain ⟨hx, hb, hml, hown, hts, hA, hK⟩ := id C0
  obtain ⟨f, vtS, vtL, vtM, vtF, vlc, vlv, vmode, vbudget, vformed, vce, vcorr, vdec, vqn, vE, vtl, vpn, vpl, vpv, vsn, vsl, vsv, vkn, vbi, vhs, vhl, vhm, vhf, vrep, vtn, vtx, vlen, vqd, vse, vqu, vog, var, vlt, vtn2, vst, vmi, vmos, vhash, vm, vsa, vw, vsw, viS, vtx2, vfar, vq2, vp2, vb2, vs2, vpa, vrow, vmo2, vso, X0, X1, hws, hRW, hRX, hS0, hS1⟩ := hOK
  subst hws
  have hcs0 : cells ≤ room_1.cells ∧ slots ≤ room_1.slots := ⟨Nat.le_trans (Nat.le_add_right _ _) hcs.1, Nat.le_trans (Nat.le_add_right _ _) hcs.2⟩
  obtain ⟨r, vE', vqn', vpv', vpn', vpl', vsv', vsn', vsl', vkn', vbi', vhm', vhf', vhs', vhl', vrep', vformed', vce', vcorr', vdec', vse', vqu', vog', var', vlt', vlen', vqd', vm', vw', vq2', vp2', vb2', vs2', vpa', vst', vrow', vmi', vmo2', vmos', vso', e1, e2, hR⟩ := s_learn hRW (xs (i + 1)) vlen vqd vse vqu vog var vlt vq2 vp2 vb2 vs2 vpa vrow vso vst vmos vmi vmo2
  refine lv_aload_n hx hb dL_law_466 rfl (lv_at hl 1 rfl) ?_
  refine lv_aload_n hx hb dL_law_467 rfl (lv_at hl 0 rfl) ?_
  refine lv_iload_n hx hb dL_law_468 rfl (lv_at hl 3 rfl) ?_
  refine lv_iconst (v := (1 : Int32)) hx hb dL_law_469 (by decide) ?_
  refine lv_iadd hx hb dL_law_470 ?_
  refine r_sld (i := i) G w 1 (by omega) hL dL_law_471 ?_
  refine r_VIs (r := r) (As := [.int (xs (i + 1))]) (rest := []) (wc := (ws_TL_learn cI cJ cZ (a 0) (a 1) (a 21) (a 22) (a 23) (a 2) (a 7) (a 3) (a 6) (a 4) (a 5) (a 8) (a 10) (a 17) (a 20) (a 9) (a 11) (a 13) (a 15) (a 16) (a 12) (a 14) (a 18) (a 19) (a 24) (a 25) (a 26) (a 27) (a 28) vtn vlc vtS vtL vtM vtF vlv vmode vbudget vformed vce vcorr vdec vqn vE vtl vpn vpl vpv vsn vsl vsv vkn vbi vhs vhl vhm vhf vrep vlen vqd vse vqu vog var vlt)) (wc' := (ws_TL_learn cI cJ cZ (a 0) (a 1) (a 21) (a 22) (a 23) (a 2) (a 7) (a 3) (a 6) (a 4) (a 5) (a 8) (a 10) (a 17) (a 20) (a 9) (a 11) (a 13) (a 15) (a 16) (a 12) (a 14) (a 18) (a 19) (a 24) (a 25) (a 26) (a 27) (a 28) vtn vlc vtS vtL vtM vtF vlv vmode vbudget vformed' vce' vcorr' vdec' vqn' vE' vtl vpn' vpl' vpv' vsn' vsl' vsv' vkn' vbi' vhs' vhl' vhm' vhf' vrep' vlen' vqd' vse' vqu' vog' var' vlt')) (ws' := ((wT cI cJ cO a f vtS vtL vtM vtF vlc vlv vmode vbudget vformed' vce' vcorr' vdec' vqn' vE' vtl vpn' vpl' vpv' vsn' vsl' vsv' vkn' vbi' vhs' vhl' vhm' vhf' vrep' vtn vtx vlen' vqd' vse' vqu' vog' var' vlt') ++ ((wM cI cJ cZ b vtn2 vst vmi vmos vhash vm vsa vw vsw viS vtx2 vfar vq2 vp2 vb2 vs2 vpa vrow vmo2 vso) ++ (X0 ++ X1)))) C0 w (c_TL_learn e1) [0, 1, 2, 3, 4, 5, 6, 7, 8, 9, 10, 11, 12, 13, 14, 15, 16, 17, 18, 19, 20, 23, 24, 25, 26, 27, 28] rfl rfl rfl rfl lm_RL_66 mv_TL_learn ⟨rfl, rfl⟩ ⟨by decide, by decide⟩ hcs0 (q0 := 0) rfl rfl rfl rfl hl rfl (Nat.le_of_ble_eq_true rfl) dL_law_472 (fun H locs w => ?_)
  refine lv_aload_n hx hb dL_law_475 rfl (lv_at hl 2 rfl) ?_
  refine lv_aload_n hx hb dL_law_476 rfl (lv_at hl 0 rfl) ?_
  refine lv_iload_n hx hb dL_law_477 rfl (lv_at hl 3 rfl) ?_
  refine lv_iconst (v := (1 : Int32)) hx hb dL_law_478 (by decide) ?_
  refine lv_iadd hx hb dL_law_479 ?_
  refine r_sld (i := i) G w 1 (by omega) hL dL_law_480 ?_
  refine r_VIs (r := r) (As := [.int (xs (i + 1))]) (rest := [.int r]) (wc := (ws_Mo_learn cI cJ cZ (b 0) (b 1) (b 2) (b 3) (b 4) (b 5) (b 6) (b 7) (b 8) (b 9) (b 10) (b 11) (b 12) (b 13) (b 14) (b 15) vtn2 vst vmi vmos vhash vm vw vq2 vp2 vb2 vs2 vpa vrow vmo2 vso)) (wc' := (ws_Mo_learn cI cJ cZ (b 0) (b 1) (b 2) (b 3) (b 4) (b 5) (b 6) (b 7) (b 8) (b 9) (b 10) (b 11) (b 12) (b 13) (b 14) (b 15) vtn2 vst' vmi' vmos' vhash vm' vw' vq2' vp2' vb2' vs2' vpa' vrow' vmo2' vso')) (ws' := ((wT cI cJ cO a f vtS vtL vtM vtF vlc vlv vmode vbudget vformed' vce' vcorr' vdec' vqn' vE' vtl vpn' vpl' vpv' vsn' vsl' vsv' vkn' vbi' vhs' vhl' vhm' vhf' vrep' vtn vtx vlen' vqd' vse' vqu' vog' var' vlt') ++ ((wM cI cJ cZ b vtn2 vst' vmi' vmos' vhash vm' vsa vw' vsw viS vtx2 vfar vq2' vp2' vb2' vs2' vpa' vrow' vmo2' vso') ++ (X0 ++ X1)))) C0 w (c_Mo_learn e2) [29, 30, 32, 37, 38, 39, 40, 41, 42, 43, 44] rfl rfl rfl rfl lm_RL_69 mv_Mo_learn ⟨rfl, rfl⟩ ⟨by decide, by decide⟩ hcs0 (q0 := 29) rfl rfl rfl rfl hl rfl (Nat.le_of_ble_eq_true rfl) dL_law_481 (fun H locs w => ?_)
  refine lv_icmp_eq (tgt := 779) hx hb dL_law_484 (by decide) (fun hc => ?_) (fun hc => absurd rfl hc)
  refine W.widen (k := cells + 20) (n := slots + 948) (Nat.le_add_right _ _) (Nat.le_add_right _ _) ?_
  exact hnext _ _ _ _ ⟨f, vtS, vtL, vtM, vtF, vlc, vlv, vmode, vbudget, vformed', vce', vcorr', vdec', vqn', vE', vtl, vpn', vpl', vpv', vsn', vsl', vsv', vkn', vbi', vhs', vhl', vhm', vhf', vrep', vtn, vtx, vlen', vqd', vse', vqu', vog', var', vlt', vtn2, vst', vmi', vmos', vhash, vm', vsa, vw', vsw, viS, vtx2, vfar, vq2', vp2', vb2', vs2', vpa', vrow', vmo2', vso', X0, X1, rfl, hR, hRX, hS0, hS1⟩ w hl
set_option maxRecDepth 100000 in
theorem law_13 {p : Program} {l : Launch} {e : Env} {s : State} {m : MethodId} {args : Array Value} {below : List Frame} {meth : Method} {c : Code} {H : Heap} {locs : List Loc} {cells slots : Nat} {Q : State → Prop} {A : Nat → Prop} {D : va_G} {cI cJ cZ cO : ClassId} {a b : Nat → Nat} {sb L i : Nat} {xs : Nat → Int32} {ls : Array Slot} {ws : va_W} (G : LG p s m args c A D cI cJ cZ cO sb L xs) (hi : i + 4 ≤ L) (hL : L ≤ 2048) (hcs : cells + 20 ≤ room_1.cells ∧ slots + 948 ≤ room_1.slots) (hnext : LN p l e s m args below meth c cells slots Q A D cI cJ cZ cO a b sb i) (hOK : LawOK cI cJ cZ cO a b ws) (w : Wd s A D ws H locs) (hl : lv_has ls 4 [(0, .ref sb), (1, .ref (a 0)), (2, .ref (b 0)), (3, .int (nI i))]) : W p l e room_1 s m args below meth c H locs cells slots Q (F0 m 489 ls []) := by
  obtain ⟨C0, hz, hX, hbl, hbA⟩ := id G
  obtain ⟨hx, hb, hml, hown, hts, hA, hK⟩ := id C0
  obtain ⟨f, vtS, vtL, vtM, vtF, vlc, vlv, vmode, vbudget, vformed, vce, vcorr, vdec, vqn, vE, vtl, vpn, vpl, vpv, vsn, vsl, vsv, vkn, vbi, vhs, vhl, vhm, vhf, vrep, vtn, vtx, vlen, vqd, vse, vqu, vog, var, vlt, vtn2, vst, vmi, vmos, vhash, vm, vsa, vw, vsw, viS, vtx2, vfar, vq2, vp2, vb2, vs2, vpa, vrow, vmo2, vso, X0, X1, hws, hRW, hRX, hS0, hS1⟩ := hOK
  subst hws
  have hcs0 : cells ≤ room_1.cells ∧ slots ≤ room_1.slots := ⟨Nat.le_trans (Nat.le_add_right _ _) hcs.1, Nat.le_trans (Nat.le_add_right _ _) hcs.2⟩
  obtain ⟨r, vE', vqn', vm', vw', e1, e2, hR⟩ := s_ask hRW hRX
  refine lv_aload_n hx hb dL_law_489 rfl (lv_at hl 1 rfl) ?_
  refine r_VIs (r := r) (As := []) (rest := []) (wc := (ws_TL_ask cI cJ cZ (a 0) (a 1) (a 21) (a 22) (a 23) (a 2) (a 7) (a 3) (a 6) (a 4) (a 5) (a 8) (a 10) (a 17) (a 20) (a 9) vtn vlc vtS vtL vtM vtF vlv vmode vbudget vformed vce vcorr vdec vqn vE vtx)) (wc' := (ws_TL_ask cI cJ cZ (a 0) (a 1) (a 21) (a 22) (a 23) (a 2) (a 7) (a 3) (a 6) (a 4) (a 5) (a 8) (a 10) (a 17) (a 20) (a 9) vtn vlc vtS vtL vtM vtF vlv vmode vbudget vformed vce vcorr vdec vqn' vE' vtx)) (ws' := ((wT cI cJ cO a f vtS vtL vtM vtF vlc vlv vmode vbudget vformed vce vcorr vdec vqn' vE' vtl vpn vpl vpv vsn vsl vsv vkn vbi vhs vhl vhm vhf vrep vtn vtx vlen vqd vse vqu vog var vlt) ++ ((wM cI cJ cZ b vtn2 vst vmi vmos vhash vm vsa vw vsw viS vtx2 vfar vq2 vp2 vb2 vs2 vpa vrow vmo2 vso) ++ (X0 ++ X1)))) C0 w (c_TL_ask e1) [0, 1, 2, 3, 4, 5, 6, 7, 8, 9, 22] rfl rfl rfl rfl lm_RL_70 mv_TL_ask ⟨rfl, rfl⟩ ⟨by decide, by decide⟩ hcs0 (q0 := 0) rfl rfl rfl rfl hl rfl (Nat.le_of_ble_eq_true rfl) dL_law_490 (fun H locs w => ?_)
  refine lv_aload_n hx hb dL_law_493 rfl (lv_at hl 2 rfl) ?_
  refine r_VIs (r := r) (As := []) (rest := [.int r]) (wc := (ws_Mo_ask cI cJ cZ (b 0) (b 1) (b 2) (b 3) (b 4) (b 5) (b 6) (b 7) (b 8) (b 9) (b 10) (b 11) (b 12) (b 13) (b 14) (b 15) vtn2 vst vmi vmos vhash vm vw vtx2)) (wc' := (ws_Mo_ask cI cJ cZ (b 0) (b 1) (b 2) (b 3) (b 4) (b 5) (b 6) (b 7) (b 8) (b 9) (b 10) (b 11) (b 12) (b 13) (b 14) (b 15) vtn2 vst vmi vmos vhash vm' vw' vtx2)) (ws' := ((wT cI cJ cO a f vtS vtL vtM vtF vlc vlv vmode vbudget vformed vce vcorr vdec vqn' vE' vtl vpn vpl vpv vsn vsl vsv vkn vbi vhs vhl vhm vhf vrep vtn vtx vlen vqd vse vqu vog var vlt) ++ ((wM cI cJ cZ b vtn2 vst vmi vmos vhash vm' vsa vw' vsw viS vtx2 vfar vq2 vp2 vb2 vs2 vpa vrow vmo2 vso) ++ (X0 ++ X1)))) C0 w (c_Mo_ask e2) [29, 30, 32, 35] rfl rfl rfl rfl lm_RL_73 mv_Mo_ask ⟨rfl, rfl⟩ ⟨by decide, by decide⟩ hcs0 (q0 := 29) rfl rfl rfl rfl hl rfl (Nat.le_of_ble_eq_true rfl) dL_law_494 (fun H locs w => ?_)
  refine lv_icmp_eq (tgt := 779) hx hb dL_law_497 (by decide) (fun hc => ?_) (fun hc => absurd rfl hc)
  refine W.widen (k := cells + 20) (n := slots + 948) (Nat.le_add_right _ _) (Nat.le_add_right _ _) ?_
  exact hnext _ _ _ _ ⟨f, vtS, vtL, vtM, vtF, vlc, vlv, vmode, vbudget, vformed, vce, vcorr, vdec, vqn', vE', vtl, vpn, vpl, vpv, vsn, vsl, vsv, vkn, vbi, vhs, vhl, vhm, vhf, vrep, vtn, vtx, vlen, vqd, vse, vqu, vog, var, vlt, vtn2, vst, vmi, vmos, vhash, vm', vsa, vw', vsw, viS, vtx2, vfar, vq2, vp2, vb2, vs2, vpa, vrow, vmo2, vso, X0, X1, rfl, hR, hRX, hS0, hS1⟩ w hl
set_option maxRecDepth 100000 in
theorem law_14 {p : Program} {l : Launch} {e : Env} {s : State} {m : MethodId} {args : Array Value} {below : List Frame} {meth : Method} {c : Code} {H : Heap} {locs : List Loc} {cells slots : Nat} {Q : State → Prop} {A : Nat → Prop} {D : va_G} {cI cJ cZ cO : ClassId} {a b : Nat → Nat} {sb L i : Nat} {xs : Nat → Int32} {ls : Array Slot} {ws : va_W} (G : LG p s m args c A D cI cJ cZ cO sb L xs) (hi : i + 4 ≤ L) (hL : L ≤ 2048) (hcs : cells + 20 ≤ room_1.cells ∧ slots + 948 ≤ room_1.slots) (hnext : LN p l e s m args below meth c cells slots Q A D cI cJ cZ cO a b sb i) (hOK : LawOK cI cJ cZ cO a b ws) (w : Wd s A D ws H locs) (hl : lv_has ls 4 [(0, .ref sb), (1, .ref (a 0)), (2, .ref (b 0)), (3, .int (nI i))]) : W p l e room_1 s m args below meth c H locs cells slots Q (F0 m 502 ls []) := by
  obtain ⟨C0, hz, hX, hbl, hbA⟩ := id G
  obtain ⟨hx, hb, hml, hown, hts, hA, hK⟩ := id C0
  obtain ⟨f, vtS, vtL, vtM, vtF, vlc, vlv, vmode, vbudget, vformed, vce, vcorr, vdec, vqn, vE, vtl, vpn, vpl, vpv, vsn, vsl, vsv, vkn, vbi, vhs, vhl, vhm, vhf, vrep, vtn, vtx, vlen, vqd, vse, vqu, vog, var, vlt, vtn2, vst, vmi, vmos, vhash, vm, vsa, vw, vsw, viS, vtx2, vfar, vq2, vp2, vb2, vs2, vpa, vrow, vmo2, vso, X0, X1, hws, hRW, hRX, hS0, hS1⟩ := hOK
  subst hws
  have hcs0 : cells ≤ room_1.cells ∧ slots ≤ room_1.slots := ⟨Nat.le_trans (Nat.le_add_right _ _) hcs.1, Nat.le_trans (Nat.le_add_right _ _) hcs.2⟩
  obtain ⟨r, e1, e2⟩ := s_word hRW (if (xs (i + 1)) = 0 then (0 : Int32) else 1) (xs (i + 2)) (xs (i + 3))
  refine lv_aload_n hx hb dL_law_502 rfl (lv_at hl 1 rfl) ?_
  refine lv_aload_n hx hb dL_law_503 rfl (lv_at hl 0 rfl) ?_
  refine lv_iload_n hx hb dL_law_504 rfl (lv_at hl 3 rfl) ?_
  refine lv_iconst (v := (1 : Int32)) hx hb dL_law_505 (by decide) ?_
  refine lv_iadd hx hb dL_law_506 ?_
  refine r_sld (i := i) G w 1 (by omega) hL dL_law_507 ?_
  refine r_bool (pc1 := 515) (pc2 := 516) G dL_law_508 (by decide) dL_law_511 dL_law_512 (by decide) dL_law_515 rfl ?_
  refine lv_aload_n hx hb dL_law_516 rfl (lv_at hl 0 rfl) ?_
  refine lv_iload_n hx hb dL_law_517 rfl (lv_at hl 3 rfl) ?_
  refine lv_iconst (v := (2 : Int32)) hx hb dL_law_518 (by decide) ?_
  refine lv_iadd hx hb dL_law_519 ?_
  refine r_sld (i := i) G w 2 (by omega) hL dL_law_520 ?_
  refine lv_aload_n hx hb dL_law_521 rfl (lv_at hl 0 rfl) ?_
  refine lv_iload_n hx hb dL_law_522 rfl (lv_at hl 3 rfl) ?_
  refine lv_iconst (v := (3 : Int32)) hx hb dL_law_523 (by decide) ?_
  refine lv_iadd hx hb dL_law_524 ?_
  refine r_sld (i := i) G w 3 (by omega) hL dL_law_525 ?_
  refine r_VIs (r := r) (As := [.int (if (xs (i + 1)) = 0 then (0 : Int32) else 1), .int (xs (i + 2)), .int (xs (i + 3))]) (rest := []) (wc := (ws_TL_word cI cJ cZ (a 0) (a 1) (a 21) (a 22) (a 23) (a 2) (a 7) (a 8) (a 10) (a 17) (a 20) (a 11) (a 13) (a 15) (a 16) (a 12) (a 14) vtn vmode vbudget vformed vce vcorr vdec vtl vpn vpl vpv vsn vsl vsv)) (wc' := (ws_TL_word cI cJ cZ (a 0) (a 1) (a 21) (a 22) (a 23) (a 2) (a 7) (a 8) (a 10) (a 17) (a 20) (a 11) (a 13) (a 15) (a 16) (a 12) (a 14) vtn vmode vbudget vformed vce vcorr vdec vtl vpn vpl vpv vsn vsl vsv)) (ws' := ((wT cI cJ cO a f vtS vtL vtM vtF vlc vlv vmode vbudget vformed vce vcorr vdec vqn vE vtl vpn vpl vpv vsn vsl vsv vkn vbi vhs vhl vhm vhf vrep vtn vtx vlen vqd vse vqu vog var vlt) ++ ((wM cI cJ cZ b vtn2 vst vmi vmos vhash vm vsa vw vsw viS vtx2 vfar vq2 vp2 vb2 vs2 vpa vrow vmo2 vso) ++ (X0 ++ X1)))) C0 w (c_TL_word e1) [0, 1, 7, 10, 11, 12, 13, 14] rfl rfl rfl rfl lm_RL_74 mv_TL_word ⟨rfl, rfl⟩ ⟨by decide, by decide⟩ hcs0 (q0 := 0) rfl rfl rfl rfl hl rfl (Nat.le_of_ble_eq_true rfl) dL_law_526 (fun H locs w => ?_)
  refine lv_aload_n hx hb dL_law_529 rfl (lv_at hl 2 rfl) ?_
  refine lv_aload_n hx hb dL_law_530 rfl (lv_at hl 0 rfl) ?_
  refine lv_iload_n hx hb dL_law_531 rfl (lv_at hl 3 rfl) ?_
  refine lv_iconst (v := (1 : Int32)) hx hb dL_law_532 (by decide) ?_
  refine lv_iadd hx hb dL_law_533 ?_
  refine r_sld (i := i) G w 1 (by omega) hL dL_law_534 ?_
  refine r_bool (pc1 := 542) (pc2 := 543) G dL_law_535 (by decide) dL_law_538 dL_law_539 (by decide) dL_law_542 rfl ?_
  refine lv_aload_n hx hb dL_law_543 rfl (lv_at hl 0 rfl) ?_
  refine lv_iload_n hx hb dL_law_544 rfl (lv_at hl 3 rfl) ?_
  refine lv_iconst (v := (2 : Int32)) hx hb dL_law_545 (by decide) ?_
  refine lv_iadd hx hb dL_law_546 ?_
  refine r_sld (i := i) G w 2 (by omega) hL dL_law_547 ?_
  refine lv_aload_n hx hb dL_law_548 rfl (lv_at hl 0 rfl) ?_
  refine lv_iload_n hx hb dL_law_549 rfl (lv_at hl 3 rfl) ?_
  refine lv_iconst (v := (3 : Int32)) hx hb dL_law_550 (by decide) ?_
  refine lv_iadd hx hb dL_law_551 ?_
  refine r_sld (i := i) G w 3 (by omega) hL dL_law_552 ?_
  refine r_VIs (r := r) (As := [.int (if (xs (i + 1)) = 0 then (0 : Int32) else 1), .int (xs (i + 2)), .int (xs (i + 3))]) (rest := [.int r]) (wc := (ws_Mo_word cI cJ cZ (b 0) (b 1) (b 2) (b 3) (b 4) (b 5) (b 6) (b 7) (b 8) (b 9) (b 10) (b 11) (b 12) (b 13) (b 14) (b 15) vtn2 vst vmi vmos vhash vm vw)) (wc' := (ws_Mo_word cI cJ cZ (b 0) (b 1) (b 2) (b 3) (b 4) (b 5) (b 6) (b 7) (b 8) (b 9) (b 10) (b 11) (b 12) (b 13) (b 14) (b 15) vtn2 vst vmi vmos vhash vm vw)) (ws' := ((wT cI cJ cO a f vtS vtL vtM vtF vlc vlv vmode vbudget vformed vce vcorr vdec vqn vE vtl vpn vpl vpv vsn vsl vsv vkn vbi vhs vhl vhm vhf vrep vtn vtx vlen vqd vse vqu vog var vlt) ++ ((wM cI cJ cZ b vtn2 vst vmi vmos vhash vm vsa vw vsw viS vtx2 vfar vq2 vp2 vb2 vs2 vpa vrow vmo2 vso) ++ (X0 ++ X1)))) C0 w (c_Mo_word e2) [29, 30, 32] rfl rfl rfl rfl lm_RL_78 mv_Mo_word ⟨rfl, rfl⟩ ⟨by decide, by decide⟩ hcs0 (q0 := 29) rfl rfl rfl rfl hl rfl (Nat.le_of_ble_eq_true rfl) dL_law_553 (fun H locs w => ?_)
  refine lv_icmp_eq (tgt := 779) hx hb dL_law_556 (by decide) (fun hc => ?_) (fun hc => absurd rfl hc)
  refine W.widen (k := cells + 20) (n := slots + 948) (Nat.le_add_right _ _) (Nat.le_add_right _ _) ?_
  exact hnext _ _ _ _ ⟨f, vtS, vtL, vtM, vtF, vlc, vlv, vmode, vbudget, vformed, vce, vcorr, vdec, vqn, vE, vtl, vpn, vpl, vpv, vsn, vsl, vsv, vkn, vbi, vhs, vhl, vhm, vhf, vrep, vtn, vtx, vlen, vqd, vse, vqu, vog, var, vlt, vtn2, vst, vmi, vmos, vhash, vm, vsa, vw, vsw, viS, vtx2, vfar, vq2, vp2, vb2, vs2, vpa, vrow, vmo2, vso, X0, X1, rfl, hRW, hRX, hS0, hS1⟩ w hl
set_option maxRecDepth 100000 in
theorem law_15 {p : Program} {l : Launch} {e : Env} {s : State} {m : MethodId} {args : Array Value} {below : List Frame} {meth : Method} {c : Code} {H : Heap} {locs : List Loc} {cells slots : Nat} {Q : State → Prop} {A : Nat → Prop} {D : va_G} {cI cJ cZ cO : ClassId} {a b : Nat → Nat} {sb L i : Nat} {xs : Nat → Int32} {ls : Array Slot} {ws : va_W} (G : LG p s m args c A D cI cJ cZ cO sb L xs) (hi : i + 4 ≤ L) (hL : L ≤ 2048) (hcs : cells + 20 ≤ room_1.cells ∧ slots + 948 ≤ room_1.slots) (hnext : LN p l e s m args below meth c cells slots Q A D cI cJ cZ cO a b sb i) (hOK : LawOK cI cJ cZ cO a b ws) (w : Wd s A D ws H locs) (hl : lv_has ls 4 [(0, .ref sb), (1, .ref (a 0)), (2, .ref (b 0)), (3, .int (nI i))]) : W p l e room_1 s m args below meth c H locs cells slots Q (F0 m 561 ls []) := by
  obtain ⟨C0, hz, hX, hbl, hbA⟩ := id G
  obtain ⟨hx, hb, hml, hown, hts, hA, hK⟩ := id C0
  obtain ⟨f, vtS, vtL, vtM, vtF, vlc, vlv, vmode, vbudget, vformed, vce, vcorr, vdec, vqn, vE, vtl, vpn, vpl, vpv, vsn, vsl, vsv, vkn, vbi, vhs, vhl, vhm, vhf, vrep, vtn, vtx, vlen, vqd, vse, vqu, vog, var, vlt, vtn2, vst, vmi, vmos, vhash, vm, vsa, vw, vsw, viS, vtx2, vfar, vq2, vp2, vb2, vs2, vpa, vrow, vmo2, vso, X0, X1, hws, hRW, hRX, hS0, hS1⟩ := hOK
  subst hws
  have hcs0 : cells ≤ room_1.cells ∧ slots ≤ room_1.slots := ⟨Nat.le_trans (Nat.le_add_right _ _) hcs.1, Nat.le_trans (Nat.le_add_right _ _) hcs.2⟩
  obtain ⟨r, e1, e2⟩ := s_cell hRW (xs (i + 1)) (xs (i + 2)) (xs (i + 3))
  refine lv_aload_n hx hb dL_law_561 rfl (lv_at hl 1 rfl) ?_
  refine lv_aload_n hx hb dL_law_562 rfl (lv_at hl 0 rfl) ?_
  refine lv_iload_n hx hb dL_law_563 rfl (lv_at hl 3 rfl) ?_
  refine lv_iconst (v := (1 : Int32)) hx hb dL_law_564 (by decide) ?_
  refine lv_iadd hx hb dL_law_565 ?_
  refine r_sld (i := i) G w 1 (by omega) hL dL_law_566 ?_
  refine lv_aload_n hx hb dL_law_567 rfl (lv_at hl 0 rfl) ?_
  refine lv_iload_n hx hb dL_law_568 rfl (lv_at hl 3 rfl) ?_
  refine lv_iconst (v := (2 : Int32)) hx hb dL_law_569 (by decide) ?_
  refine lv_iadd hx hb dL_law_570 ?_
  refine r_sld (i := i) G w 2 (by omega) hL dL_law_571 ?_
  refine lv_aload_n hx hb dL_law_572 rfl (lv_at hl 0 rfl) ?_
  refine lv_iload_n hx hb dL_law_573 rfl (lv_at hl 3 rfl) ?_
  refine lv_iconst (v := (3 : Int32)) hx hb dL_law_574 (by decide) ?_
  refine lv_iadd hx hb dL_law_575 ?_
  refine r_sld (i := i) G w 3 (by omega) hL dL_law_576 ?_
  refine r_VIs (r := r) (As := [.int (xs (i + 1)), .int (xs (i + 2)), .int (xs (i + 3))]) (rest := []) (wc := (ws_TL_cell cI cJ cZ (a 0) (a 1) (a 21) (a 22) (a 23) (a 2) (a 7) (a 3) (a 6) (a 4) (a 5) (a 8) (a 10) (a 17) (a 20) (a 9) (a 11) (a 13) (a 15) (a 16) (a 12) (a 14) vtn vlc vtS vtL vmode vbudget vformed vce vcorr vdec vqn vE vtl vpn vpl vpv vsn vsl vsv)) (wc' := (ws_TL_cell cI cJ cZ (a 0) (a 1) (a 21) (a 22) (a 23) (a 2) (a 7) (a 3) (a 6) (a 4) (a 5) (a 8) (a 10) (a 17) (a 20) (a 9) (a 11) (a 13) (a 15) (a 16) (a 12) (a 14) vtn vlc vtS vtL vmode vbudget vformed vce vcorr vdec vqn vE vtl vpn vpl vpv vsn vsl vsv)) (ws' := ((wT cI cJ cO a f vtS vtL vtM vtF vlc vlv vmode vbudget vformed vce vcorr vdec vqn vE vtl vpn vpl vpv vsn vsl vsv vkn vbi vhs vhl vhm vhf vrep vtn vtx vlen vqd vse vqu vog var vlt) ++ ((wM cI cJ cZ b vtn2 vst vmi vmos vhash vm vsa vw vsw viS vtx2 vfar vq2 vp2 vb2 vs2 vpa vrow vmo2 vso) ++ (X0 ++ X1)))) C0 w (c_TL_cell e1) [0, 1, 2, 3, 7, 8, 9, 10, 11, 12, 13, 14] rfl rfl rfl rfl lm_RL_79 mv_TL_cell ⟨rfl, rfl⟩ ⟨by decide, by decide⟩ hcs0 (q0 := 0) rfl rfl rfl rfl hl rfl (Nat.le_of_ble_eq_true rfl) dL_law_577 (fun H locs w => ?_)
  refine lv_aload_n hx hb dL_law_580 rfl (lv_at hl 2 rfl) ?_
  refine lv_aload_n hx hb dL_law_581 rfl (lv_at hl 0 rfl) ?_
  refine lv_iload_n hx hb dL_law_582 rfl (lv_at hl 3 rfl) ?_
  refine lv_iconst (v := (1 : Int32)) hx hb dL_law_583 (by decide) ?_
  refine lv_iadd hx hb dL_law_584 ?_
  refine r_sld (i := i) G w 1 (by omega) hL dL_law_585 ?_
  refine lv_aload_n hx hb dL_law_586 rfl (lv_at hl 0 rfl) ?_
  refine lv_iload_n hx hb dL_law_587 rfl (lv_at hl 3 rfl) ?_
  refine lv_iconst (v := (2 : Int32)) hx hb dL_law_588 (by decide) ?_
  refine lv_iadd hx hb dL_law_589 ?_
  refine r_sld (i := i) G w 2 (by omega) hL dL_law_590 ?_
  refine lv_aload_n hx hb dL_law_591 rfl (lv_at hl 0 rfl) ?_
  refine lv_iload_n hx hb dL_law_592 rfl (lv_at hl 3 rfl) ?_
  refine lv_iconst (v := (3 : Int32)) hx hb dL_law_593 (by decide) ?_
  refine lv_iadd hx hb dL_law_594 ?_
  refine r_sld (i := i) G w 3 (by omega) hL dL_law_595 ?_
  refine r_VIs (r := r) (As := [.int (xs (i + 1)), .int (xs (i + 2)), .int (xs (i + 3))]) (rest := [.int r]) (wc := (ws_Mo_cell cI cJ cZ (b 0) (b 1) (b 2) (b 3) (b 4) (b 5) (b 6) (b 7) (b 8) (b 9) (b 10) (b 11) (b 12) (b 13) (b 14) (b 15) vtn2 vst vmi vmos vhash vm vw)) (wc' := (ws_Mo_cell cI cJ cZ (b 0) (b 1) (b 2) (b 3) (b 4) (b 5) (b 6) (b 7) (b 8) (b 9) (b 10) (b 11) (b 12) (b 13) (b 14) (b 15) vtn2 vst vmi vmos vhash vm vw)) (ws' := ((wT cI cJ cO a f vtS vtL vtM vtF vlc vlv vmode vbudget vformed vce vcorr vdec vqn vE vtl vpn vpl vpv vsn vsl vsv vkn vbi vhs vhl vhm vhf vrep vtn vtx vlen vqd vse vqu vog var vlt) ++ ((wM cI cJ cZ b vtn2 vst vmi vmos vhash vm vsa vw vsw viS vtx2 vfar vq2 vp2 vb2 vs2 vpa vrow vmo2 vso) ++ (X0 ++ X1)))) C0 w (c_Mo_cell e2) [29, 30, 32] rfl rfl rfl rfl lm_RL_82 mv_Mo_cell ⟨rfl, rfl⟩ ⟨by decide, by decide⟩ hcs0 (q0 := 29) rfl rfl rfl rfl hl rfl (Nat.le_of_ble_eq_true rfl) dL_law_596 (fun H locs w => ?_)
  refine lv_icmp_eq (tgt := 779) hx hb dL_law_599 (by decide) (fun hc => ?_) (fun hc => absurd rfl hc)
  refine W.widen (k := cells + 20) (n := slots + 948) (Nat.le_add_right _ _) (Nat.le_add_right _ _) ?_
  exact hnext _ _ _ _ ⟨f, vtS, vtL, vtM, vtF, vlc, vlv, vmode, vbudget, vformed, vce, vcorr, vdec, vqn, vE, vtl, vpn, vpl, vpv, vsn, vsl, vsv, vkn, vbi, vhs, vhl, vhm, vhf, vrep, vtn, vtx, vlen, vqd, vse, vqu, vog, var, vlt, vtn2, vst, vmi, vmos, vhash, vm, vsa, vw, vsw, viS, vtx2, vfar, vq2, vp2, vb2, vs2, vpa, vrow, vmo2, vso, X0, X1, rfl, hRW, hRX, hS0, hS1⟩ w hl
set_option maxRecDepth 100000 in
theorem law_16 {p : Program} {l : Launch} {e : Env} {s : State} {m : MethodId} {args : Array Value} {below : List Frame} {meth : Method} {c : Code} {H : Heap} {locs : List Loc} {cells slots : Nat} {Q : State → Prop} {A : Nat → Prop} {D : va_G} {cI cJ cZ cO : ClassId} {a b : Nat → Nat} {sb L i : Nat} {xs : Nat → Int32} {ls : Array Slot} {ws : va_W} (G : LG p s m args c A D cI cJ cZ cO sb L xs) (hi : i + 4 ≤ L) (hL : L ≤ 2048) (hcs : cells + 20 ≤ room_1.cells ∧ slots + 948 ≤ room_1.slots) (hnext : LN p l e s m args below meth c cells slots Q A D cI cJ cZ cO a b sb i) (hOK : LawOK cI cJ cZ cO a b ws) (w : Wd s A D ws H locs) (hl : lv_has ls 4 [(0, .ref sb), (1, .ref (a 0)), (2, .ref (b 0)), (3, .int (nI i))]) : W p l e room_1 s m args below meth c H locs cells slots Q (F0 m 604 ls []) := by
  obtain ⟨C0, hz, hX, hbl, hbA⟩ := id G
  obtain ⟨hx, hb, hml, hown, hts, hA, hK⟩ := id C0
  obtain ⟨f, vtS, vtL, vtM, vtF, vlc, vlv, vmode, vbudget, vformed, vce, vcorr, vdec, vqn, vE, vtl, vpn, vpl, vpv, vsn, vsl, vsv, vkn, vbi, vhs, vhl, vhm, vhf, vrep, vtn, vtx, vlen, vqd, vse, vqu, vog, var, vlt, vtn2, vst, vmi, vmos, vhash, vm, vsa, vw, vsw, viS, vtx2, vfar, vq2, vp2, vb2, vs2, vpa, vrow, vmo2, vso, X0, X1, hws, hRW, hRX, hS0, hS1⟩ := hOK
  subst hws
  have hcs0 : cells ≤ room_1.cells ∧ slots ≤ room_1.slots := ⟨Nat.le_trans (Nat.le_add_right _ _) hcs.1, Nat.le_trans (Nat.le_add_right _ _) hcs.2⟩
  obtain ⟨r, e1, e2⟩ := s_hypothesis hRW (xs (i + 1)) (xs (i + 2))
  refine lv_aload_n hx hb dL_law_604 rfl (lv_at hl 1 rfl) ?_
  refine lv_aload_n hx hb dL_law_605 rfl (lv_at hl 0 rfl) ?_
  refine lv_iload_n hx hb dL_law_606 rfl (lv_at hl 3 rfl) ?_
  refine lv_iconst (v := (1 : Int32)) hx hb dL_law_607 (by decide) ?_
  refine lv_iadd hx hb dL_law_608 ?_
  refine r_sld (i := i) G w 1 (by omega) hL dL_law_609 ?_
  refine lv_aload_n hx hb dL_law_610 rfl (lv_at hl 0 rfl) ?_
  refine lv_iload_n hx hb dL_law_611 rfl (lv_at hl 3 rfl) ?_
  refine lv_iconst (v := (2 : Int32)) hx hb dL_law_612 (by decide) ?_
  refine lv_iadd hx hb dL_law_613 ?_
  refine r_sld (i := i) G w 2 (by omega) hL dL_law_614 ?_
  refine r_VIs (r := r) (As := [.int (xs (i + 1)), .int (xs (i + 2))]) (rest := []) (wc := (ws_TL_hypothesis cI cJ cZ (a 0) (a 1) (a 21) (a 22) (a 23) (a 2) (a 7) (a 3) (a 6) (a 4) (a 5) (a 8) (a 10) (a 17) (a 20) (a 18) (a 19) vtn vlc vtS vtL vmode vbudget vformed vce vcorr vdec vhs vhl vhm vhf vrep)) (wc' := (ws_TL_hypothesis cI cJ cZ (a 0) (a 1) (a 21) (a 22) (a 23) (a 2) (a 7) (a 3) (a 6) (a 4) (a 5) (a 8) (a 10) (a 17) (a 20) (a 18) (a 19) vtn vlc vtS vtL vmode vbudget vformed vce vcorr vdec vhs vhl vhm vhf vrep)) (ws' := ((wT cI cJ cO a f vtS vtL vtM vtF vlc vlv vmode vbudget vformed vce vcorr vdec vqn vE vtl vpn vpl vpv vsn vsl vsv vkn vbi vhs vhl vhm vhf vrep vtn vtx vlen vqd vse vqu vog var vlt) ++ ((wM cI cJ cZ b vtn2 vst vmi vmos vhash vm vsa vw vsw viS vtx2 vfar vq2 vp2 vb2 vs2 vpa vrow vmo2 vso) ++ (X0 ++ X1)))) C0 w (c_TL_hypothesis e1) [0, 1, 2, 3, 7, 17, 18, 19, 20] rfl rfl rfl rfl lm_RL_83 mv_TL_hypothesis ⟨rfl, rfl⟩ ⟨by decide, by decide⟩ hcs0 (q0 := 0) rfl rfl rfl rfl hl rfl (Nat.le_of_ble_eq_true rfl) dL_law_615 (fun H locs w => ?_)
  refine lv_aload_n hx hb dL_law_618 rfl (lv_at hl 2 rfl) ?_
  refine lv_aload_n hx hb dL_law_619 rfl (lv_at hl 0 rfl) ?_
  refine lv_iload_n hx hb dL_law_620 rfl (lv_at hl 3 rfl) ?_
  refine lv_iconst (v := (1 : Int32)) hx hb dL_law_621 (by decide) ?_
  refine lv_iadd hx hb dL_law_622 ?_
  refine r_sld (i := i) G w 1 (by omega) hL dL_law_623 ?_
  refine lv_aload_n hx hb dL_law_624 rfl (lv_at hl 0 rfl) ?_
  refine lv_iload_n hx hb dL_law_625 rfl (lv_at hl 3 rfl) ?_
  refine lv_iconst (v := (2 : Int32)) hx hb dL_law_626 (by decide) ?_
  refine lv_iadd hx hb dL_law_627 ?_
  refine r_sld (i := i) G w 2 (by omega) hL dL_law_628 ?_
  refine r_VIs (r := r) (As := [.int (xs (i + 1)), .int (xs (i + 2))]) (rest := [.int r]) (wc := (ws_Mo_hypothesis cI cJ cZ (b 0) (b 1) (b 2) (b 3) (b 4) (b 5) (b 6) (b 7) (b 8) (b 9) (b 10) (b 11) (b 12) (b 13) (b 14) (b 15) vtn2 vst vmi vmos vhash vm)) (wc' := (ws_Mo_hypothesis cI cJ cZ (b 0) (b 1) (b 2) (b 3) (b 4) (b 5) (b 6) (b 7) (b 8) (b 9) (b 10) (b 11) (b 12) (b 13) (b 14) (b 15) vtn2 vst vmi vmos vhash vm)) (ws' := ((wT cI cJ cO a f vtS vtL vtM vtF vlc vlv vmode vbudget vformed vce vcorr vdec vqn vE vtl vpn vpl vpv vsn vsl vsv vkn vbi vhs vhl vhm vhf vrep vtn vtx vlen vqd vse vqu vog var vlt) ++ ((wM cI cJ cZ b vtn2 vst vmi vmos vhash vm vsa vw vsw viS vtx2 vfar vq2 vp2 vb2 vs2 vpa vrow vmo2 vso) ++ (X0 ++ X1)))) C0 w (c_Mo_hypothesis e2) [29, 30] rfl rfl rfl rfl lm_RL_86 mv_Mo_hypothesis ⟨rfl, rfl⟩ ⟨by decide, by decide⟩ hcs0 (q0 := 29) rfl rfl rfl rfl hl rfl (Nat.le_of_ble_eq_true rfl) dL_law_629 (fun H locs w => ?_)
  refine lv_icmp_eq (tgt := 779) hx hb dL_law_632 (by decide) (fun hc => ?_) (fun hc => absurd rfl hc)
  refine W.widen (k := cells + 20) (n := slots + 948) (Nat.le_add_right _ _) (Nat.le_add_right _ _) ?_
  exact hnext _ _ _ _ ⟨f, vtS, vtL, vtM, vtF, vlc, vlv, vmode, vbudget, vformed, vce, vcorr, vdec, vqn, vE, vtl, vpn, vpl, vpv, vsn, vsl, vsv, vkn, vbi, vhs, vhl, vhm, vhf, vrep, vtn, vtx, vlen, vqd, vse, vqu, vog, var, vlt, vtn2, vst, vmi, vmos, vhash, vm, vsa, vw, vsw, viS, vtx2, vfar, vq2, vp2, vb2, vs2, vpa, vrow, vmo2, vso, X0, X1, rfl, hRW, hRX, hS0, hS1⟩ w hl
set_option maxRecDepth 100000 in
theorem law_17 {p : Program} {l : Launch} {e : Env} {s : State} {m : MethodId} {args : Array Value} {below : List Frame} {meth : Method} {c : Code} {H : Heap} {locs : List Loc} {cells slots : Nat} {Q : State → Prop} {A : Nat → Prop} {D : va_G} {cI cJ cZ cO : ClassId} {a b : Nat → Nat} {sb L i : Nat} {xs : Nat → Int32} {ls : Array Slot} {ws : va_W} (G : LG p s m args c A D cI cJ cZ cO sb L xs) (hi : i + 4 ≤ L) (hL : L ≤ 2048) (hcs : cells + 20 ≤ room_1.cells ∧ slots + 948 ≤ room_1.slots) (hnext : LN p l e s m args below meth c cells slots Q A D cI cJ cZ cO a b sb i) (hOK : LawOK cI cJ cZ cO a b ws) (w : Wd s A D ws H locs) (hl : lv_has ls 4 [(0, .ref sb), (1, .ref (a 0)), (2, .ref (b 0)), (3, .int (nI i))]) : W p l e room_1 s m args below meth c H locs cells slots Q (F0 m 637 ls []) := by
  obtain ⟨C0, hz, hX, hbl, hbA⟩ := id G
  obtain ⟨hx, hb, hml, hown, hts, hA, hK⟩ := id C0
  obtain ⟨f, vtS, vtL, vtM, vtF, vlc, vlv, vmode, vbudget, vformed, vce, vcorr, vdec, vqn, vE, vtl, vpn, vpl, vpv, vsn, vsl, vsv, vkn, vbi, vhs, vhl, vhm, vhf, vrep, vtn, vtx, vlen, vqd, vse, vqu, vog, var, vlt, vtn2, vst, vmi, vmos, vhash, vm, vsa, vw, vsw, viS, vtx2, vfar, vq2, vp2, vb2, vs2, vpa, vrow, vmo2, vso, X0, X1, hws, hRW, hRX, hS0, hS1⟩ := hOK
  subst hws
  have hcs0 : cells ≤ room_1.cells ∧ slots ≤ room_1.slots := ⟨Nat.le_trans (Nat.le_add_right _ _) hcs.1, Nat.le_trans (Nat.le_add_right _ _) hcs.2⟩
  obtain ⟨r, e1, e2⟩ := s_guess hRW hRX
  refine lv_aload_n hx hb dL_law_637 rfl (lv_at hl 1 rfl) ?_
  refine r_VIs (r := r) (As := []) (rest := []) (wc := (ws_TL_guess cI cJ cZ (a 0) (a 1) (a 21) (a 22) (a 23) (a 2) (a 7) (a 3) (a 6) (a 4) (a 5) (a 8) (a 10) (a 17) (a 20) (a 18) (a 19) vtn vlc vtS vtL vmode vbudget vformed vce vcorr vdec vhs vhl vhm vhf vtx)) (wc' := (ws_TL_guess cI cJ cZ (a 0) (a 1) (a 21) (a 22) (a 23) (a 2) (a 7) (a 3) (a 6) (a 4) (a 5) (a 8) (a 10) (a 17) (a 20) (a 18) (a 19) vtn vlc vtS vtL vmode vbudget vformed vce vcorr vdec vhs vhl vhm vhf vtx)) (ws' := ((wT cI cJ cO a f vtS vtL vtM vtF vlc vlv vmode vbudget vformed vce vcorr vdec vqn vE vtl vpn vpl vpv vsn vsl vsv vkn vbi vhs vhl vhm vhf vrep vtn vtx vlen vqd vse vqu vog var vlt) ++ ((wM cI cJ cZ b vtn2 vst vmi vmos vhash vm vsa vw vsw viS vtx2 vfar vq2 vp2 vb2 vs2 vpa vrow vmo2 vso) ++ (X0 ++ X1)))) C0 w (c_TL_guess e1) [0, 1, 2, 3, 7, 17, 18, 19, 22] rfl rfl rfl rfl lm_RL_87 mv_TL_guess ⟨rfl, rfl⟩ ⟨by decide, by decide⟩ hcs0 (q0 := 0) rfl rfl rfl rfl hl rfl (Nat.le_of_ble_eq_true rfl) dL_law_638 (fun H locs w => ?_)
  refine lv_aload_n hx hb dL_law_641 rfl (lv_at hl 2 rfl) ?_
  refine r_VIs (r := r) (As := []) (rest := [.int r]) (wc := (ws_Mo_guess cI cJ cZ (b 0) (b 1) (b 2) (b 3) (b 4) (b 5) (b 6) (b 7) (b 8) (b 9) (b 10) (b 11) (b 12) (b 13) (b 14) (b 15) vtn2 vst vmi vmos vhash vm vtx2)) (wc' := (ws_Mo_guess cI cJ cZ (b 0) (b 1) (b 2) (b 3) (b 4) (b 5) (b 6) (b 7) (b 8) (b 9) (b 10) (b 11) (b 12) (b 13) (b 14) (b 15) vtn2 vst vmi vmos vhash vm vtx2)) (ws' := ((wT cI cJ cO a f vtS vtL vtM vtF vlc vlv vmode vbudget vformed vce vcorr vdec vqn vE vtl vpn vpl vpv vsn vsl vsv vkn vbi vhs vhl vhm vhf vrep vtn vtx vlen vqd vse vqu vog var vlt) ++ ((wM cI cJ cZ b vtn2 vst vmi vmos vhash vm vsa vw vsw viS vtx2 vfar vq2 vp2 vb2 vs2 vpa vrow vmo2 vso) ++ (X0 ++ X1)))) C0 w (c_Mo_guess e2) [29, 30, 35] rfl rfl rfl rfl lm_RL_90 mv_Mo_guess ⟨rfl, rfl⟩ ⟨by decide, by decide⟩ hcs0 (q0 := 29) rfl rfl rfl rfl hl rfl (Nat.le_of_ble_eq_true rfl) dL_law_642 (fun H locs w => ?_)
  refine lv_icmp_eq (tgt := 779) hx hb dL_law_645 (by decide) (fun hc => ?_) (fun hc => absurd rfl hc)
  refine W.widen (k := cells + 20) (n := slots + 948) (Nat.le_add_right _ _) (Nat.le_add_right _ _) ?_
  exact hnext _ _ _ _ ⟨f, vtS, vtL, vtM, vtF, vlc, vlv, vmode, vbudget, vformed, vce, vcorr, vdec, vqn, vE, vtl, vpn, vpl, vpv, vsn, vsl, vsv, vkn, vbi, vhs, vhl, vhm, vhf, vrep, vtn, vtx, vlen, vqd, vse, vqu, vog, var, vlt, vtn2, vst, vmi, vmos, vhash, vm, vsa, vw, vsw, viS, vtx2, vfar, vq2, vp2, vb2, vs2, vpa, vrow, vmo2, vso, X0, X1, rfl, hRW, hRX, hS0, hS1⟩ w hl
set_option maxRecDepth 100000 in
theorem law_18 {p : Program} {l : Launch} {e : Env} {s : State} {m : MethodId} {args : Array Value} {below : List Frame} {meth : Method} {c : Code} {H : Heap} {locs : List Loc} {cells slots : Nat} {Q : State → Prop} {A : Nat → Prop} {D : va_G} {cI cJ cZ cO : ClassId} {a b : Nat → Nat} {sb L i : Nat} {xs : Nat → Int32} {ls : Array Slot} {ws : va_W} (G : LG p s m args c A D cI cJ cZ cO sb L xs) (hi : i + 4 ≤ L) (hL : L ≤ 2048) (hcs : cells + 20 ≤ room_1.cells ∧ slots + 948 ≤ room_1.slots) (hnext : LN p l e s m args below meth c cells slots Q A D cI cJ cZ cO a b sb i) (hOK : LawOK cI cJ cZ cO a b ws) (w : Wd s A D ws H locs) (hl : lv_has ls 4 [(0, .ref sb), (1, .ref (a 0)), (2, .ref (b 0)), (3, .int (nI i))]) : W p l e room_1 s m args below meth c H locs cells slots Q (F0 m 650 ls []) := by
  obtain ⟨C0, hz, hX, hbl, hbA⟩ := id G
  obtain ⟨hx, hb, hml, hown, hts, hA, hK⟩ := id C0
  obtain ⟨f, vtS, vtL, vtM, vtF, vlc, vlv, vmode, vbudget, vformed, vce, vcorr, vdec, vqn, vE, vtl, vpn, vpl, vpv, vsn, vsl, vsv, vkn, vbi, vhs, vhl, vhm, vhf, vrep, vtn, vtx, vlen, vqd, vse, vqu, vog, var, vlt, vtn2, vst, vmi, vmos, vhash, vm, vsa, vw, vsw, viS, vtx2, vfar, vq2, vp2, vb2, vs2, vpa, vrow, vmo2, vso, X0, X1, hws, hRW, hRX, hS0, hS1⟩ := hOK
  subst hws
  have hcs0 : cells ≤ room_1.cells ∧ slots ≤ room_1.slots := ⟨Nat.le_trans (Nat.le_add_right _ _) hcs.1, Nat.le_trans (Nat.le_add_right _ _) hcs.2⟩
  obtain ⟨r, vse', vqu', vog', var', vlt', vlen', vqd', vq2', vp2', vb2', vs2', vpa', vst', e1, e2⟩ := s_difference hRW (xs (i + 1)) vlen vqd vse vqu vog var vlt vq2 vp2 vb2 vs2 vpa vst
  refine lv_aload_n hx hb dL_law_650 rfl (lv_at hl 1 rfl) ?_
  refine lv_aload_n hx hb dL_law_651 rfl (lv_at hl 0 rfl) ?_
  refine lv_iload_n hx hb dL_law_652 rfl (lv_at hl 3 rfl) ?_
  refine lv_iconst (v := (1 : Int32)) hx hb dL_law_653 (by decide) ?_
  refine lv_iadd hx hb dL_law_654 ?_
  refine r_sld (i := i) G w 1 (by omega) hL dL_law_655 ?_
  refine r_VIs (r := r) (As := [.int (xs (i + 1))]) (rest := []) (wc := (ws_TL_difference cI cJ cZ (a 0) (a 1) (a 21) (a 22) (a 23) (a 2) (a 7) (a 3) (a 6) (a 4) (a 5) (a 8) (a 10) (a 17) (a 20) (a 18) (a 19) (a 24) (a 25) (a 26) (a 27) (a 28) vtn vlc vtS vtL vtM vtF vmode vbudget vformed vce vcorr vdec vhs vhl vhm vhf vlen vqd vse vqu vog var vlt)) (wc' := (ws_TL_difference cI cJ cZ (a 0) (a 1) (a 21) (a 22) (a 23) (a 2) (a 7) (a 3) (a 6) (a 4) (a 5) (a 8) (a 10) (a 17) (a 20) (a 18) (a 19) (a 24) (a 25) (a 26) (a 27) (a 28) vtn vlc vtS vtL vtM vtF vmode vbudget vformed vce vcorr vdec vhs vhl vhm vhf vlen' vqd' vse' vqu' vog' var' vlt')) (ws' := ((wT cI cJ cO a f vtS vtL vtM vtF vlc vlv vmode vbudget vformed vce vcorr vdec vqn vE vtl vpn vpl vpv vsn vsl vsv vkn vbi vhs vhl vhm vhf vrep vtn vtx vlen' vqd' vse' vqu' vog' var' vlt') ++ ((wM cI cJ cZ b vtn2 vst vmi vmos vhash vm vsa vw vsw viS vtx2 vfar vq2 vp2 vb2 vs2 vpa vrow vmo2 vso) ++ (X0 ++ X1)))) C0 w (c_TL_difference e1) [0, 1, 2, 3, 4, 5, 7, 17, 18, 19, 23, 24, 25, 26, 27, 28] rfl rfl rfl rfl lm_RL_91 mv_TL_difference ⟨rfl, rfl⟩ ⟨by decide, by decide⟩ hcs0 (q0 := 0) rfl rfl rfl rfl hl rfl (Nat.le_of_ble_eq_true rfl) dL_law_656 (fun H locs w => ?_)
  refine lv_aload_n hx hb dL_law_659 rfl (lv_at hl 2 rfl) ?_
  refine lv_aload_n hx hb dL_law_660 rfl (lv_at hl 0 rfl) ?_
  refine lv_iload_n hx hb dL_law_661 rfl (lv_at hl 3 rfl) ?_
  refine lv_iconst (v := (1 : Int32)) hx hb dL_law_662 (by decide) ?_
  refine lv_iadd hx hb dL_law_663 ?_
  refine r_sld (i := i) G w 1 (by omega) hL dL_law_664 ?_
  refine r_VIs (r := r) (As := [.int (xs (i + 1))]) (rest := [.int r]) (wc := (ws_Mo_difference cI cJ cZ (b 0) (b 1) (b 2) (b 3) (b 4) (b 5) (b 6) (b 7) (b 8) (b 9) (b 10) (b 11) (b 12) (b 13) (b 14) (b 15) vtn2 vst vmi vmos vhash vm vq2 vp2 vb2 vs2 vpa)) (wc' := (ws_Mo_difference cI cJ cZ (b 0) (b 1) (b 2) (b 3) (b 4) (b 5) (b 6) (b 7) (b 8) (b 9) (b 10) (b 11) (b 12) (b 13) (b 14) (b 15) vtn2 vst' vmi vmos vhash vm vq2' vp2' vb2' vs2' vpa')) (ws' := ((wT cI cJ cO a f vtS vtL vtM vtF vlc vlv vmode vbudget vformed vce vcorr vdec vqn vE vtl vpn vpl vpv vsn vsl vsv vkn vbi vhs vhl vhm vhf vrep vtn vtx vlen' vqd' vse' vqu' vog' var' vlt') ++ ((wM cI cJ cZ b vtn2 vst' vmi vmos vhash vm vsa vw vsw viS vtx2 vfar vq2' vp2' vb2' vs2' vpa' vrow vmo2 vso) ++ (X0 ++ X1)))) C0 w (c_Mo_difference e2) [29, 30, 37, 38, 39, 40, 41] rfl rfl rfl rfl lm_RL_94 mv_Mo_difference ⟨rfl, rfl⟩ ⟨by decide, by decide⟩ hcs0 (q0 := 29) rfl rfl rfl rfl hl rfl (Nat.le_of_ble_eq_true rfl) dL_law_665 (fun H locs w => ?_)
  refine lv_icmp_eq (tgt := 779) hx hb dL_law_668 (by decide) (fun hc => ?_) (fun hc => absurd rfl hc)
  refine W.widen (k := cells + 20) (n := slots + 948) (Nat.le_add_right _ _) (Nat.le_add_right _ _) ?_
  exact hnext _ _ _ _ ⟨f, vtS, vtL, vtM, vtF, vlc, vlv, vmode, vbudget, vformed, vce, vcorr, vdec, vqn, vE, vtl, vpn, vpl, vpv, vsn, vsl, vsv, vkn, vbi, vhs, vhl, vhm, vhf, vrep, vtn, vtx, vlen', vqd', vse', vqu', vog', var', vlt', vtn2, vst', vmi, vmos, vhash, vm, vsa, vw, vsw, viS, vtx2, vfar, vq2', vp2', vb2', vs2', vpa', vrow, vmo2, vso, X0, X1, rfl, hRW, hRX, hS0, hS1⟩ w hl
set_option maxRecDepth 100000 in
theorem law_19 {p : Program} {l : Launch} {e : Env} {s : State} {m : MethodId} {args : Array Value} {below : List Frame} {meth : Method} {c : Code} {H : Heap} {locs : List Loc} {cells slots : Nat} {Q : State → Prop} {A : Nat → Prop} {D : va_G} {cI cJ cZ cO : ClassId} {a b : Nat → Nat} {sb L i : Nat} {xs : Nat → Int32} {ls : Array Slot} {ws : va_W} (G : LG p s m args c A D cI cJ cZ cO sb L xs) (hi : i + 4 ≤ L) (hL : L ≤ 2048) (hcs : cells + 20 ≤ room_1.cells ∧ slots + 948 ≤ room_1.slots) (hnext : LN p l e s m args below meth c cells slots Q A D cI cJ cZ cO a b sb i) (hOK : LawOK cI cJ cZ cO a b ws) (w : Wd s A D ws H locs) (hl : lv_has ls 4 [(0, .ref sb), (1, .ref (a 0)), (2, .ref (b 0)), (3, .int (nI i))]) : W p l e room_1 s m args below meth c H locs cells slots Q (F0 m 673 ls []) := by
  obtain ⟨C0, hz, hX, hbl, hbA⟩ := id G
  obtain ⟨hx, hb, hml, hown, hts, hA, hK⟩ := id C0
  obtain ⟨f, vtS, vtL, vtM, vtF, vlc, vlv, vmode, vbudget, vformed, vce, vcorr, vdec, vqn, vE, vtl, vpn, vpl, vpv, vsn, vsl, vsv, vkn, vbi, vhs, vhl, vhm, vhf, vrep, vtn, vtx, vlen, vqd, vse, vqu, vog, var, vlt, vtn2, vst, vmi, vmos, vhash, vm, vsa, vw, vsw, viS, vtx2, vfar, vq2, vp2, vb2, vs2, vpa, vrow, vmo2, vso, X0, X1, hws, hRW, hRX, hS0, hS1⟩ := hOK
  subst hws
  have hcs0 : cells ≤ room_1.cells ∧ slots ≤ room_1.slots := ⟨Nat.le_trans (Nat.le_add_right _ _) hcs.1, Nat.le_trans (Nat.le_add_right _ _) hcs.2⟩
  obtain ⟨r, e1, e2⟩ := s_counterexample hRW (xs (i + 1))
  refine lv_aload_n hx hb dL_law_673 rfl (lv_at hl 1 rfl) ?_
  refine lv_aload_n hx hb dL_law_674 rfl (lv_at hl 0 rfl) ?_
  refine lv_iload_n hx hb dL_law_675 rfl (lv_at hl 3 rfl) ?_
  refine lv_iconst (v := (1 : Int32)) hx hb dL_law_676 (by decide) ?_
  refine lv_iadd hx hb dL_law_677 ?_
  refine r_sld (i := i) G w 1 (by omega) hL dL_law_678 ?_
  refine r_VIs (r := r) (As := [.int (xs (i + 1))]) (rest := []) (wc := (ws_TL_counterexample cI cJ cZ (a 0) (a 1) (a 21) (a 22) (a 23) (a 2) (a 7) (a 8) (a 10) (a 17) (a 20) vtn vmode vbudget vformed vce vcorr vdec)) (wc' := (ws_TL_counterexample cI cJ cZ (a 0) (a 1) (a 21) (a 22) (a 23) (a 2) (a 7) (a 8) (a 10) (a 17) (a 20) vtn vmode vbudget vformed vce vcorr vdec)) (ws' := ((wT cI cJ cO a f vtS vtL vtM vtF vlc vlv vmode vbudget vformed vce vcorr vdec vqn vE vtl vpn vpl vpv vsn vsl vsv vkn vbi vhs vhl vhm vhf vrep vtn vtx vlen vqd vse vqu vog var vlt) ++ ((wM cI cJ cZ b vtn2 vst vmi vmos vhash vm vsa vw vsw viS vtx2 vfar vq2 vp2 vb2 vs2 vpa vrow vmo2 vso) ++ (X0 ++ X1)))) C0 w (c_TL_counterexample e1) [0, 1, 7] rfl rfl rfl rfl lm_RL_95 mv_TL_counterexample ⟨rfl, rfl⟩ ⟨by decide, by decide⟩ hcs0 (q0 := 0) rfl rfl rfl rfl hl rfl (Nat.le_of_ble_eq_true rfl) dL_law_679 (fun H locs w => ?_)
  refine lv_aload_n hx hb dL_law_682 rfl (lv_at hl 2 rfl) ?_
  refine lv_aload_n hx hb dL_law_683 rfl (lv_at hl 0 rfl) ?_
  refine lv_iload_n hx hb dL_law_684 rfl (lv_at hl 3 rfl) ?_
  refine lv_iconst (v := (1 : Int32)) hx hb dL_law_685 (by decide) ?_
  refine lv_iadd hx hb dL_law_686 ?_
  refine r_sld (i := i) G w 1 (by omega) hL dL_law_687 ?_
  refine r_VIs (r := r) (As := [.int (xs (i + 1))]) (rest := [.int r]) (wc := (ws_Mo_counterexample cI cJ cZ (b 0) (b 1) (b 2) (b 3) (b 4) (b 5) (b 6) (b 7) (b 8) (b 9) (b 10) (b 11) (b 12) (b 13) (b 14) (b 15) vtn2 vst vmi vmos vhash vm)) (wc' := (ws_Mo_counterexample cI cJ cZ (b 0) (b 1) (b 2) (b 3) (b 4) (b 5) (b 6) (b 7) (b 8) (b 9) (b 10) (b 11) (b 12) (b 13) (b 14) (b 15) vtn2 vst vmi vmos vhash vm)) (ws' := ((wT cI cJ cO a f vtS vtL vtM vtF vlc vlv vmode vbudget vformed vce vcorr vdec vqn vE vtl vpn vpl vpv vsn vsl vsv vkn vbi vhs vhl vhm vhf vrep vtn vtx vlen vqd vse vqu vog var vlt) ++ ((wM cI cJ cZ b vtn2 vst vmi vmos vhash vm vsa vw vsw viS vtx2 vfar vq2 vp2 vb2 vs2 vpa vrow vmo2 vso) ++ (X0 ++ X1)))) C0 w (c_Mo_counterexample e2) [29, 30] rfl rfl rfl rfl lm_RL_98 mv_Mo_counterexample ⟨rfl, rfl⟩ ⟨by decide, by decide⟩ hcs0 (q0 := 29) rfl rfl rfl rfl hl rfl (Nat.le_of_ble_eq_true rfl) dL_law_688 (fun H locs w => ?_)
  refine lv_icmp_eq (tgt := 779) hx hb dL_law_691 (by decide) (fun hc => ?_) (fun hc => absurd rfl hc)
  refine W.widen (k := cells + 20) (n := slots + 948) (Nat.le_add_right _ _) (Nat.le_add_right _ _) ?_
  exact hnext _ _ _ _ ⟨f, vtS, vtL, vtM, vtF, vlc, vlv, vmode, vbudget, vformed, vce, vcorr, vdec, vqn, vE, vtl, vpn, vpl, vpv, vsn, vsl, vsv, vkn, vbi, vhs, vhl, vhm, vhf, vrep, vtn, vtx, vlen, vqd, vse, vqu, vog, var, vlt, vtn2, vst, vmi, vmos, vhash, vm, vsa, vw, vsw, viS, vtx2, vfar, vq2, vp2, vb2, vs2, vpa, vrow, vmo2, vso, X0, X1, rfl, hRW, hRX, hS0, hS1⟩ w hl
set_option maxRecDepth 100000 in
theorem law_22 {p : Program} {l : Launch} {e : Env} {s : State} {m : MethodId} {args : Array Value} {below : List Frame} {meth : Method} {c : Code} {H : Heap} {locs : List Loc} {cells slots : Nat} {Q : State → Prop} {A : Nat → Prop} {D : va_G} {cI cJ cZ cO : ClassId} {a b : Nat → Nat} {sb L i : Nat} {xs : Nat → Int32} {ls : Array Slot} {ws : va_W} (G : LG p s m args c A D cI cJ cZ cO sb L xs) (hi : i + 4 ≤ L) (hL : L ≤ 2048) (hcs : cells + 20 ≤ room_1.cells ∧ slots + 948 ≤ room_1.slots) (hnext : LN p l e s m args below meth c cells slots Q A D cI cJ cZ cO a b sb i) (hOK : LawOK cI cJ cZ cO a b ws) (w : Wd s A D ws H locs) (hl : lv_has ls 4 [(0, .ref sb), (1, .ref (a 0)), (2, .ref (b 0)), (3, .int (nI i))]) : W p l e room_1 s m args below meth c H locs cells slots Q (F0 m 742 ls []) := by
  obtain ⟨C0, hz, hX, hbl, hbA⟩ := id G
  obtain ⟨hx, hb, hml, hown, hts, hA, hK⟩ := id C0
  obtain ⟨f, vtS, vtL, vtM, vtF, vlc, vlv, vmode, vbudget, vformed, vce, vcorr, vdec, vqn, vE, vtl, vpn, vpl, vpv, vsn, vsl, vsv, vkn, vbi, vhs, vhl, vhm, vhf, vrep, vtn, vtx, vlen, vqd, vse, vqu, vog, var, vlt, vtn2, vst, vmi, vmos, vhash, vm, vsa, vw, vsw, viS, vtx2, vfar, vq2, vp2, vb2, vs2, vpa, vrow, vmo2, vso, X0, X1, hws, hRW, hRX, hS0, hS1⟩ := hOK
  subst hws
  have hcs0 : cells ≤ room_1.cells ∧ slots ≤ room_1.slots := ⟨Nat.le_trans (Nat.le_add_right _ _) hcs.1, Nat.le_trans (Nat.le_add_right _ _) hcs.2⟩
  obtain ⟨r, e1, e2⟩ := s_count hRW hRX (xs (i + 1))
  refine lv_aload_n hx hb dL_law_742 rfl (lv_at hl 1 rfl) ?_
  refine lv_aload_n hx hb dL_law_743 rfl (lv_at hl 0 rfl) ?_
  refine lv_iload_n hx hb dL_law_744 rfl (lv_at hl 3 rfl) ?_
  refine lv_iconst (v := (1 : Int32)) hx hb dL_law_745 (by decide) ?_
  refine lv_iadd hx hb dL_law_746 ?_
  refine r_sld (i := i) G w 1 (by omega) hL dL_law_747 ?_
  refine r_VIs (r := r) (As := [.int (xs (i + 1))]) (rest := []) (wc := (ws_TL_count cI cJ cZ (a 0) (a 1) (a 21) (a 22) (a 23) (a 2) (a 7) (a 3) (a 6) (a 4) (a 5) (a 8) (a 10) (a 17) (a 20) (a 9) (a 11) (a 13) (a 15) (a 16) (a 12) (a 14) (a 18) (a 19) vtn vlc vtS vtL vtF vmode vbudget vformed vce vcorr vdec vqn vtl vpn vpl vsn vsl vhs vhl)) (wc' := (ws_TL_count cI cJ cZ (a 0) (a 1) (a 21) (a 22) (a 23) (a 2) (a 7) (a 3) (a 6) (a 4) (a 5) (a 8) (a 10) (a 17) (a 20) (a 9) (a 11) (a 13) (a 15) (a 16) (a 12) (a 14) (a 18) (a 19) vtn vlc vtS vtL vtF vmode vbudget vformed vce vcorr vdec vqn vtl vpn vpl vsn vsl vhs vhl)) (ws' := ((wT cI cJ cO a f vtS vtL vtM vtF vlc vlv vmode vbudget vformed vce vcorr vdec vqn vE vtl vpn vpl vpv vsn vsl vsv vkn vbi vhs vhl vhm vhf vrep vtn vtx vlen vqd vse vqu vog var vlt) ++ ((wM cI cJ cZ b vtn2 vst vmi vmos vhash vm vsa vw vsw viS vtx2 vfar vq2 vp2 vb2 vs2 vpa vrow vmo2 vso) ++ (X0 ++ X1)))) C0 w (c_TL_count e1) [0, 1, 2, 3, 5, 7, 8, 10, 11, 13, 17] rfl rfl rfl rfl lm_RL_107 mv_TL_count ⟨rfl, rfl⟩ ⟨by decide, by decide⟩ hcs0 (q0 := 0) rfl rfl rfl rfl hl rfl (Nat.le_of_ble_eq_true rfl) dL_law_748 (fun H locs w => ?_)
  refine lv_aload_n hx hb dL_law_751 rfl (lv_at hl 2 rfl) ?_
  refine lv_aload_n hx hb dL_law_752 rfl (lv_at hl 0 rfl) ?_
  refine lv_iload_n hx hb dL_law_753 rfl (lv_at hl 3 rfl) ?_
  refine lv_iconst (v := (1 : Int32)) hx hb dL_law_754 (by decide) ?_
  refine lv_iadd hx hb dL_law_755 ?_
  refine r_sld (i := i) G w 1 (by omega) hL dL_law_756 ?_
  refine r_VIs (r := r) (As := [.int (xs (i + 1))]) (rest := [.int r]) (wc := (ws_Mo_count cI cJ cZ (b 0) (b 1) (b 2) (b 3) (b 4) (b 5) (b 6) (b 7) (b 8) (b 9) (b 10) (b 11) (b 12) (b 13) (b 14) (b 15) vtn2 vst vmi vmos vhash vm)) (wc' := (ws_Mo_count cI cJ cZ (b 0) (b 1) (b 2) (b 3) (b 4) (b 5) (b 6) (b 7) (b 8) (b 9) (b 10) (b 11) (b 12) (b 13) (b 14) (b 15) vtn2 vst vmi vmos vhash vm)) (ws' := ((wT cI cJ cO a f vtS vtL vtM vtF vlc vlv vmode vbudget vformed vce vcorr vdec vqn vE vtl vpn vpl vpv vsn vsl vsv vkn vbi vhs vhl vhm vhf vrep vtn vtx vlen vqd vse vqu vog var vlt) ++ ((wM cI cJ cZ b vtn2 vst vmi vmos vhash vm vsa vw vsw viS vtx2 vfar vq2 vp2 vb2 vs2 vpa vrow vmo2 vso) ++ (X0 ++ X1)))) C0 w (c_Mo_count e2) [29, 30] rfl rfl rfl rfl lm_RL_110 mv_Mo_count ⟨rfl, rfl⟩ ⟨by decide, by decide⟩ hcs0 (q0 := 29) rfl rfl rfl rfl hl rfl (Nat.le_of_ble_eq_true rfl) dL_law_757 (fun H locs w => ?_)
  refine lv_icmp_eq (tgt := 779) hx hb dL_law_760 (by decide) (fun hc => ?_) (fun hc => absurd rfl hc)
  refine W.widen (k := cells + 20) (n := slots + 948) (Nat.le_add_right _ _) (Nat.le_add_right _ _) ?_
  exact hnext _ _ _ _ ⟨f, vtS, vtL, vtM, vtF, vlc, vlv, vmode, vbudget, vformed, vce, vcorr, vdec, vqn, vE, vtl, vpn, vpl, vpv, vsn, vsl, vsv, vkn, vbi, vhs, vhl, vhm, vhf, vrep, vtn, vtx, vlen, vqd, vse, vqu, vog, var, vlt, vtn2, vst, vmi, vmos, vhash, vm, vsa, vw, vsw, viS, vtx2, vfar, vq2, vp2, vb2, vs2, vpa, vrow, vmo2, vso, X0, X1, rfl, hRW, hRX, hS0, hS1⟩ w hl
set_option maxRecDepth 100000 in
theorem law_23 {p : Program} {l : Launch} {e : Env} {s : State} {m : MethodId} {args : Array Value} {below : List Frame} {meth : Method} {c : Code} {H : Heap} {locs : List Loc} {cells slots : Nat} {Q : State → Prop} {A : Nat → Prop} {D : va_G} {cI cJ cZ cO : ClassId} {a b : Nat → Nat} {sb L i : Nat} {xs : Nat → Int32} {ls : Array Slot} {ws : va_W} (G : LG p s m args c A D cI cJ cZ cO sb L xs) (hi : i + 4 ≤ L) (hL : L ≤ 2048) (hcs : cells + 20 ≤ room_1.cells ∧ slots + 948 ≤ room_1.slots) (hnext : LN p l e s m args below meth c cells slots Q A D cI cJ cZ cO a b sb i) (hOK : LawOK cI cJ cZ cO a b ws) (w : Wd s A D ws H locs) (hl : lv_has ls 4 [(0, .ref sb), (1, .ref (a 0)), (2, .ref (b 0)), (3, .int (nI i))]) : W p l e room_1 s m args below meth c H locs cells slots Q (F0 m 765 ls []) := by
  obtain ⟨C0, hz, hX, hbl, hbA⟩ := id G
  obtain ⟨hx, hb, hml, hown, hts, hA, hK⟩ := id C0
  obtain ⟨f, vtS, vtL, vtM, vtF, vlc, vlv, vmode, vbudget, vformed, vce, vcorr, vdec, vqn, vE, vtl, vpn, vpl, vpv, vsn, vsl, vsv, vkn, vbi, vhs, vhl, vhm, vhf, vrep, vtn, vtx, vlen, vqd, vse, vqu, vog, var, vlt, vtn2, vst, vmi, vmos, vhash, vm, vsa, vw, vsw, viS, vtx2, vfar, vq2, vp2, vb2, vs2, vpa, vrow, vmo2, vso, X0, X1, hws, hRW, hRX, hS0, hS1⟩ := hOK
  subst hws
  have hcs0 : cells ≤ room_1.cells ∧ slots ≤ room_1.slots := ⟨Nat.le_trans (Nat.le_add_right _ _) hcs.1, Nat.le_trans (Nat.le_add_right _ _) hcs.2⟩
  obtain ⟨r, vse', vqu', vog', var', vlt', vlen', vqd', vfar', vq2', vp2', vb2', vs2', vpa', vst', vhash', e1, e2⟩ := s_digest hRW hRX vlen vqd vse vqu vog var vlt vfar vq2 vp2 vb2 vs2 vpa vst
  refine lv_aload_n hx hb dL_law_765 rfl (lv_at hl 1 rfl) ?_
  refine r_VJs (r := r) (As := []) (rest := []) (wc := (ws_TL_digest cI cJ cZ (a 0) (a 1) (a 21) (a 22) (a 23) (a 2) (a 7) (a 3) (a 6) (a 4) (a 5) (a 8) (a 10) (a 17) (a 20) (a 9) (a 11) (a 13) (a 15) (a 16) (a 12) (a 14) (a 18) (a 19) (a 24) (a 25) (a 26) (a 27) (a 28) vtn vlc vtS vtL vtM vtF vmode vbudget vformed vce vcorr vdec vqn vE vtl vpn vpl vpv vsn vsl vsv vhs vhl vhm vhf vtx vlen vqd vse vqu vog var vlt)) (wc' := (ws_TL_digest cI cJ cZ (a 0) (a 1) (a 21) (a 22) (a 23) (a 2) (a 7) (a 3) (a 6) (a 4) (a 5) (a 8) (a 10) (a 17) (a 20) (a 9) (a 11) (a 13) (a 15) (a 16) (a 12) (a 14) (a 18) (a 19) (a 24) (a 25) (a 26) (a 27) (a 28) vtn vlc vtS vtL vtM vtF vmode vbudget vformed vce vcorr vdec vqn vE vtl vpn vpl vpv vsn vsl vsv vhs vhl vhm vhf vtx vlen' vqd' vse' vqu' vog' var' vlt')) (ws' := ((wT cI cJ cO a f vtS vtL vtM vtF vlc vlv vmode vbudget vformed vce vcorr vdec vqn vE vtl vpn vpl vpv vsn vsl vsv vkn vbi vhs vhl vhm vhf vrep vtn vtx vlen' vqd' vse' vqu' vog' var' vlt') ++ ((wM cI cJ cZ b vtn2 vst vmi vmos vhash vm vsa vw vsw viS vtx2 vfar vq2 vp2 vb2 vs2 vpa vrow vmo2 vso) ++ (X0 ++ X1)))) C0 w (c_TL_digest e1) [0, 1, 2, 3, 4, 5, 7, 8, 9, 10, 11, 12, 13, 14, 17, 18, 19, 22, 23, 24, 25, 26, 27, 28] rfl rfl rfl rfl lm_RL_111 mv_TL_digest ⟨rfl, rfl⟩ ⟨by decide, by decide⟩ hcs0 (q0 := 0) rfl rfl rfl rfl hl rfl (Nat.le_of_ble_eq_true rfl) dL_law_766 (fun H locs w => ?_)
  refine lv_aload_n hx hb dL_law_769 rfl (lv_at hl 2 rfl) ?_
  refine r_VJs (r := r) (As := []) (rest := [.long r]) (wc := (ws_Mo_digest cI cJ cZ (b 0) (b 1) (b 2) (b 3) (b 4) (b 5) (b 6) (b 7) (b 8) (b 9) (b 10) (b 11) (b 12) (b 13) (b 14) (b 15) vtn2 vst vmi vmos vhash vm vw vtx2 vfar vq2 vp2 vb2 vs2 vpa)) (wc' := (ws_Mo_digest cI cJ cZ (b 0) (b 1) (b 2) (b 3) (b 4) (b 5) (b 6) (b 7) (b 8) (b 9) (b 10) (b 11) (b 12) (b 13) (b 14) (b 15) vtn2 vst' vmi vmos vhash' vm vw vtx2 vfar' vq2' vp2' vb2' vs2' vpa')) (ws' := ((wT cI cJ cO a f vtS vtL vtM vtF vlc vlv vmode vbudget vformed vce vcorr vdec vqn vE vtl vpn vpl vpv vsn vsl vsv vkn vbi vhs vhl vhm vhf vrep vtn vtx vlen' vqd' vse' vqu' vog' var' vlt') ++ ((wM cI cJ cZ b vtn2 vst' vmi vmos vhash' vm vsa vw vsw viS vtx2 vfar' vq2' vp2' vb2' vs2' vpa' vrow vmo2 vso) ++ (X0 ++ X1)))) C0 w (c_Mo_digest e2) [29, 30, 32, 35, 36, 37, 38, 39, 40, 41] rfl rfl rfl rfl lm_RL_115 mv_Mo_digest ⟨rfl, rfl⟩ ⟨by decide, by decide⟩ hcs0 (q0 := 29) rfl rfl rfl rfl hl rfl (Nat.le_of_ble_eq_true rfl) dL_law_770 (fun H locs w => ?_)
  refine r_lc_eq (tgt := 779) hx hb dL_law_773 dL_law_774 (by decide) (fun hc => ?_) (fun hc => absurd rfl hc)
  refine W.widen (k := cells + 20) (n := slots + 948) (Nat.le_add_right _ _) (Nat.le_add_right _ _) ?_
  exact hnext _ _ _ _ ⟨f, vtS, vtL, vtM, vtF, vlc, vlv, vmode, vbudget, vformed, vce, vcorr, vdec, vqn, vE, vtl, vpn, vpl, vpv, vsn, vsl, vsv, vkn, vbi, vhs, vhl, vhm, vhf, vrep, vtn, vtx, vlen', vqd', vse', vqu', vog', var', vlt', vtn2, vst', vmi, vmos, vhash', vm, vsa, vw, vsw, viS, vtx2, vfar', vq2', vp2', vb2', vs2', vpa', vrow, vmo2, vso, X0, X1, rfl, hRW, hRX, hS0, hS1⟩ w hl

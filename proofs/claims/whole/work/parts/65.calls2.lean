/-! ===== setMove, setFinal: on both sides ===== -/
theorem ix3 (s a : Nat) : nI s * (3 : Int32) + nI a = nI (3 * s + a) := by
  rw [fl, pk_mul, nI_add, Nat.mul_comm]
theorem ix3o (b s a : Nat) : nI b + (3 : Int32) * nI s + nI a = nI (b + (3 * s + a)) := by
  rw [fl, pk_mul, nI_add, nI_add, Nat.add_assoc]
section
variable {tS tL : Int32} {tM tF : Nat → Int32} {lc : Int32} {lv : Nat → Int64} {mode budget formed : Int32} {ce : Int64} {corr dec qn : Int32} {E : Nat → Int64} {tl pn pl : Int32} {pv : Nat → Int64} {sn sl : Int32} {sv : Nat → Int64} {kn bi : Nat → Int32} {hs hl : Int32} {hm hf rep m : Nat → Int32} {w : Nat → Int64}
theorem s_setMove (h : RW tS tL tM tF lc lv mode budget formed ce corr dec qn E tl pn pl pv sn sl sv kn bi hs hl hm hf rep m w) (x1 x2 x3 : Int32) :
    ∃ r tM' qn' pv' pn' pl' sv' sn' sl' kn' bi' tl' hm' hf' hs' hl' fo' ce' co' de' m' w', f_TL_setMove x1 x2 x3 tS tL tM formed ce corr dec qn tl pn pl pv sn sl sv kn bi hs hl hm hf = some (r, tM', qn', pv', pn', pl', sv', sn', sl', kn', bi', tl', hm', hf', hs', hl', fo', ce', co', de') ∧ f_Mo_setMove x1 x2 x3 m w = some (r, m', w') ∧ RW tS tL tM' tF lc lv mode budget fo' ce' co' de' qn' E tl' pn' pl' pv' sn' sl' sv' kn' bi' hs' hl' hm' hf' rep m' w' := by
  have bad : ∀ (c : Option (Int32 × (Nat → Int32) × (Nat → Int64))), c = some (-2, m, w) → ∃ r tM' qn' pv' pn' pl' sv' sn' sl' kn' bi' tl' hm' hf' hs' hl' fo' ce' co' de' m' w', some ((-2 : Int32), tM, qn, pv, pn, pl, sv, sn, sl, kn, bi, tl, hm, hf, hs, hl, formed, ce, corr, dec) = some (r, tM', qn', pv', pn', pl', sv', sn', sl', kn', bi', tl', hm', hf', hs', hl', fo', ce', co', de') ∧ c = some (r, m', w') ∧ RW tS tL tM' tF lc lv mode budget fo' ce' co' de' qn' E tl' pn' pl' pv' sn' sl' sv' kn' bi' hs' hl' hm' hf' rep m' w' := fun c hc => ⟨_, _, _, _, _, _, _, _, _, _, _, _, _, _, _, _, _, _, _, _, _, _, rfl, hc, h⟩
  obtain ⟨sz, le, b, n, mo, szh, al, L, tm, tf, ml, mf, re, P, S, hR⟩ := id h
  have hT := RA_RT hR
  obtain ⟨a1, a2, a3, a4, a5, a6, ⟨b1, b2, b3, b4, b5, b6, b7⟩, a8, a9, a10, a11, a12⟩ := hR
  obtain ⟨t1, t2, t3, rfl, rfl, t6, t7, t8, t9, t10, t11, t12, ⟨L2, t13, t14, t15, t16, t17, t18⟩, t19, t20, t21, t22, t23, t24⟩ := hT
  have hpos := t23.1
  rw [f_TL_setMove, f_Mo_setMove]
  rcases hs_cases hpos (by omega) t6 x1 with ⟨s, z1, rfl, e1, e2⟩ | ⟨e1, e2⟩
  rotate_left
  · rw [e1, e2, bd1_s, bd1_s, if_pos rfl]; exact bad _ (if_pos rfl)
  rw [e1, e2, bd1_s, bd1_s, if_neg (show ¬ (1 : Int32) = 0 by decide), if_neg (show ¬ (1 : Int32) = 0 by decide)]
  rcases hl_cases t1 (by omega) t7 x2 with ⟨a, z2, rfl, e3, e4⟩ | ⟨e3, e4⟩
  rotate_left
  · rw [e3, e4, bd1_s, bd1_s, if_pos rfl]; exact bad _ (if_pos rfl)
  rw [e3, e4, bd1_s, bd1_s, if_neg (show ¬ (1 : Int32) = 0 by decide), if_neg (show ¬ (1 : Int32) = 0 by decide)]
  rcases hs_cases hpos (by omega) t6 x3 with ⟨t, z3, rfl, e5, e6⟩ | ⟨e5, e6⟩
  rotate_left
  · rw [e5, e6, bd1_s, bd1_s, if_pos rfl]; exact bad _ (if_pos rfl)
  rw [e5, e6, bd1_s, bd1_s, if_neg (show ¬ (1 : Int32) = 0 by decide), if_neg (show ¬ (1 : Int32) = 0 by decide)]
  rw [f_Au_next, f_Au_lead, ix3, gIn_nI (by omega) (by omega), gIn_nI (by omega) (by omega), nI_clamp (by omega), bd1_s]
  simp only [bnd_eq]
  rw [bd1_s, show (2 : Int32) = nI 2 from rfl, ix3o, gIn_nI (by omega) (by omega), gIn_nI (by omega) (by omega), nI_clamp (by omega)]
  obtain ⟨qn', pv', pn', pl', sv', sn', sl', kn', bi', tl', hm', hf', hs', hl', fo', ce', co', de', m', w', k1, k2, k3, k4⟩ := s_new (sz := sz) (le := le) (b := b) (mo := mo) (L := L) (tm := fun k => if k = 3 * s + a then t else tm k) (tf := tf) (tS := nI sz) (tL := nI le) (tM := upd tM (3 * s + a) (nI t)) (tF := tF) (lc := lc) (lv := lv) (mode := mode) (budget := budget) (w := w) (m := upd m (2 + (3 * s + a)) (nI t)) ⟨t1, t2, t3, rfl, rfl, by rw [pk_un (by omega), t6], by rw [pk_un (by omega), t7], t8, t9, t10, t11, t12, ⟨L2, t13, t14, t15, t16, by rw [pk_un (by omega), t17], t18⟩, (fun k hk => by
      by_cases e : k = 3 * s + a
      · subst e; rw [pk_us]; exact congrArg nI (if_pos rfl).symm
      · rw [pk_un e, t19 k hk]; exact congrArg nI (if_neg e).symm), t20, (fun k hk => by
      by_cases e : k = 3 * s + a
      · subst e; rw [pk_us]; exact congrArg nI (if_pos rfl).symm
      · rw [pk_un (by omega), t21 k hk]; exact congrArg nI (if_neg e).symm), (fun k hk => by rw [pk_un (by omega), t22 k hk]), ⟨hpos, fun s' a' hs' ha' => by
      show (if 3 * s' + a' = 3 * s + a then t else tm (3 * s' + a')) < sz
      by_cases e : 3 * s' + a' = 3 * s + a
      · rw [if_pos e]; exact z3
      · rw [if_neg e]; exact t23.2 s' a' hs' ha'⟩, t24⟩ a8 (by rw [pk_un (by omega), a9]) a10 a11 (by rw [pk_un (by omega), b4]) b6 E pv sv kn bi hm hf rep
  rw [k1, bd18_s, k2, bd2_s, t19 (3 * s + a) (by omega), t21 (3 * s + a) (by omega)]
  exact ⟨_, _, _, _, _, _, _, _, _, _, _, _, _, _, _, _, _, _, _, _, _, _, rfl, rfl, k4⟩
theorem s_setFinal (h : RW tS tL tM tF lc lv mode budget formed ce corr dec qn E tl pn pl pv sn sl sv kn bi hs hl hm hf rep m w) (x1 x2 : Int32) :
    ∃ r tF' qn' pv' pn' pl' sv' sn' sl' kn' bi' tl' hm' hf' hs' hl' fo' ce' co' de' m' w', f_TL_setFinal x1 x2 tS tL tF formed ce corr dec qn tl pn pl pv sn sl sv kn bi hs hl hm hf = some (r, tF', qn', pv', pn', pl', sv', sn', sl', kn', bi', tl', hm', hf', hs', hl', fo', ce', co', de') ∧ f_Mo_setFinal x1 x2 m w = some (r, m', w') ∧ RW tS tL tM tF' lc lv mode budget fo' ce' co' de' qn' E tl' pn' pl' pv' sn' sl' sv' kn' bi' hs' hl' hm' hf' rep m' w' := by
  have bad : ∀ (r : Int32) (c : Option (Int32 × (Nat → Int32) × (Nat → Int64))), c = some (r, m, w) → ∃ r' tF' qn' pv' pn' pl' sv' sn' sl' kn' bi' tl' hm' hf' hs' hl' fo' ce' co' de' m' w', some (r, tF, qn, pv, pn, pl, sv, sn, sl, kn, bi, tl, hm, hf, hs, hl, formed, ce, corr, dec) = some (r', tF', qn', pv', pn', pl', sv', sn', sl', kn', bi', tl', hm', hf', hs', hl', fo', ce', co', de') ∧ c = some (r', m', w') ∧ RW tS tL tM tF' lc lv mode budget fo' ce' co' de' qn' E tl' pn' pl' pv' sn' sl' sv' kn' bi' hs' hl' hm' hf' rep m' w' := fun r c hc => ⟨_, _, _, _, _, _, _, _, _, _, _, _, _, _, _, _, _, _, _, _, _, _, rfl, hc, h⟩
  obtain ⟨sz, le, b, n, mo, szh, al, L, tm, tf, ml, mf, re, P, S, hR⟩ := id h
  have hT := RA_RT hR
  obtain ⟨a1, a2, a3, a4, a5, a6, ⟨b1, b2, b3, b4, b5, b6, b7⟩, a8, a9, a10, a11, a12⟩ := hR
  obtain ⟨t1, t2, t3, rfl, rfl, t6, t7, t8, t9, t10, t11, t12, ⟨L2, t13, t14, t15, t16, t17, t18⟩, t19, t20, t21, t22, t23, t24⟩ := hT
  have hpos := t23.1
  rw [f_TL_setFinal, f_Mo_setFinal]
  rcases hs_cases hpos (by omega) t6 x1 with ⟨s, z1, rfl, e1, e2⟩ | ⟨e1, e2⟩
  rotate_left
  · rw [e1, e2, bd1_s, bd1_s, if_pos rfl]; exact bad _ _ (if_pos rfl)
  rw [e1, e2, bd1_s, bd1_s, if_neg (show ¬ (1 : Int32) = 0 by decide), if_neg (show ¬ (1 : Int32) = 0 by decide)]
  obtain ⟨t, z2, z3⟩ : ∃ t, t ≤ 1 ∧ (if x2 = 0 then (0 : Int32) else 1) = nI t := by
    by_cases q : x2 = 0
    · exact ⟨0, by decide, if_pos q⟩
    · exact ⟨1, by decide, if_neg q⟩
  rw [z3]
  simp only [bnd_eq]
  rw [show (26 : Int32) = nI 26 from rfl, nI_add, gIn_nI (show s < 8 by omega) (by omega), gIn_nI (show 26 + s < 561 by omega) (by omega), nI_clamp (by omega), nI_clamp (by omega), t20 s (by omega), t22 s (by omega)]
  by_cases hq : nI (tf s) = nI t
  · rw [if_pos hq]; exact bad _ _ (if_pos hq)
  rw [if_neg hq, if_neg hq, gIn_nI (show s < 8 by omega) (by omega), gIn_nI (show 26 + s < 561 by omega) (by omega)]
  have hF' : rI 8 (fun k => if k = s then t else tf k) (upd tF s (nI t)) := fun k hk => by
    by_cases e : k = s
    · subst e; rw [pk_us]; exact congrArg nI (if_pos rfl).symm
    · rw [pk_un e, t20 k hk]; exact congrArg nI (if_neg e).symm
  have hG' : rIo 26 8 (fun k => if k = s then t else tf k) (upd m (26 + s) (nI t)) := fun k hk => by
    by_cases e : k = s
    · subst e; rw [pk_us]; exact congrArg nI (if_pos rfl).symm
    · rw [pk_un (by omega), t22 k hk]; exact congrArg nI (if_neg e).symm
  obtain ⟨qn', pv', pn', pl', sv', sn', sl', kn', bi', tl', hm', hf', hs', hl', fo', ce', co', de', m', w', k1, k2, k3, k4⟩ := s_new (sz := sz) (le := le) (b := b) (mo := mo) (L := L) (tm := tm) (tf := fun k => if k = s then t else tf k) (tS := nI sz) (tL := nI le) (tM := tM) (tF := upd tF s (nI t)) (lc := lc) (lv := lv) (mode := mode) (budget := budget) (w := w) (m := upd m (26 + s) (nI t)) ⟨t1, t2, t3, rfl, rfl, by rw [pk_un (by omega), t6], by rw [pk_un (by omega), t7], t8, t9, t10, t11, t12, ⟨L2, t13, t14, t15, t16, by rw [pk_un (by omega), t17], t18⟩, t19, hF', (fun k hk => by rw [pk_un (by omega), t21 k hk]), hG', t23, (fun k hk => by
      show (if k = s then t else tf k) ≤ 1
      by_cases e : k = s
      · rw [if_pos e]; exact z2
      · rw [if_neg e]; exact t24 k hk)⟩ a8 (by rw [pk_un (by omega), a9]) a10 a11 (by rw [pk_un (by omega), b4]) b6 E pv sv kn bi hm hf rep
  have hG'' : rIo 26 8 (fun k => if k = s then t else tf k) m' := fun k hk => by rw [k3 _ (by omega)]; exact hG' k hk
  rw [k1, bd18_s, k2, bd2_s, s_Au_countFinals (f := fun k => if k = s then t else tf k) (M := 8) (by omega) (by omega) hF', bd1_s, s_Mo_finals (sz := sz) (f := fun k => if k = s then t else tf k) t3 (by rw [k3 0 (by omega), pk_un (by omega), t6]) hG'', bd1_s]
  exact ⟨_, _, _, _, _, _, _, _, _, _, _, _, _, _, _, _, _, _, _, _, _, _, rfl, rfl, k4⟩
end

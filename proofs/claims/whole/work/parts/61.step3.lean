/-! ===== a step, on both sides ===== -/
theorem FLr_rows {al : Wrd → Option Nat} {P S : List Wrd} {le : Nat} {row : Nat → Int32} (h : rowsM al P S le (P.length * (1 + le)) row) : ∀ r, r < P.length * (1 + le) → row r = nI (Rw al S (twf P le r)) := fun r hr => (h r hr).2
set_option maxHeartbeats 1000000 in
theorem s_step {tS tL : Int32} {tM tF : Nat → Int32} {lc : Int32} {lv : Nat → Int64} {mode budget formed : Int32} {ce : Int64} {corr dec qn : Int32} {E : Nat → Int64} {tl pn pl : Int32} {pv : Nat → Int64} {sn sl : Int32} {sv : Nat → Int64} {kn bi : Nat → Int32} {hs hl : Int32} {hm hf rep m : Nat → Int32} {w : Nat → Int64}
    (h : RW tS tL tM tF lc lv mode budget formed ce corr dec qn E tl pn pl pv sn sl sv kn bi hs hl hm hf rep m w)
    (len qd : Int32) (se qu og ar lt q2 p2 b2 s2 pa row so : Nat → Int32) (st mos : Int32) (mi : Int64) (mo2 : Nat → Int64) :
    SO tS tL tM tF lc lv mode budget tl (f_Le_doStep mode budget formed ce corr dec qn E tl pn pl pv sn sl sv kn bi hs hl hm hf rep lc tL tM tF lv len qd se qu og ar lt) (f_Mo_step st mi mos m w q2 p2 b2 s2 pa row mo2 so) := by
  have hW := h
  obtain ⟨sz, le, b, n, mo, szh, al, L, tm, tf, ml, mf, re, P, S, h⟩ := h
  have h' := h
  obtain ⟨a1, rfl, rfl, a4, rfl, a6, hA, rfl, a9, a10, rfl, rfl, rfl, a14, a15, rfl, rfl, a18, rfl, rfl, rfl, a22, rfl, rfl, a25, hT, hM, hC, hH⟩ := h'
  obtain ⟨hal, hX, hQ, q4, q5, q6, q7, q8, q9, q10, q12, q13, q14, q15, q16, q17, q18, h3⟩ := id hA
  rw [f_Le_doStep, f_Mo_step]
  by_cases c43 : m 43 = 1
  · rw [if_neg (show ¬ m 43 = 0 by rw [c43]; decide), if_pos c43]
    exact ⟨_, _, _, _, _, _, _, _, _, _, _, _, _, _, _, _, _, _, _, _, _, _, _, _, _, _, _, _, _, _, _, _, _, _, _, _, _, _, _, _, rfl, rfl, hW⟩
  have c43' : m 43 = 0 := a18.resolve_right c43
  obtain ⟨kn', bi', g1, g2, g3⟩ := s_Ta_firstGap hT hal hX (by omega) a1 h3 a22 a25 hC
  obtain ⟨row', mi', e1, e2, e3⟩ := s_Mo_fills hT hal hM hQ (by omega) a1 h3 mi row
  rw [if_pos c43', if_neg c43, g1, bd3_s, e1, bd3_s]
  cases hg : gap al P S le with
  | some u =>
    obtain ⟨hu, hu16⟩ := gap_ok hT a1 hg
    have hsm := eX_small (wle_ok hu h3) (by omega)
    rw [if_neg (wvX_some u (by omega)), if_pos (show (if (some u : Option Wrd).isNone = true then (1 : Int32) else 0) = 0 from rfl), e3 u hg, show wvX (some u) = lN (eX u) from rfl]
    obtain ⟨r, al', n', E', m', w', k1, k2, k3, k4, k5, k6⟩ := ask3 hA hu hu16
    rw [k1, bd3_s, k2, bd3_s]
    simp only [bnd_eq]
    have f := k5.1
    refine ⟨_, _, _, _, _, _, _, _, _, _, _, _, _, _, _, _, _, _, _, _, _, _, _, _, _, _, _, _, _, _, _, _, _, _, _, _, _, _, _, _, rfl, rfl, RW_mk (X := []) h (fun x hx => f x (by omega) (by omega)) k3 hT (frA_tab k5 hM) (List.append_nil _).symm a22 a25 ?_ (f 41 (by decide) (by omega)).symm (by rw [f 41 (by decide) (by omega)]; exact a14) (RC_fr a15 (fun x hx => f x (by omega) (by omega))) (f 42 (by decide) (by omega)).symm (f 43 (by decide) (by omega)).symm (by rw [f 43 (by decide) (by omega)]; exact a18)⟩
    have := cch_grow (X := []) (Y := []) g2 k4 (by rw [List.append_nil]; exact hT.2.2.2.1) h3
    rwa [List.append_nil, List.append_nil] at this
  | none =>
    have hF := g3 hg
    have hb := FLr_bits hF
    have hr := FLr_rows (e2 hg)
    rw [show wvX (none : Option Wrd) = (-1 : Int64) from rfl, if_pos rfl, if_neg (show ¬ (if (none : Option Wrd).isNone = true then (1 : Int32) else 0) = 0 by decide), s_Ta_firstOpen hT hal h3 a22 hb, bd1_s, s_Mo_open hT hal h3 hM.1 hM.2.1 hr, bd1_s]
    cases ho : opn al P S le with
    | some i =>
      have hi := (fst_spec ho).2.1
      have hlen : P.length + i < P.length * (1 + le) := by rw [Nat.mul_add, Nat.mul_one]; omega
      have hl160 : P.length * le ≤ 40 * 3 := Nat.mul_le_mul hT.2.2.2.1 h3
      obtain ⟨hu, hfit⟩ := twf_ok hT a1 hlen
      have hS0 : ([] : Wrd) ∈ S := List.mem_of_getElem? hT.2.2.2.2.2.2
      have hu16 : (twf P le (P.length + i)).length ≤ 16 := by have := hfit [] hS0; rw [List.length_nil] at this; omega
      have hsm := eX_small (wle_ok hu h3) (by omega)
      have h40 := hT.2.2.2.1
      rw [Option.map_some, if_neg (wvX_some _ (by omega)), show wvX (some (twf P le (P.length + i))) = lN (eX (twf P le (P.length + i))) from rfl, Option.map_some, show ov (some (P.length + i)) = nI (P.length + i) from rfl, if_neg (show ¬ nI (P.length + i) = (-1 : Int32) by rw [fl, mI_r, nm_eq (by omega) (by omega) (by omega)]; exact id), s_Mo_wordOf hT hM a1 h3 hlen, bd1_s]
      obtain ⟨r, more', mores', k1, k2⟩ := s_add (c := 0) (more := mo2) hT hM h3 (by decide) hu hu16 a22 a25
      rw [show f_Mo_wants (lN (eM (twf P le (P.length + i)))) (0 : Int32) (0 : Int32) m w mo2 = _ from k1, bd2_s]
      rcases k2 with ⟨rfl, k3, k4⟩ | ⟨kr, k4, P', S', X, Y, pv', sv', m', w', hPX, hSY, k5, k6, k7, k8, k9, k10, k11, k12, k13⟩
      · rw [show f_Le_addWord (0 : Int32) (lN (eX (twf P le (P.length + i)))) (m 41) (nI P.length) (nI (lg P)) pv (nI S.length) (nI (lg S)) sv = _ from k3, bd8_s, show f_Mo_fit (0 : Int32) mores' m w more' = _ from k4, bd1_s, if_pos (show (0 : Int32) = 0 from rfl)]
        simp only [bnd_eq]
        rw [if_pos trivial]
        exact ⟨_, _, _, _, _, _, _, _, _, _, _, _, _, _, _, _, _, _, _, _, _, _, _, _, _, _, _, _, _, _, _, _, _, _, _, _, _, _, _, _, rfl, rfl, RW_mk (X := []) h (fun x hx => rfl) hA hT hM (List.append_nil _).symm a22 a25 g2 rfl a14 a15 rfl rfl a18⟩
      · rw [show f_Le_addWord (0 : Int32) (lN (eX (twf P le (P.length + i)))) (m 41) (nI P.length) (nI (lg P)) pv (nI S.length) (nI (lg S)) sv = _ from k5, bd8_s, show f_Mo_fit (0 : Int32) mores' m w more' = _ from k4, bd1_s, if_neg (show ¬ (1 : Int32) = 0 by decide), show f_Mo_adds (0 : Int32) mores' m w more' = _ from k6, bd2_s]
        simp only [bnd_eq]
        rw [if_neg kr]
        refine ⟨_, _, _, _, _, _, _, _, _, _, _, _, _, _, _, _, _, _, _, _, _, _, _, _, _, _, _, _, _, _, _, _, _, _, _, _, _, _, _, _, rfl, rfl, RW_mk (X := X) h (fun x hx => k11 x (by omega) (by omega) (by omega)) (ACx_fr hA (fun x hx => k11 x (by omega) (by omega) (by omega)) k13) k9 k10 hPX k7 k8 ?_ rfl ?_ (RC_fr a15 (fun x hx => k11 x (by omega) (by omega) (by omega))) (k11 42 (by omega) (by omega) (by omega)).symm (k11 43 (by omega) (by omega) (by omega)).symm (by rw [k11 43 (by omega) (by omega) (by omega)]; exact a18)⟩
        · subst hPX hSY
          exact cch_grow g2 (aleq_refl al) k9.2.2.2.1 h3
        · rcases k12 with q | q
          · rw [q]; exact a14
          · exact Or.inl q
    | none =>
      have hcl := opn_clsd ho
      rw [Option.map_none, show wvX (none : Option Wrd) = (-1 : Int64) from rfl, if_pos rfl, Option.map_none, show ov none = (-1 : Int32) from rfl, if_pos rfl, s_Ta_firstSeparator hT hal h3 a25 hb, bd1_s, s_Mo_isInconsistent (mores := mos) (more := mo2) hT hal a1 h3 hM hr]
      cases hsp : sep al P S le with
      | some u =>
        obtain ⟨hu, hu16⟩ := isS_ok hT (sep_spec hsp).1
        have hsm := eX_small (wle_ok hu h3) (by omega)
        rw [if_neg (wvX_some u (by omega)), show wvX (some u) = lN (eX u) from rfl, oE_s]
        obtain ⟨r, more', mores', k1, k2⟩ := s_add (c := 1) (more := mo2) hT hM h3 (by decide) hu hu16 a22 a25
        rw [show f_Mo_wants (lN (eM u)) (1 : Int32) (0 : Int32) m w mo2 = _ from k1, bd2_s, bd3_s, if_neg (show ¬ (1 : Int32) = 0 by decide)]
        rcases k2 with ⟨rfl, k3, k4⟩ | ⟨kr, k4, P', S', X, Y, pv', sv', m', w', hPX, hSY, k5, k6, k7, k8, k9, k10, k11, k12, k13⟩
        · rw [show f_Le_addWord (1 : Int32) (lN (eX u)) (m 41) (nI P.length) (nI (lg P)) pv (nI S.length) (nI (lg S)) sv = _ from k3, bd8_s, show f_Mo_fit (1 : Int32) mores' m w more' = _ from k4, bd1_s, if_pos (show (0 : Int32) = 0 from rfl)]
          simp only [bnd_eq]
          rw [if_pos trivial]
          exact ⟨_, _, _, _, _, _, _, _, _, _, _, _, _, _, _, _, _, _, _, _, _, _, _, _, _, _, _, _, _, _, _, _, _, _, _, _, _, _, _, _, rfl, rfl, RW_mk (X := []) h (fun x hx => rfl) hA hT hM (List.append_nil _).symm a22 a25 g2 rfl a14 a15 rfl rfl a18⟩
        · rw [show f_Le_addWord (1 : Int32) (lN (eX u)) (m 41) (nI P.length) (nI (lg P)) pv (nI S.length) (nI (lg S)) sv = _ from k5, bd8_s, show f_Mo_fit (1 : Int32) mores' m w more' = _ from k4, bd1_s, if_neg (show ¬ (1 : Int32) = 0 by decide), show f_Mo_adds (1 : Int32) mores' m w more' = _ from k6, bd2_s]
          simp only [bnd_eq]
          rw [if_neg kr]
          refine ⟨_, _, _, _, _, _, _, _, _, _, _, _, _, _, _, _, _, _, _, _, _, _, _, _, _, _, _, _, _, _, _, _, _, _, _, _, _, _, _, _, rfl, rfl, RW_mk (X := X) h (fun x hx => k11 x (by omega) (by omega) (by omega)) (ACx_fr hA (fun x hx => k11 x (by omega) (by omega) (by omega)) k13) k9 k10 hPX k7 k8 ?_ rfl ?_ (RC_fr a15 (fun x hx => k11 x (by omega) (by omega) (by omega))) (k11 42 (by omega) (by omega) (by omega)).symm (k11 43 (by omega) (by omega) (by omega)).symm (by rw [k11 43 (by omega) (by omega) (by omega)]; exact a18)⟩
          · subst hPX hSY
            exact cch_grow g2 (aleq_refl al) k9.2.2.2.1 h3
          · rcases k12 with q | q
            · rw [q]; exact a14
            · exact Or.inl q
      | none =>
        rw [show wvX (none : Option Wrd) = (-1 : Int64) from rfl, if_pos rfl, oE_n, bd3_s, if_pos (show (0 : Int32) = 0 from rfl)]
        by_cases c41 : m 41 = 0
        · rw [if_pos c41, if_pos c41]
          obtain ⟨mv', fi', re', f1, f2, f3, f4⟩ := s_Le_formHypothesis (re := rep) (mv := hm) (fi := hf) hal hT.2.2.2.1 hT.2.2.2.2.1 h3 hb hcl
          obtain ⟨m', so', d1, d2, d3, d4, d5, d6, d7⟩ := s_Mo_forms (so := so) hT hal h3 hM.1 hM.2.1 hr hcl
          rw [f1, bd6_s, d1, bd2_s]
          obtain ⟨hpos, hRH⟩ := RH_forms hT h3 hcl f2 f3 f4 d3 d5 d6 d7
          have f := fun x h1 h2 h3 => d2 x h1 h2 h3
          refine ⟨_, _, _, _, _, _, _, _, _, _, _, _, _, _, _, _, _, _, _, _, _, _, _, _, _, _, _, _, _, _, _, _, _, _, _, _, _, _, _, _, rfl, rfl, sz, le, b, n, mo, _, al, L, tm, tf, _, _, _, P, S, a1, rfl, rfl, by rw [f 0 (by omega) (by omega) (by omega), a4], rfl, a6, ACx_fr hA (fun x hx => f x (by omega) (by omega) (by omega)) (fun _ _ => rfl), rfl, by rw [f 35 (by omega) (by omega) (by omega), a9], a10, rfl, rfl, d4.symm, Or.inr ⟨d4, hpos⟩, RC_fr a15 (fun x hx => f x (by omega) (by omega) (by omega)), (f 42 (by omega) (by omega) (by omega)).symm, (f 43 (by omega) (by omega) (by omega)).symm, by rw [f 43 (by omega) (by omega) (by omega)]; exact a18, rfl, rfl, rfl, a22, rfl, rfl, a25, hT, ⟨by rw [f 1 (by omega) (by omega) (by omega)]; exact hM.1, by rw [f 38 (by omega) (by omega) (by omega)]; exact hM.2.1, by rw [f 39 (by omega) (by omega) (by omega)]; exact hM.2.2.1, hM.2.2.2⟩, g2, hRH⟩
        · rw [if_neg c41, if_neg c41]
          obtain ⟨c41', hz⟩ := a14.resolve_left c41
          obtain ⟨t1, t2, t3, t4, t5⟩ := id hH
          obtain ⟨u1, u2, u3, u4, u5, u6, u7, u8, u9⟩ := t5 hz
          obtain ⟨se', qu', og', ar', qd', v1⟩ := s_Se_findsDifference (lt := lt) (sn := se) (qu := qu) (og := og) (ar := ar) (p := 0) (q := 0) t3 q12 (show 3 * szh ≤ 120 by omega) (by decide) (show szh ≤ 40 by omega) (by decide) (show 3 * sz ≤ 24 by omega) (by decide) (show sz ≤ 8 by omega) (by decide) u2 u3 q13 q14 h3 u1 q17 u4 (fun k hk => q18 k (by omega)) hz q17.1
          obtain ⟨q2', p2', b2', s2', st', v2, v3⟩ := s_Mo_parts (pa := pa) (qu := q2) (og := p2) (ar := b2) (sn := s2) (st := st) (p := 0) (q := 0) (h := 1) (m := m) t3 q12 (by decide) hM.1 u7 u8 (fun h => absurd h (by decide)) q15 q16 h3 u1 q17 u4 (fun k hk => q18 k (by omega)) hz q17.1
          rw [show f_Se_findsDifference 120 40 24 8 (0 : Int32) (0 : Int32) se qu og ar lt hm hf (nI le) tM tF = _ from v1, bd8_s, show f_Mo_parts (0 : Int32) (0 : Int32) (1 : Int32) st m q2 p2 b2 s2 pa = _ from v2, bd7_s]
          cases hd : dif mf tf ml tm le 0 0 with
          | none =>
            rw [show difI (none : Option Wrd) = (0 : Int32) from rfl, if_pos rfl, if_pos rfl]
            exact ⟨_, _, _, _, _, _, _, _, _, _, _, _, _, _, _, _, _, _, _, _, _, _, _, _, _, _, _, _, _, _, _, _, _, _, _, _, _, _, _, _, rfl, rfl, RW_mk (X := []) h (fun x hx => rfl) hA hT hM (List.append_nil _).symm a22 a25 g2 rfl a14 a15 rfl rfl a18⟩
          | some u =>
            obtain ⟨hu, hu320⟩ := dif_ok t3 q12 u1 q17 hz q17.1 hd
            rw [show difI (some u) = (1 : Int32) from rfl, if_neg (show ¬ (1 : Int32) = 0 by decide), if_neg (show ¬ (1 : Int32) = 0 by decide), show difN (some u) = nI u.length from rfl, v3 u hd, show difL lt (some u) = wri lt u from rfl, show difL pa (some u) = wri pa u from rfl]
            have hgr : RA sz le b n mo szh al L tm tf ml mf re P S (nI sz) (nI le) tM tF (nI L.length) lv (nI mo) (nI b) (m 41) ce (m 42) (m 43) (nI n) E (nI le) (nI P.length) (nI (lg P)) pv (nI S.length) (nI (lg S)) sv kn' bi' hs hl hm hf rep m w := ⟨a1, rfl, rfl, a4, rfl, a6, hA, rfl, a9, a10, rfl, rfl, rfl, a14, a15, rfl, rfl, a18, rfl, rfl, rfl, a22, rfl, rfl, a25, hT, hM, g2, hH⟩
            by_cases h16 : u.length ≤ 16
            · rw [if_pos (show nI u.length ≤ (16 : Int32) from nI_le (b := 16) h16 (by omega)), s_Se_foundWord (wle_ok hu h3) h16 (wri_pth lt u), bd1_s]
              by_cases hmo : mo = 1
              · subst hmo
                rw [if_pos (show nI 1 = (1 : Int32) from rfl)]
                obtain ⟨s0, n', al', E', P', S', pv', sv', fo', m', w', more', mores', k1, k2, k3, k4, k5, k6, k7, k8, k9, ⟨X, k10⟩, Y, k11⟩ := s_corr_split (mores := mos) (more := mo2) (sv := sv) hT h3 t3 u2 u1 u5 (by rw [u6]; exact tok_pw0 hT) a22 a25 hu h16 (wri_pth pa u) hA hM u7 u9 a9
                rw [k1, bd10_s, k2, bd5_s]
                exact s_corr_end hgr k8 k9 k3 k4 k10 k11 k5 k6 (wle_ok hu h3) h16 k7 _ _ _ _ _ _ _ _ _ _ _ _ _ _ _ _ _ _
              · rw [if_neg (show ¬ nI mo = (1 : Int32) by rw [fl, nI_eq (by omega) (by omega)]; exact hmo)]
                obtain ⟨c, hc, rfl⟩ : ∃ c, c ≤ 1 ∧ mo = 2 * c := ⟨mo / 2, by omega, by omega⟩
                obtain ⟨s0, P', S', pv', sv', fo', m', w', more', mores', k1, k2, k3, k4, k5, k6, k7, k8, k9, -, ⟨X, k10⟩, Y, k11⟩ := s_corr_parts (c := c) (mores := mos) (more := mo2) hT hM h3 hc a9 hu h16 (wri_pth pa u) a22 a25
                rw [show (if nI (2 * c) = (2 : Int32) then (1 : Int32) else 0) = nI c by rcases (show c = 0 ∨ c = 1 by omega) with rfl | rfl <;> decide, bnd_eq, k1, bd8_s, k2, bd5_s]
                obtain ⟨-, -, -, -, z5⟩ := id k7
                exact s_corr_end hgr (ACx_fr hA (fun x hx => by
                  rcases hx with hx | hx | hx | hx
                  · exact z5 x (by omega)
                  · exact z5 x (by omega)
                  · exact k8 x (by omega)
                  · exact k8 x (by omega)) k9) (aleq_refl al) k3 k4 k10 k11 k5 k6 (wle_ok hu h3) h16 k7 _ _ _ _ _ _ _ _ _ _ _ _ _ _ _ _ _ _
            · rw [if_neg (show ¬ nI u.length ≤ (16 : Int32) from nI_ge (a := 16) (by omega) (by omega)), f_Mo_uses, if_neg (show ¬ nI u.length ≤ (16 : Int32) from nI_ge (a := 16) (by omega) (by omega)), bd5_s]
              exact ⟨_, _, _, _, _, _, _, _, _, _, _, _, _, _, _, _, _, _, _, _, _, _, _, _, _, _, _, _, _, _, _, _, _, _, _, _, _, _, _, _, rfl, rfl, sz, le, b, n, mo, szh, al, L, tm, tf, ml, mf, re, P, S, hgr⟩

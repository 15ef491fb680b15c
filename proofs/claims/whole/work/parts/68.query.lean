/-! ===== the questions about a state, on both sides ===== -/
theorem hn_cases {N : Nat} (h0 : 0 < N) (hN : N < 1000) (x : Int32) : (∃ k, k < N ∧ x = nI k ∧ f_WL_hasNumber x (nI N) = some 1 ∧ f_Mo_in x 0 (nI N - 1) = some 1) ∨ (f_WL_hasNumber x (nI N) = some 0 ∧ f_Mo_in x 0 (nI N - 1) = some 0) := by
  rw [f_WL_hasNumber, s_Mo_in]
  rcases rng h0 hN x with ⟨k, h1, h2, h3, h4, h5⟩ | ⟨h1, h2⟩
  · refine Or.inl ⟨k, h1, h2, ?_, ?_⟩
    · rw [if_neg h3, if_neg h4]
    · rw [if_neg (fun q => q.elim h3 h5)]
  · refine Or.inr ⟨?_, by rw [if_pos h2]⟩
    by_cases z : x < 0
    · rw [if_pos z]
    · rw [if_neg z, if_pos (h1.resolve_left z)]
theorem hq_cases {N : Nat} (h0 : 0 < N) (hN : N < 1000) (x : Int32) : (∃ k, k < N ∧ x = nI k ∧ f_Au_hasState x (nI N) = some 1 ∧ f_Mo_in x 0 (nI N - 1) = some 1) ∨ (f_Au_hasState x (nI N) = some 0 ∧ f_Mo_in x 0 (nI N - 1) = some 0) := hn_cases h0 hN x
theorem pr_cases {le : Nat} (h0 : 0 < le) (h3 : le ≤ 3) {m : Nat → Int32} (hm : m 1 = nI le) (x : Int32) :
    (∃ k, k < le ∧ x = nI k ∧ f_Au_hasProperty x (nI le) = some 1 ∧ f_Mo_in x 0 4 = some 1 ∧ ¬ 3 ≤ x ∧ f_Mo_isLetter x m = some 1 ∧ ¬ x = 3 ∧ ¬ x = 4) ∨ (x = 3 ∧ f_Au_hasProperty x (nI le) = some 1) ∨ (x = 4 ∧ f_Au_hasProperty x (nI le) = some 1) ∨ (f_Au_hasProperty x (nI le) = some 0 ∧ (f_Mo_in x 0 4 = some 0 ∨ (f_Mo_in x 0 4 = some 1 ∧ ¬ 3 ≤ x ∧ f_Mo_isLetter x m = some 0))) := by
  rcases hl_cases h0 (by omega) hm x with ⟨k, h1, rfl, h2, h4⟩ | ⟨h1, h2⟩
  · refine Or.inl ⟨k, h1, rfl, ?_, ?_, ?_, h4, ?_, ?_⟩
    · rw [f_Au_hasProperty, h2, bd1_s, if_neg (by decide)]; rfl
    · rcases (show k = 0 ∨ k = 1 ∨ k = 2 by omega) with rfl | rfl | rfl <;> decide
    · rcases (show k = 0 ∨ k = 1 ∨ k = 2 by omega) with rfl | rfl | rfl <;> decide
    · rcases (show k = 0 ∨ k = 1 ∨ k = 2 by omega) with rfl | rfl | rfl <;> decide
    · rcases (show k = 0 ∨ k = 1 ∨ k = 2 by omega) with rfl | rfl | rfl <;> decide
  · by_cases e3 : x = 3
    · exact Or.inr (Or.inl ⟨e3, by rw [f_Au_hasProperty, h1, bd1_s, if_pos rfl, if_pos e3]; rfl⟩)
    by_cases e4 : x = 4
    · exact Or.inr (Or.inr (Or.inl ⟨e4, by rw [f_Au_hasProperty, h1, bd1_s, if_pos rfl, if_neg e3, if_pos e4]; rfl⟩))
    refine Or.inr (Or.inr (Or.inr ⟨by rw [f_Au_hasProperty, h1, bd1_s, if_pos rfl, if_neg e3, if_neg e4]; rfl, ?_⟩))
    rw [s_Mo_in]
    by_cases z : x < 0 ∨ 4 < x
    · exact Or.inl (by rw [if_pos z])
    · refine Or.inr ⟨by rw [if_neg z], ?_, h2⟩
      obtain ⟨k, -, hk, rfl⟩ := in_nI (a := 0) (b := 4) (by decide) (fun q => z (Or.inl q)) (Int32.not_lt.mp (fun q => z (Or.inr q))) (by decide)
      rcases (show k = 0 ∨ k = 1 ∨ k = 2 ∨ k = 3 ∨ k = 4 by omega) with rfl | rfl | rfl | rfl | rfl
      · decide
      · decide
      · decide
      · exact absurd rfl e3
      · exact absurd rfl e4
theorem le_m1 {i : Int32} (h : (-1 : Int32) ≤ i) : ¬ i < -1 := Int32.not_lt.mpr h
section
variable {tS tL : Int32} {tM tF : Nat → Int32} {lc : Int32} {lv : Nat → Int64} {mode budget formed : Int32} {ce : Int64} {corr dec qn : Int32} {E : Nat → Int64} {tl pn pl : Int32} {pv : Nat → Int64} {sn sl : Int32} {sv : Nat → Int64} {kn bi : Nat → Int32} {hs hl : Int32} {hm hf rep m : Nat → Int32} {w : Nat → Int64} {tn tn2 : Int32} {tx tx2 : Nat → Int32}
theorem s_state (h : RW tS tL tM tF lc lv mode budget formed ce corr dec qn E tl pn pl pv sn sl sv kn bi hs hl hm hf rep m w) (x1 x2 : Int32) (far : Nat → Int32) : ∃ r far', f_TL_state x1 x2 tS tL tM tF = some r ∧ f_Mo_state x1 x2 m far = some (r, far') := by
  obtain ⟨sz, le, b, n, mo, szh, al, L, tm, tf, ml, mf, re, P, S, hR⟩ := h
  obtain ⟨t1, t2, t3, rfl, rfl, t6, t7, t8, t9, t10, t11, t12, -, t19, t20, t21, t22, t23, t24⟩ := RA_RT hR
  rw [f_TL_state, f_Mo_state]
  rcases hs_cases t23.1 (by omega) t6 x1 with ⟨s, z1, rfl, e1, e2⟩ | ⟨e1, e2⟩
  rotate_left
  · rw [e1, e2, bd1_s, bd1_s, if_pos rfl, if_pos rfl]; exact ⟨_, _, rfl, rfl⟩
  rw [e1, e2, bd1_s, bd1_s, if_neg (show ¬ (1 : Int32) = 0 by decide), if_neg (show ¬ (1 : Int32) = 0 by decide)]
  obtain ⟨far', d1, d2⟩ := s_Mo_distances (f := far) t3 t2 t1 t21 t6 t7 t23
  rcases pr_cases t1 t2 t7 x2 with ⟨a, z2, rfl, g1, g2, g3, g4, g5, g6⟩ | ⟨rfl, g1⟩ | ⟨rfl, g1⟩ | ⟨g1, g2⟩
  · rw [g1, g2, bd1_s, bd1_s, if_neg (show ¬ (1 : Int32) = 0 by decide), if_neg (show ¬ (1 : Int32) = 0 by decide), if_neg g6, if_neg g3, g4, bd1_s, if_neg (show ¬ (1 : Int32) = 0 by decide), f_Mo_state_J33, d1, bd1_s, if_neg g3, f_Au_property, if_neg g5, f_Au_next, ix3, gIn_nI (by omega) (by omega), nI_clamp (by omega), bd1_s, bd1_s, show (2 : Int32) = nI 2 from rfl, ix3o, gIn_nI (by omega) (by omega), nI_clamp (by omega), t19 _ (by omega), t21 _ (by omega)]
    exact ⟨_, _, rfl, rfl⟩
  · rw [g1, bd1_s, if_neg (show ¬ (1 : Int32) = 0 by decide), if_neg (show ¬ (3 : Int32) = 4 by decide), show f_Mo_in 3 0 4 = some 1 from rfl, bd1_s, if_neg (show ¬ (1 : Int32) = 0 by decide), if_pos (show (3 : Int32) ≤ 3 by decide), f_Mo_state_J33, d1, bd1_s, if_pos (show (3 : Int32) ≤ 3 by decide), if_pos rfl, f_Au_property, if_pos rfl, gIn_nI (by omega) (by omega), nI_clamp (by omega), bd1_s, show (26 : Int32) = nI 26 from rfl, nI_add, gIn_nI (by omega) (by omega), nI_clamp (by omega), t20 s (by omega), t22 s (by omega)]
    exact ⟨_, _, rfl, rfl⟩
  · rw [g1, bd1_s, if_neg (show ¬ (1 : Int32) = 0 by decide), if_pos rfl, show f_Mo_in 4 0 4 = some 1 from rfl, bd1_s, if_neg (show ¬ (1 : Int32) = 0 by decide), if_pos (show (3 : Int32) ≤ 4 by decide), f_Mo_state_J33, d1, bd1_s, if_pos (show (3 : Int32) ≤ 4 by decide), if_neg (show ¬ (4 : Int32) = 3 by decide), s_Au_distanceTo t3 t2 t19 t23 z1, bd1_s, gIn_nI (by omega) (by omega), nI_clamp (by omega), d2 s z1]
    exact ⟨_, _, rfl, rfl⟩
  · rw [g1, bd1_s, if_pos rfl]
    rcases g2 with g2 | ⟨g2, g3, g4⟩
    · rw [g2, bd1_s, if_pos rfl]; exact ⟨_, _, rfl, rfl⟩
    · rw [g2, bd1_s, if_neg (show ¬ (1 : Int32) = 0 by decide), if_neg g3, g4, bd1_s, if_pos rfl]; exact ⟨_, _, rfl, rfl⟩
theorem rIo_m {sz le : Nat} {tm : Nat → Nat} (h8 : sz ≤ 8) (h3 : le ≤ 3) (h : rIo 2 24 tm m) : rIm 2 sz le tm m := fun s a hs ha => h (3 * s + a) (by omega)
theorem s_distinguish (h : RW tS tL tM tF lc lv mode budget formed ce corr dec qn E tl pn pl pv sn sl sv kn bi hs hl hm hf rep m w) (x1 x2 x3 : Int32) (len qd : Int32) (se qu og ar lt q2 p2 b2 s2 pa : Nat → Int32) (st : Int32) :
    ∃ r se' qu' og' ar' lt' len' qd' q2' p2' b2' s2' pa' st', f_TL_distinguish x1 x2 x3 tS tL tM tF len qd se qu og ar lt = some (r, se', qu', og', ar', lt', len', qd') ∧ f_Mo_distinguish x1 x2 x3 st m q2 p2 b2 s2 pa = some (r, q2', p2', b2', s2', pa', st') := by
  obtain ⟨sz, le, b, n, mo, szh, al, L, tm, tf, ml, mf, re, P, S, hR⟩ := h
  obtain ⟨t1, t2, t3, rfl, rfl, t6, t7, t8, t9, t10, t11, t12, -, t19, t20, t21, t22, t23, t24⟩ := RA_RT hR
  rw [f_TL_distinguish, f_Mo_distinguish]
  rcases hs_cases t23.1 (by omega) t6 x1 with ⟨p, z1, rfl, e1, e2⟩ | ⟨e1, e2⟩
  rotate_left
  · rw [e1, e2, bd1_s, bd1_s, if_pos rfl, if_pos rfl]; exact ⟨_, _, _, _, _, _, _, _, _, _, _, _, _, _, rfl, rfl⟩
  rw [e1, e2, bd1_s, bd1_s, if_neg (show ¬ (1 : Int32) = 0 by decide), if_neg (show ¬ (1 : Int32) = 0 by decide)]
  rcases hs_cases t23.1 (by omega) t6 x2 with ⟨q, z2, rfl, e3, e4⟩ | ⟨e3, e4⟩
  rotate_left
  · rw [e3, e4, bd1_s, bd1_s, if_pos rfl, if_pos rfl]; exact ⟨_, _, _, _, _, _, _, _, _, _, _, _, _, _, rfl, rfl⟩
  rw [e3, e4, bd1_s, bd1_s, if_neg (show ¬ (1 : Int32) = 0 by decide), if_neg (show ¬ (1 : Int32) = 0 by decide)]
  by_cases h1 : (-1 : Int32) ≤ x3
  · rw [if_pos h1, if_pos h1, fd_alias]
    obtain ⟨se', qu', og', ar', qd', v1⟩ := s_Se_findsDifference (N1 := 24) (N1f := 8) (N3 := 24) (N3f := 8) (lt := lt) (sn := se) (qu := qu) (og := og) (ar := ar) (p := p) (q := q) (show sz ≤ 40 by omega) t3 (by omega) (by decide) (by omega) (by decide) (by omega) (by decide) (by omega) (by decide) t19 t20 t19 t20 t2 t23 t23 (fun k hk => t24 k (by omega)) (fun k hk => t24 k (by omega)) z1 z2
    obtain ⟨q2', p2', b2', s2', st', v2, v3⟩ := s_Mo_parts (pa := pa) (qu := q2) (og := p2) (ar := b2) (sn := s2) (st := st) (p := p) (q := q) (h := 0) (m := m) (show sz ≤ 40 by omega) t3 (by decide) t7 (rIo_m t3 t2 t21) (fun k hk => t22 k (by omega)) (fun _ => t3) t21 t22 t2 t23 t23 (fun k hk => t24 k (by omega)) (fun k hk => t24 k (by omega)) z1 z2
    have ho : ∀ w, dif tf tf tm tm le p q = some w → w.length < 320 := fun w hw => (dif_ok (show sz ≤ 40 by omega) t3 t23 t23 z1 z2 hw).2
    rw [v1, bd8_s, s_Se_letterOrLength ho (le_m1 h1), bd1_s, show f_Mo_parts (nI p) (nI q) (0 : Int32) st m q2 p2 b2 s2 pa = _ from v2, bd7_s]
    cases hd : dif tf tf tm tm le p q with
    | none =>
      rw [show difI (none : Option Wrd) = (0 : Int32) from rfl, if_pos rfl]
      exact ⟨_, _, _, _, _, _, _, _, _, _, _, _, _, _, rfl, rfl⟩
    | some u =>
      rw [show difI (some u) = (1 : Int32) from rfl, if_neg (show ¬ (1 : Int32) = 0 by decide), v3 u hd, show difL pa (some u) = wri pa u from rfl, s_Mo_pathPart (ho u hd) (le_m1 h1), bd1_s]
      exact ⟨_, _, _, _, _, _, _, _, _, _, _, _, _, _, rfl, rfl⟩
  · rw [if_neg h1, if_neg h1]; exact ⟨_, _, _, _, _, _, _, _, _, _, _, _, _, _, rfl, rfl⟩
theorem s_leastStates (h : RW tS tL tM tF lc lv mode budget formed ce corr dec qn E tl pn pl pv sn sl sv kn bi hs hl hm hf rep m w) (len qd : Int32) (se qu og ar lt far q2 p2 b2 s2 pa : Nat → Int32) (st : Int32) :
    ∃ r se' qu' og' ar' lt' len' qd' far' q2' p2' b2' s2' pa' st', f_TL_leastStates tS tL tM tF len qd se qu og ar lt = some (r, se', qu', og', ar', lt', len', qd') ∧ f_Mo_leastStates st m far q2 p2 b2 s2 pa = some (r, far', q2', p2', b2', s2', pa', st') := by
  obtain ⟨sz, le, b, n, mo, szh, al, L, tm, tf, ml, mf, re, P, S, hR⟩ := h
  obtain ⟨t1, t2, t3, rfl, rfl, t6, t7, t8, t9, t10, t11, t12, -, t19, t20, t21, t22, t23, t24⟩ := RA_RT hR
  obtain ⟨se', qu', og', ar', lt', len', qd', e1⟩ := s_TL_leastStates t3 t2 t19 t20 t23 t24 se qu og ar lt len qd
  obtain ⟨far', q2', p2', b2', s2', pa', st', e2⟩ := s_Mo_leastStates t3 t2 t1 t21 t22 t6 t7 t23 t24 far q2 p2 b2 s2 pa st
  exact ⟨_, _, _, _, _, _, _, _, _, _, _, _, _, _, _, e1, e2⟩
theorem s_difference (h : RW tS tL tM tF lc lv mode budget formed ce corr dec qn E tl pn pl pv sn sl sv kn bi hs hl hm hf rep m w) (x : Int32) (len qd : Int32) (se qu og ar lt q2 p2 b2 s2 pa : Nat → Int32) (st : Int32) :
    ∃ r se' qu' og' ar' lt' len' qd' q2' p2' b2' s2' pa' st', f_TL_difference x tL tM tF hs hm hf len qd se qu og ar lt = some (r, se', qu', og', ar', lt', len', qd') ∧ f_Mo_difference x st m q2 p2 b2 s2 pa = some (r, q2', p2', b2', s2', pa', st') := by
  obtain ⟨sz, le, b, n, mo, szh, al, L, tm, tf, ml, mf, re, P, S, hR⟩ := h
  obtain ⟨t1, t2, t3, rfl, rfl, t6, t7, t8, t9, t10, t11, t12, -, t19, t20, t21, t22, t23, t24⟩ := RA_RT hR
  obtain ⟨-, -, -, -, -, -, -, -, -, -, -, -, -, -, -, -, -, -, -, -, -, -, -, -, -, -, -, -, rfl, h2, h3, h4, h5⟩ := hR
  rw [f_TL_difference, f_Mo_difference, h2]
  by_cases h1 : (-1 : Int32) ≤ x
  · rw [if_pos h1, if_pos h1, s_hasHyp h3, bd1_s]
    by_cases z : szh = 0
    · subst z
      rw [if_pos (show (if (0 : Nat) = 0 then (0 : Int32) else 1) = 0 from rfl), if_pos (show nI 0 = (0 : Int32) from rfl)]
      exact ⟨_, _, _, _, _, _, _, _, _, _, _, _, _, _, rfl, rfl⟩
    · have hz : 0 < szh := by omega
      obtain ⟨u1, u2, u3, u4, u5, u6, u7, u8, u9⟩ := h5 hz
      rw [if_neg (show ¬ (if szh = 0 then (0 : Int32) else 1) = 0 by rw [if_neg z]; decide), if_neg (show ¬ nI szh = (0 : Int32) by rw [nI_eq0 (by omega)]; exact z)]
      obtain ⟨se', qu', og', ar', qd', v1⟩ := s_Se_findsDifference (N1 := 120) (N1f := 40) (N3 := 24) (N3f := 8) (lt := lt) (sn := se) (qu := qu) (og := og) (ar := ar) (p := 0) (q := 0) h3 t3 (show 3 * szh ≤ 120 by omega) (by decide) (show szh ≤ 40 by omega) (by decide) (show 3 * sz ≤ 24 by omega) (by decide) (show sz ≤ 8 by omega) (by decide) u2 u3 t19 t20 t2 u1 t23 u4 (fun k hk => t24 k (by omega)) hz t23.1
      obtain ⟨q2', p2', b2', s2', st', v2, v3⟩ := s_Mo_parts (pa := pa) (qu := q2) (og := p2) (ar := b2) (sn := s2) (st := st) (p := 0) (q := 0) (h := 1) (m := m) h3 t3 (by decide) t7 u7 u8 (fun h => absurd h (by decide)) t21 t22 t2 u1 t23 u4 (fun k hk => t24 k (by omega)) hz t23.1
      have ho : ∀ w, dif mf tf ml tm le 0 0 = some w → w.length < 320 := fun w hw => (dif_ok h3 t3 u1 t23 hz t23.1 hw).2
      rw [show f_Se_findsDifference 120 40 24 8 (0 : Int32) (0 : Int32) se qu og ar lt hm hf (nI le) tM tF = _ from v1, bd8_s, s_Se_letterOrLength ho (le_m1 h1), bd1_s, show f_Mo_parts (0 : Int32) (0 : Int32) (1 : Int32) st m q2 p2 b2 s2 pa = _ from v2, bd7_s]
      cases hd : dif mf tf ml tm le 0 0 with
      | none =>
        rw [show difI (none : Option Wrd) = (0 : Int32) from rfl, if_pos rfl]
        exact ⟨_, _, _, _, _, _, _, _, _, _, _, _, _, _, rfl, rfl⟩
      | some u =>
        rw [show difI (some u) = (1 : Int32) from rfl, if_neg (show ¬ (1 : Int32) = 0 by decide), v3 u hd, show difL pa (some u) = wri pa u from rfl, s_Mo_pathPart (ho u hd) (le_m1 h1), bd1_s]
        exact ⟨_, _, _, _, _, _, _, _, _, _, _, _, _, _, rfl, rfl⟩
  · rw [if_neg h1, if_neg h1]; exact ⟨_, _, _, _, _, _, _, _, _, _, _, _, _, _, rfl, rfl⟩
end

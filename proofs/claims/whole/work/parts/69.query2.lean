/-! ===== more questions: word, cell, hypothesis, counterexample, count ===== -/
section
variable {tS tL : Int32} {tM tF : Nat → Int32} {lc : Int32} {lv : Nat → Int64} {mode budget formed : Int32} {ce : Int64} {corr dec qn : Int32} {E : Nat → Int64} {tl pn pl : Int32} {pv : Nat → Int64} {sn sl : Int32} {sv : Nat → Int64} {kn bi : Nat → Int32} {hs hl : Int32} {hm hf rep m : Nat → Int32} {w : Nat → Int64} {tn tn2 : Int32} {tx tx2 : Nat → Int32}
theorem tok_posS {le : Nat} {P S : List Wrd} (hT : tok le P S) : 0 < S.length := by
  have h := hT.2.2.2.2.2.2
  rcases Nat.eq_zero_or_pos S.length with z | z
  · rw [List.length_eq_zero_iff.mp z] at h; cases h
  · exact z
theorem s_word (h : RW tS tL tM tF lc lv mode budget formed ce corr dec qn E tl pn pl pv sn sl sv kn bi hs hl hm hf rep m w) (x1 x2 x3 : Int32) : ∃ r, f_TL_word x1 x2 x3 pn pv sn sv = some r ∧ f_Mo_word x1 x2 x3 m w = some r := by
  obtain ⟨sz, le, b, n, mo, szh, al, L, tm, tf, ml, mf, re, P, S, hR⟩ := h
  have t2 := (RA_RT hR).2.1
  obtain ⟨a1, a2, a3, a4, a5, a6, hA, a8, a9, a10, a11, a12, a13, a14, a15, a16, a17, a18, a19, rfl, rfl, a22, rfl, rfl, a25, hT, hM, hC, hH⟩ := hR
  have hp := tok_pos hT
  have hq := tok_posS hT
  have hP := tok_wfP hT t2
  have hS := tok_wfS hT t2
  have h40 := hT.2.2.2.1
  have h16 := hT.2.2.2.2.1
  rw [f_TL_word, f_Mo_word]
  simp only [bnd_eq]
  by_cases z : x1 = 0
  · rw [if_pos z, if_pos z, if_pos z, hM.2.1, f_TL_word_J29]
    rcases hn_cases hp (by omega) x2 with ⟨k, z1, rfl, e1, e2⟩ | ⟨e1, e2⟩
    · rw [e1, e2, bd1_s, bd1_s, if_neg (show ¬ (1 : Int32) = 0 by decide), if_neg (show ¬ (1 : Int32) = 0 by decide)]
      by_cases h1 : (-1 : Int32) ≤ x3
      · obtain ⟨w1, w2⟩ := hP _ (List.getElem_mem z1)
        rw [if_pos h1, if_pos h1, gIn_nI (by omega) (by omega), nI_clamp (by omega), a22 k z1, s_Ws_letterOrLength w1 w2 (le_m1 h1), bd1_s, show (304 : Int32) = nI 304 from rfl, nI_add, gIn_nI (by omega) (by omega), nI_clamp (by omega), hM.2.2.2.1 k z1, s_Mo_letterOrLength w1 (by omega) (le_m1 h1), bd1_s]
        exact ⟨_, rfl, rfl⟩
      · rw [if_neg h1, if_neg h1]; exact ⟨_, rfl, rfl⟩
    · rw [e1, e2, bd1_s, bd1_s, if_pos rfl, if_pos rfl]; exact ⟨_, rfl, rfl⟩
  · rw [if_neg z, if_neg z, if_neg z, hM.2.2.1, f_TL_word_J29v1]
    rcases hn_cases hq (by omega) x2 with ⟨k, z1, rfl, e1, e2⟩ | ⟨e1, e2⟩
    · rw [e1, e2, bd1_s, bd1_s, if_neg (show ¬ (1 : Int32) = 0 by decide), if_neg (show ¬ (1 : Int32) = 0 by decide)]
      by_cases h1 : (-1 : Int32) ≤ x3
      · obtain ⟨w1, w2⟩ := hS _ (List.getElem_mem z1)
        rw [if_pos h1, if_pos h1, gIn_nI (by omega) (by omega), nI_clamp (by omega), a25 k z1, s_Ws_letterOrLength w1 w2 (le_m1 h1), bd1_s, show (344 : Int32) = nI 344 from rfl, nI_add, gIn_nI (by omega) (by omega), nI_clamp (by omega), hM.2.2.2.2 k z1, s_Mo_letterOrLength w1 (by omega) (le_m1 h1), bd1_s]
        exact ⟨_, rfl, rfl⟩
      · rw [if_neg h1, if_neg h1]; exact ⟨_, rfl, rfl⟩
    · rw [e1, e2, bd1_s, bd1_s, if_pos rfl, if_pos rfl]; exact ⟨_, rfl, rfl⟩
theorem s_cell (h : RW tS tL tM tF lc lv mode budget formed ce corr dec qn E tl pn pl pv sn sl sv kn bi hs hl hm hf rep m w) (x1 x2 x3 : Int32) : ∃ r, f_TL_cell x1 x2 x3 tL qn E pn pv sn sv = some r ∧ f_Mo_cell x1 x2 x3 m w = some r := by
  obtain ⟨sz, le, b, n, mo, szh, al, L, tm, tf, ml, mf, re, P, S, hR⟩ := h
  obtain ⟨t1, t2, t3, -, -, t6, t7, -⟩ := RA_RT hR
  obtain ⟨a1, a2, rfl, a4, a5, a6, hA, a8, a9, a10, a11, rfl, a13, a14, a15, a16, a17, a18, a19, rfl, rfl, a22, rfl, rfl, a25, hT, hM, hC, hH⟩ := hR
  obtain ⟨hal, hX, hQ, q4, q5, q6, -⟩ := hA
  have hp := tok_pos hT
  have hq := tok_posS hT
  have hP := tok_wfP hT t2
  have hS := tok_wfS hT t2
  have h40 := hT.2.2.2.1
  have h16 := hT.2.2.2.2.1
  have one : ¬ (1 : Int32) = 0 := by decide
  -- the end, for a word that fits
  have fin : ∀ (u : Wrd) (k : Nat) (hk : k < S.length), wle le u → u.length + S[k].length ≤ 16 → f_TL_cell_J98 (nI k) (lN (eX u)) (nI n) E sv = some (ov (al (u ++ S[k]))) ∧ f_Mo_cell_J82 (nI k) (lN (eM u)) m w = some (ov (al (u ++ S[k]))) := by
    intro u k hk hu hl
    obtain ⟨w1, w2⟩ := hS _ (List.getElem_mem hk)
    have hu' := wle_ok hu t2
    have hj : wok (u ++ S[k]) := wok_app.mpr ⟨hu', w1⟩
    have hjl : (u ++ S[k]).length ≤ 16 := by rw [List.length_append]; exact hl
    rw [f_TL_cell_J98, f_Mo_cell_J82, gIn_nI (by omega) (by omega), nI_clamp (by omega), a25 k hk, s_Ws_join hu' w1 (by omega) (by omega), bd1_s, s_Qu_answerTo hX (by omega) hj hjl, bd1_s, show (344 : Int32) = nI 344 from rfl, nI_add, gIn_nI (by omega) (by omega), nI_clamp (by omega), hM.2.2.2.2 k hk, s_Mo_joined hu' w1 (by omega), bd1_s, s_Mo_known hQ (by omega) hj hjl, bd1_s]
    exact ⟨rfl, rfl⟩
  have fitP : ∀ i (hi : i < P.length) k (hk : k < S.length), P[i].length + 1 + S[k].length ≤ 16 := fun i hi k hk => hT.2.2.1 _ (List.getElem_mem hi) _ (List.getElem_mem hk)
  rw [f_TL_cell, f_Mo_cell, hM.2.1]
  by_cases z : x2 = -1
  · rw [if_pos z, f_TL_cell_J34, f_TL_cell_J39, if_neg one]
    rcases hn_cases hp (by omega) x1 with ⟨i, z1, rfl, e1, e2⟩ | ⟨e1, e2⟩
    rotate_left
    · rw [e1, e2, bd1_s, bd1_s, if_pos rfl, if_pos rfl]; exact ⟨_, rfl, rfl⟩
    rw [e1, e2, bd1_s, bd1_s, if_neg one, if_neg one, if_pos z, f_Mo_cell_J30, hM.2.2.1]
    rcases hn_cases hq (by omega) x3 with ⟨k, z2, rfl, e3, e4⟩ | ⟨e3, e4⟩
    rotate_left
    · rw [e3, e4, bd1_s, bd1_s, if_pos rfl, if_pos rfl]; exact ⟨_, rfl, rfl⟩
    have hf := fitP i z1 k z2
    obtain ⟨f1, f2⟩ := fin P[i] k z2 (hT.1 _ (List.getElem_mem z1)) (by omega)
    rw [e3, e4, bd1_s, bd1_s, if_neg one, if_neg one, gIn_nI (by omega) (by omega)]
    simp only [bnd_eq]
    rw [if_pos z, if_pos z, nI_clamp (by omega), a22 i z1, show (304 : Int32) = nI 304 from rfl, nI_add, gIn_nI (by omega) (by omega), nI_clamp (by omega), hM.2.2.2.1 i z1]
    exact ⟨_, f1, f2⟩
  · rw [if_neg z, if_neg z]
    rcases hl_cases t1 (by omega) t7 x2 with ⟨a, z3, rfl, e5, e6⟩ | ⟨e5, e6⟩
    rotate_left
    · rw [e5, e6, bd1_s, bd1_s, if_pos rfl, if_pos rfl, bnd_eq, if_pos rfl]
      rcases hn_cases hp (by omega) x1 with ⟨i, z1, rfl, e1, e2⟩ | ⟨e1, e2⟩
      · rw [e2, bd1_s, if_neg one]; exact ⟨_, rfl, rfl⟩
      · rw [e2, bd1_s, if_pos rfl]; exact ⟨_, rfl, rfl⟩
    rw [e5, e6, bd1_s, bd1_s, if_neg one, if_neg one, bnd_eq, if_neg one]
    rcases hn_cases hp (by omega) x1 with ⟨i, z1, rfl, e1, e2⟩ | ⟨e1, e2⟩
    rotate_left
    · rw [e1, e2, bd1_s, bd1_s, if_pos rfl, if_pos rfl]; exact ⟨_, rfl, rfl⟩
    rw [e1, e2, bd1_s, bd1_s, if_neg one, if_neg one, f_Mo_cell_J30, hM.2.2.1]
    rcases hn_cases hq (by omega) x3 with ⟨k, z2, rfl, e3, e4⟩ | ⟨e3, e4⟩
    rotate_left
    · rw [e3, e4, bd1_s, bd1_s, if_pos rfl, if_pos rfl]; exact ⟨_, rfl, rfl⟩
    have hf := fitP i z1 k z2
    obtain ⟨w1, w2⟩ := hP _ (List.getElem_mem z1)
    obtain ⟨f1, f2⟩ := fin (P[i] ++ [a]) k z2 (wle_app.mpr ⟨hT.1 _ (List.getElem_mem z1), wle_one.mpr z3⟩) (by rw [List.length_append, List.length_singleton]; omega)
    rw [e3, e4, bd1_s, bd1_s, if_neg one, if_neg one, gIn_nI (by omega) (by omega)]
    simp only [bnd_eq]
    rw [if_neg z, if_neg z, nI_clamp (by omega), a22 i z1, s_Ws_append w1 (by omega) w2, bd1_s, show (304 : Int32) = nI 304 from rfl, nI_add, gIn_nI (by omega) (by omega), nI_clamp (by omega), hM.2.2.2.1 i z1, s_Mo_longer' (by omega), bd1_s]
    exact ⟨_, f1, f2⟩
theorem s_hypothesis (h : RW tS tL tM tF lc lv mode budget formed ce corr dec qn E tl pn pl pv sn sl sv kn bi hs hl hm hf rep m w) (x1 x2 : Int32) : ∃ r, f_TL_hypothesis x1 x2 tL hs hm hf rep = some r ∧ f_Mo_hypothesis x1 x2 m = some r := by
  obtain ⟨sz, le, b, n, mo, szh, al, L, tm, tf, ml, mf, re, P, S, hR⟩ := h
  obtain ⟨t1, t2, t3, rfl, rfl, t6, t7, -⟩ := RA_RT hR
  obtain ⟨-, -, -, -, -, -, -, -, -, -, -, -, -, -, -, -, -, -, -, -, -, -, -, -, -, -, -, -, rfl, h2, h3, h4, h5⟩ := hR
  have one : ¬ (1 : Int32) = 0 := by decide
  rw [f_TL_hypothesis, f_Mo_hypothesis]
  -- what stands behind the test of the second argument
  have key : f_Au_hasProperty x2 (nI le) = some 0 ∨ (f_Au_hasProperty x2 (nI le) = some 1 ∧ ∃ r, (bd1 (f_Le_hasHypothesis (nI szh)) fun r_1 => if r_1 = 0 then some (-3 : Int32) else bd1 (f_Au_hasState x1 (nI szh)) fun r_2 => if r_2 = 0 then some (-1) else if x2 = 4 then gIn x1 40 (some (rep x1.toNatClampNeg)) else bd1 (f_Au_property 120 40 x1 x2 hm hf) fun r_3 => some r_3) = some r ∧ f_Mo_hypothesis_J25 x1 x2 m = some r) := by
    rw [s_hasHyp h3]
    by_cases hz : szh = 0
    · subst hz
      have : f_Mo_hypothesis_J25 x1 x2 m = some (-3) := by rw [f_Mo_hypothesis_J25, h2]; rfl
      rcases pr_cases t1 t2 t7 x2 with ⟨a, z2, rfl, g1, -⟩ | ⟨rfl, g1⟩ | ⟨rfl, g1⟩ | ⟨g1, g2⟩
      · exact Or.inr ⟨g1, _, rfl, this⟩
      · exact Or.inr ⟨g1, _, rfl, this⟩
      · exact Or.inr ⟨g1, _, rfl, this⟩
      · exact Or.inl g1
    · obtain ⟨u1, u2, u3, u4, u5, u6, u7, u8, u9⟩ := h5 (by omega)
      rw [if_neg hz, bd1_s, if_neg one, f_Mo_hypothesis_J25, h2, if_neg (show ¬ nI szh = (0 : Int32) by rw [nI_eq0 (by omega)]; exact hz)]
      rcases hq_cases (N := szh) (by omega) (by omega) x1 with ⟨s, z1, rfl, e1, e2⟩ | ⟨e1, e2⟩
      · rw [e1, e2, bd1_s, bd1_s, if_neg one, if_neg one]
        rcases pr_cases t1 t2 t7 x2 with ⟨a, z2, rfl, g1, g2, g3, g4, g5, g6⟩ | ⟨rfl, g1⟩ | ⟨rfl, g1⟩ | ⟨g1, g2⟩
        · refine Or.inr ⟨g1, ?_⟩
          rw [if_neg g6, if_neg g3, f_Au_property, if_neg g5, f_Au_next, ix3, gIn_nI (by omega) (by omega), nI_clamp (by omega), bd1_s, bd1_s, show (361 : Int32) = nI 361 from rfl, ix3o, gIn_nI (by omega) (by omega), nI_clamp (by omega), u2 _ (by omega), u7 s a z1 z2]
          exact ⟨_, rfl, rfl⟩
        · refine Or.inr ⟨g1, ?_⟩
          rw [if_neg (show ¬ (3 : Int32) = 4 by decide), if_pos (show (3 : Int32) ≤ 3 by decide), if_pos rfl, f_Au_property, if_pos rfl, gIn_nI (by omega) (by omega), nI_clamp (by omega), bd1_s, show (481 : Int32) = nI 481 from rfl, nI_add, gIn_nI (by omega) (by omega), nI_clamp (by omega), u3 s (by omega), u8 s z1]
          exact ⟨_, rfl, rfl⟩
        · refine Or.inr ⟨g1, ?_⟩
          rw [if_pos rfl, if_pos (show (3 : Int32) ≤ 4 by decide), if_neg (show ¬ (4 : Int32) = 3 by decide), gIn_nI (by omega) (by omega), nI_clamp (by omega), show (521 : Int32) = nI 521 from rfl, nI_add, gIn_nI (by omega) (by omega), nI_clamp (by omega), (u5 s z1).1, u9 s z1]
          exact ⟨_, rfl, rfl⟩
        · exact Or.inl g1
      · rw [e1, e2, bd1_s, bd1_s, if_pos rfl, if_pos rfl]
        rcases pr_cases t1 t2 t7 x2 with ⟨a, z2, rfl, g1, -⟩ | ⟨rfl, g1⟩ | ⟨rfl, g1⟩ | ⟨g1, g2⟩
        · exact Or.inr ⟨g1, _, rfl, rfl⟩
        · exact Or.inr ⟨g1, _, rfl, rfl⟩
        · exact Or.inr ⟨g1, _, rfl, rfl⟩
        · exact Or.inl g1
  rcases pr_cases t1 t2 t7 x2 with ⟨a, z2, rfl, g1, g2, g3, g4, g5, g6⟩ | ⟨rfl, g1⟩ | ⟨rfl, g1⟩ | ⟨g1, g2⟩
  · rcases key with k | ⟨-, k⟩
    · rw [g1] at k; cases k
    · rw [g1, g2, bd1_s, bd1_s, if_neg one, if_neg one, if_neg g3, g4, bd1_s, if_neg one]
      exact k
  · rcases key with k | ⟨-, k⟩
    · rw [g1] at k; cases k
    · rw [g1, bd1_s, if_neg one, show f_Mo_in 3 0 4 = some 1 from rfl, bd1_s, if_neg one, if_pos (show (3 : Int32) ≤ 3 by decide)]
      exact k
  · rcases key with k | ⟨-, k⟩
    · rw [g1] at k; cases k
    · rw [g1, bd1_s, if_neg one, show f_Mo_in 4 0 4 = some 1 from rfl, bd1_s, if_neg one, if_pos (show (3 : Int32) ≤ 4 by decide)]
      exact k
  · rw [g1, bd1_s, if_pos rfl]
    rcases g2 with g2 | ⟨g2, g3, g4⟩
    · rw [g2, bd1_s, if_pos rfl]; exact ⟨_, rfl, rfl⟩
    · rw [g2, bd1_s, if_neg one, if_neg g3, g4, bd1_s, if_pos rfl]; exact ⟨_, rfl, rfl⟩
theorem s_counterexample (h : RW tS tL tM tF lc lv mode budget formed ce corr dec qn E tl pn pl pv sn sl sv kn bi hs hl hm hf rep m w) (x : Int32) : ∃ r, f_TL_counterexample x ce = some r ∧ f_Mo_counterexample x m = some r := by
  obtain ⟨sz, le, b, n, mo, szh, al, L, tm, tf, ml, mf, re, P, S, hR⟩ := h
  obtain ⟨-, -, -, -, -, -, -, -, -, -, -, -, -, -, hC, -⟩ := hR
  rw [f_TL_counterexample, f_Mo_counterexample]
  by_cases h1 : (-1 : Int32) ≤ x
  · rw [if_pos h1, if_pos h1]
    rcases hC with ⟨e1, e2⟩ | ⟨u, e1, e2, e3, e4, e5⟩
    · rw [if_pos e1, if_pos e2]; exact ⟨_, rfl, rfl⟩
    · have hs := eX_small e1 (by omega)
      rw [e3, if_neg (lN_m1 (by omega)), e4, if_neg (show ¬ nI u.length = (-1 : Int32) by rw [fl, mI_r, nm_eq (by omega) (by omega) (by omega)]; exact id), s_Ws_letterOrLength e1 e2 (le_m1 h1), bd1_s, wlol]
      by_cases z : x = -1
      · rw [if_pos z, if_pos z]; exact ⟨_, rfl, rfl⟩
      · rw [if_neg z, if_neg z]
        by_cases y : nI u.length ≤ x
        · rw [if_pos y, if_pos y]; exact ⟨_, rfl, rfl⟩
        · rw [if_neg y, if_neg y]
          obtain ⟨k, hk, rfl⟩ := nI_of (x := x) (Int32.not_lt.mpr (neg1_lt (le_m1 h1) z))
          rw [nI_leI (by omega) hk] at y
          rw [show (345 : Int32) = nI 345 from rfl, nI_add, gIn_nI (by omega) (by omega), nI_clamp (by omega), nI_clamp (by omega), e5 k (by omega), List.getD_eq_getElem?_getD, List.getElem?_eq_getElem (by omega)]
          exact ⟨_, rfl, rfl⟩
  · rw [if_neg h1, if_neg h1]; exact ⟨_, rfl, rfl⟩
theorem os {c : Prop} [Decidable c] {a : Int32} {b : Option Int32} (h : ∃ r, b = some r ∧ b = some r) : ∃ r, (if c then some a else b) = some r ∧ (if c then some a else b) = some r := by
  by_cases z : c
  · rw [if_pos z]; exact ⟨a, rfl, rfl⟩
  · rw [if_neg z]; exact h
theorem s_count (h : RW tS tL tM tF lc lv mode budget formed ce corr dec qn E tl pn pl pv sn sl sv kn bi hs hl hm hf rep m w) (hX : RX tn tx tn2 tx2) (x : Int32) : ∃ r, f_TL_count x tn lc tS tL tF mode budget corr dec qn pn sn hs = some r ∧ f_Mo_count x tn2 m = some r := by
  obtain ⟨sz, le, b, n, mo, szh, al, L, tm, tf, ml, mf, re, P, S, hR⟩ := h
  obtain ⟨t1, t2, t3, -, -, t6, t7, t8, t9, t10, t11, t12, ⟨L2, k1, k2, k3, k4, k5, k6⟩, t19, t20, t21, t22, t23, t24⟩ := RA_RT hR
  obtain ⟨a1, rfl, rfl, a4, rfl, a6, hA, rfl, a9, a10, rfl, rfl, rfl, a14, a15, rfl, rfl, a18, rfl, rfl, rfl, a22, rfl, rfl, a25, hT, hM, hC, rfl, h2, h3, h4, h5⟩ := hR
  obtain ⟨hal, hXX, ⟨Q, -, -, -, -, hQ, -⟩, q4, q5, q6, -⟩ := hA
  obtain ⟨T, g1, g2, rfl, rfl, g5, g6⟩ := hX
  rw [f_TL_count, f_Mo_count, s_Au_countFinals (M := 8) t3 (by decide) t20, s_Mo_finals t3 t6 t22, t6, t7, k5, k2, a9, q4, hQ, hM.2.1, hM.2.2.1, h2, bd1_s, bnd_eq, show (if m 43 = 0 then (0 : Int32) else 1) = m 43 by rcases a18 with q | q <;> rw [q] <;> decide]
  exact os (os (os (os (os (os (os (os (os (os (os (os (os ⟨_, rfl, rfl⟩))))))))))))
end

/-! ===== learning: steps in a row ===== -/
theorem s_Mo_in (v a b : Int32) : f_Mo_in v a b = some (if v < a ∨ b < v then 0 else 1) := by
  rw [f_Mo_in]
  by_cases h : v < a
  · rw [if_pos h, if_pos (Or.inl h)]
  · rw [if_neg h]
    by_cases h2 : b < v
    · rw [if_pos h2, if_pos (Or.inr h2)]
    · rw [if_neg h2, if_neg (fun q => q.elim h h2)]
theorem s_learn_loop {tS tL : Int32} {tM tF : Nat → Int32} {lc : Int32} {lv : Nat → Int64} {mode budget tl : Int32} {N : Nat} (hN : N ≤ 1000) :
    ∀ (n k : Nat) (r formed : Int32) (ce : Int64) (corr dec qn : Int32) (E : Nat → Int64) (pn pl : Int32) (pv : Nat → Int64) (sn sl : Int32) (sv : Nat → Int64) (kn bi : Nat → Int32) (hs hl : Int32) (hm hf rep m : Nat → Int32) (w : Nat → Int64) (len qd : Int32) (se qu og ar lt q2 p2 b2 s2 pa row so : Nat → Int32) (st mos : Int32) (mi : Int64) (mo2 : Nat → Int64), k ≤ N → N - k < n →
      RW tS tL tM tF lc lv mode budget formed ce corr dec qn E tl pn pl pv sn sl sv kn bi hs hl hm hf rep m w →
      SO tS tL tM tF lc lv mode budget tl (itr (fun _ _ _ _ _ _ _ _ _ _ _ _ _ _ _ _ _ _ _ _ _ _ _ _ _ _ _ _ => none) (f_TL_learn_L19 lc tL tM tF lv mode budget tl (nI N) (fun x2 x3 a1 a2 a3 a4 a5 a6 a7 a8 a9 a10 a11 a12 a13 a14 a15 a16 a17 a18 a19 a20 a21 a22 a23 a24 a25 a26 => some (x2, a1, a2, a3, a4, a5, a6, a7, a8, a9, a10, a11, a12, a13, a14, a15, a16, a17, a18, a19, a20, a21, a22, a23, a24, a25, a26))) n r (nI k) E qn pv pn pl sv sn sl kn bi hm hf hs hl rep formed ce corr dec se qu og ar lt len qd)
        (itr (fun _ _ _ _ _ _ _ _ _ _ _ _ _ _ _ => none) (f_Mo_learn_L18 (nI N) (fun x2 x3 a1 a2 a3 a4 a5 a6 a7 a8 a9 a10 a11 a12 a13 => some (x2, a1, a2, a3, a4, a5, a6, a7, a8, a9, a10, a11, a12, a13))) n r (nI k) m w q2 p2 b2 s2 pa st row mi mo2 mos so) := by
  intro n
  induction n with
  | zero => intro k r formed ce corr dec qn E pn pl pv sn sl sv kn bi hs hl hm hf rep m w len qd se qu og ar lt q2 p2 b2 s2 pa row so st mos mi mo2 _ h; omega
  | succ n ih =>
    intro k r formed ce corr dec qn E pn pl pv sn sl sv kn bi hs hl hm hf rep m w len qd se qu og ar lt q2 p2 b2 s2 pa row so st mos mi mo2 hk hn hR
    rw [itr_s, itr_s, f_TL_learn_L19, f_Mo_learn_L18]
    rcases Nat.lt_or_ge k N with z | z
    · rw [if_neg (show ¬ nI N ≤ nI k from nI_ge z (by omega)), if_neg (show ¬ nI N ≤ nI k from nI_ge z (by omega)), s_Mo_in, bd1_s]
      by_cases h1 : r < 1
      · rw [if_pos h1, if_pos (show (if r < 1 ∨ 5 < r then (0 : Int32) else 1) = 0 from if_pos (Or.inl h1))]
        exact ⟨_, _, _, _, _, _, _, _, _, _, _, _, _, _, _, _, _, _, _, _, _, _, _, _, _, _, _, _, _, _, _, _, _, _, _, _, _, _, _, _, rfl, rfl, hR⟩
      · rw [if_neg h1]
        by_cases h2 : 5 < r
        · rw [if_pos h2, if_pos (show (if r < 1 ∨ 5 < r then (0 : Int32) else 1) = 0 from if_pos (Or.inr h2))]
          exact ⟨_, _, _, _, _, _, _, _, _, _, _, _, _, _, _, _, _, _, _, _, _, _, _, _, _, _, _, _, _, _, _, _, _, _, _, _, _, _, _, _, rfl, rfl, hR⟩
        · rw [if_neg h2, if_neg (show ¬ (if r < 1 ∨ 5 < r then (0 : Int32) else 1) = 0 by rw [if_neg (fun q => q.elim h1 h2)]; decide)]
          obtain ⟨r', E', qn', pv', pn', pl', sv', sn', sl', kn', bi', hm', hf', hs', hl', rep', formed', ce', corr', dec', se', qu', og', ar', lt', len', qd', m', w', q2', p2', b2', s2', pa', st', row', mi', mo2', mos', so', e1, e2, e3⟩ := s_step hR len qd se qu og ar lt q2 p2 b2 s2 pa row so st mos mi mo2
          rw [e1, e2, bd27_s, bd14_s]
          simp only [bnd_eq]
          rw [show nI k + 1 = nI (k + 1) from nI_1 k]
          exact ih (k + 1) r' formed' ce' corr' dec' qn' E' pn' pl' pv' sn' sl' sv' kn' bi' hs' hl' hm' hf' rep' m' w' len' qd' se' qu' og' ar' lt' q2' p2' b2' s2' pa' row' so' st' mos' mi' mo2' (by omega) (by omega) e3
    · rw [if_pos (show nI N ≤ nI k from nI_le z (by omega)), if_pos (show nI N ≤ nI k from nI_le z (by omega))]
      exact ⟨_, _, _, _, _, _, _, _, _, _, _, _, _, _, _, _, _, _, _, _, _, _, _, _, _, _, _, _, _, _, _, _, _, _, _, _, _, _, _, _, rfl, rfl, hR⟩
theorem in_nI {a b : Nat} {x : Int32} (hb : b < 2 ^ 31) (h1 : ¬ x < nI a) (h2 : x ≤ nI b) (ha : a < 2 ^ 31) : ∃ k, a ≤ k ∧ k ≤ b ∧ x = nI k := by
  rw [fa_lt, nI_toInt ha] at h1
  rw [fa_le, nI_toInt hb] at h2
  have h0 : ¬ x < 0 := by
    rw [fa_lt]
    have e0 : (0 : Int32).toInt = 0 := by decide
    omega
  obtain ⟨k, hk, rfl⟩ := nI_of (x := x) h0
  rw [nI_toInt hk] at h1 h2
  exact ⟨k, by omega, by omega, rfl⟩
theorem s_learn {tS tL : Int32} {tM tF : Nat → Int32} {lc : Int32} {lv : Nat → Int64} {mode budget formed : Int32} {ce : Int64} {corr dec qn : Int32} {E : Nat → Int64} {tl pn pl : Int32} {pv : Nat → Int64} {sn sl : Int32} {sv : Nat → Int64} {kn bi : Nat → Int32} {hs hl : Int32} {hm hf rep m : Nat → Int32} {w : Nat → Int64}
    (h : RW tS tL tM tF lc lv mode budget formed ce corr dec qn E tl pn pl pv sn sl sv kn bi hs hl hm hf rep m w) (x : Int32)
    (len qd : Int32) (se qu og ar lt q2 p2 b2 s2 pa row so : Nat → Int32) (st mos : Int32) (mi : Int64) (mo2 : Nat → Int64) :
    SO tS tL tM tF lc lv mode budget tl (f_TL_learn x lc tL tM tF lv mode budget formed ce corr dec qn E tl pn pl pv sn sl sv kn bi hs hl hm hf rep len qd se qu og ar lt) (f_Mo_learn x st mi mos m w q2 p2 b2 s2 pa row mo2 so) := by
  rw [f_TL_learn, f_Mo_learn, s_Mo_in, bd1_s]
  by_cases h1 : x < 1
  · rw [if_pos h1, if_pos (show (if x < 1 ∨ 1000 < x then (0 : Int32) else 1) = 0 from if_pos (Or.inl h1))]
    exact ⟨_, _, _, _, _, _, _, _, _, _, _, _, _, _, _, _, _, _, _, _, _, _, _, _, _, _, _, _, _, _, _, _, _, _, _, _, _, _, _, _, rfl, rfl, h⟩
  · rw [if_neg h1]
    by_cases h2 : x ≤ 1000
    · have h2' : ¬ 1000 < x := Int32.not_lt.mpr h2
      rw [if_pos h2, if_neg (show ¬ (if x < 1 ∨ 1000 < x then (0 : Int32) else 1) = 0 by rw [if_neg (fun q => q.elim h1 h2')]; decide)]
      obtain ⟨N, -, hN, rfl⟩ := in_nI (a := 1) (b := 1000) (by decide) h1 h2 (by decide)
      exact s_learn_loop hN FU 0 1 formed ce corr dec qn E pn pl pv sn sl sv kn bi hs hl hm hf rep m w len qd se qu og ar lt q2 p2 b2 s2 pa row so st mos mi mo2 (Nat.zero_le _) (by rw [FU_eq]; omega) h
    · have h2' : 1000 < x := Int32.not_le.mp h2
      rw [if_neg h2, if_pos (show (if x < 1 ∨ 1000 < x then (0 : Int32) else 1) = 0 from if_pos (Or.inr h2'))]
      exact ⟨_, _, _, _, _, _, _, _, _, _, _, _, _, _, _, _, _, _, _, _, _, _, _, _, _, _, _, _, _, _, _, _, _, _, _, _, _, _, _, _, rfl, rfl, h⟩
theorem s_TL_step {tS tL : Int32} {tM tF : Nat → Int32} {lc : Int32} {lv : Nat → Int64} {mode budget formed : Int32} {ce : Int64} {corr dec qn : Int32} {E : Nat → Int64} {tl pn pl : Int32} {pv : Nat → Int64} {sn sl : Int32} {sv : Nat → Int64} {kn bi : Nat → Int32} {hs hl : Int32} {hm hf rep m : Nat → Int32} {w : Nat → Int64}
    (h : RW tS tL tM tF lc lv mode budget formed ce corr dec qn E tl pn pl pv sn sl sv kn bi hs hl hm hf rep m w)
    (len qd : Int32) (se qu og ar lt q2 p2 b2 s2 pa row so : Nat → Int32) (st mos : Int32) (mi : Int64) (mo2 : Nat → Int64) :
    SO tS tL tM tF lc lv mode budget tl (f_TL_step lc tL tM tF lv mode budget formed ce corr dec qn E tl pn pl pv sn sl sv kn bi hs hl hm hf rep len qd se qu og ar lt) (f_Mo_step st mi mos m w q2 p2 b2 s2 pa row mo2 so) := by
  obtain ⟨r', E', qn', pv', pn', pl', sv', sn', sl', kn', bi', hm', hf', hs', hl', rep', formed', ce', corr', dec', se', qu', og', ar', lt', len', qd', m', w', q2', p2', b2', s2', pa', st', row', mi', mo2', mos', so', e1, e2, e3⟩ := s_step h len qd se qu og ar lt q2 p2 b2 s2 pa row so st mos mi mo2
  rw [f_TL_step, e1, e2, bd27_s]
  exact ⟨_, _, _, _, _, _, _, _, _, _, _, _, _, _, _, _, _, _, _, _, _, _, _, _, _, _, _, _, _, _, _, _, _, _, _, _, _, _, _, _, rfl, rfl, e3⟩

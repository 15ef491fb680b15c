/-! ===== reset, setMove, setFinal, begin: on both sides ===== -/
theorem rng {N : Nat} (h0 : 0 < N) (hN : N < 1000) (x : Int32) : (∃ k, k < N ∧ x = nI k ∧ ¬ x < 0 ∧ ¬ nI N ≤ x ∧ ¬ nI N - 1 < x) ∨ ((x < 0 ∨ nI N ≤ x) ∧ (x < 0 ∨ nI N - 1 < x)) := by
  have e : nI N - 1 = nI (N - 1) := pk_sub (b := 1) h0
  rw [e]
  by_cases h1 : x < 0
  · exact Or.inr ⟨Or.inl h1, Or.inl h1⟩
  · obtain ⟨k, hk, rfl⟩ := nI_of h1
    by_cases h2 : k < N
    · exact Or.inl ⟨k, h2, rfl, h1, nI_ge h2 (by omega), by rw [nI_ltI (by omega) hk]; omega⟩
    · exact Or.inr ⟨Or.inr (nI_le (by omega) hk), Or.inr (by rw [nI_ltI (by omega) hk]; omega)⟩
theorem hs_cases {sz : Nat} (h0 : 0 < sz) (hsz : sz < 1000) {m : Nat → Int32} (hm : m 0 = nI sz) (x : Int32) : (∃ k, k < sz ∧ x = nI k ∧ f_Au_hasState x (nI sz) = some 1 ∧ f_Mo_isState x m = some 1) ∨ (f_Au_hasState x (nI sz) = some 0 ∧ f_Mo_isState x m = some 0) := by
  rw [f_Au_hasState, f_Mo_isState, hm, s_Mo_in, bd1_s]
  rcases rng h0 hsz x with ⟨k, h1, h2, h3, h4, h5⟩ | ⟨h1, h2⟩
  · refine Or.inl ⟨k, h1, h2, ?_, ?_⟩
    · rw [if_neg h3, if_neg h4]
    · rw [if_neg (fun q => q.elim h3 h5)]; rfl
  · refine Or.inr ⟨?_, by rw [if_pos h2]; rfl⟩
    by_cases z : x < 0
    · rw [if_pos z]
    · rw [if_neg z, if_pos (h1.resolve_left z)]
theorem hl_cases {le : Nat} (h0 : 0 < le) (hle : le < 1000) {m : Nat → Int32} (hm : m 1 = nI le) (x : Int32) : (∃ k, k < le ∧ x = nI k ∧ f_Au_hasLetter x (nI le) = some 1 ∧ f_Mo_isLetter x m = some 1) ∨ (f_Au_hasLetter x (nI le) = some 0 ∧ f_Mo_isLetter x m = some 0) := by
  rw [f_Au_hasLetter, f_Mo_isLetter, hm, s_Mo_in, bd1_s]
  rcases rng h0 hle x with ⟨k, h1, h2, h3, h4, h5⟩ | ⟨h1, h2⟩
  · refine Or.inl ⟨k, h1, h2, ?_, ?_⟩
    · rw [if_neg h3, if_neg h4]
    · rw [if_neg (fun q => q.elim h3 h5)]; rfl
  · refine Or.inr ⟨?_, by rw [if_pos h2]; rfl⟩
    by_cases z : x < 0
    · rw [if_pos z]
    · rw [if_neg z, if_pos (h1.resolve_left z)]
/-- how many are final -/
def cs (f : Nat → Nat) : Nat → Nat
  | 0 => 0
  | n + 1 => cs f n + f n
theorem s_Au_countFinals {M sz : Nat} {f : Nat → Nat} {g : Nat → Int32} (hM : sz ≤ M) (hM' : M < 1000) (hg : rI M f g) : f_Au_countFinals M (nI sz) g = some (nI (cs f sz)) := by
  have : ∀ (n k : Nat), k ≤ sz → sz - k < n → itr (fun _ _ => none) (f_Au_countFinals_L4 M (nI sz) g (fun x1 _ => some x1)) n (nI (cs f k)) (nI k) = some (nI (cs f sz)) := by
    intro n
    induction n with
    | zero => intro k _ h; omega
    | succ n ih =>
      intro k hk hn
      rw [itr_s, f_Au_countFinals_L4]
      rcases Nat.lt_or_ge k sz with z | z
      · rw [if_neg (nI_ge z (by omega)), gIn_nI (by omega) (by omega), nI_clamp (by omega), hg k (by omega)]
        simp only [bnd_eq]
        rw [nI_add, show nI k + 1 = nI (k + 1) from nI_1 k]
        exact ih (k + 1) (by omega) (by omega)
      · rw [if_pos (nI_le z (by omega)), show k = sz by omega]
  exact this FU 0 (Nat.zero_le _) (by rw [FU_eq]; omega)
theorem s_Mo_finals {sz : Nat} {f : Nat → Nat} {m : Nat → Int32} (hM : sz ≤ 8) (hm : m 0 = nI sz) (hg : rIo 26 8 f m) : f_Mo_finals m = some (nI (cs f sz)) := by
  have : ∀ (n k : Nat), k ≤ sz → sz - k < n → itr (fun _ _ => none) (f_Mo_finals_L4 m (fun x1 _ => some x1)) n (nI (cs f k)) (nI k) = some (nI (cs f sz)) := by
    intro n
    induction n with
    | zero => intro k _ h; omega
    | succ n ih =>
      intro k hk hn
      rw [itr_s, f_Mo_finals_L4, hm]
      rcases Nat.lt_or_ge k sz with z | z
      · rw [if_neg (nI_ge z (by omega)), fl, nI_add, gIn_nI (show 26 + k < 561 by omega) (by omega), nI_clamp (by omega), show m (26 + k) = nI (f k) from hg k (by omega)]
        simp only [bnd_eq]
        rw [nI_add, show nI k + 1 = nI (k + 1) from nI_1 k]
        exact ih (k + 1) (by omega) (by omega)
      · rw [if_pos (nI_le z (by omega)), show k = sz by omega]
  exact this FU 0 (Nat.zero_le _) (by rw [FU_eq]; omega)
theorem s_Mo_reset_L46 {m : Nat → Int32} {K : Int32 → (Nat → Int32) → Option (Int32 × (Nat → Int32) × (Nat → Int64))} : ∀ (n k : Nat), 2 ≤ k → k ≤ 34 → 34 - k < n → itr (fun _ _ => none) (f_Mo_reset_L46 K) n (nI k) (fun j => if 2 ≤ j ∧ j < k then 0 else m j) = K (nI 34) (fun j => if 2 ≤ j ∧ j < 34 then 0 else m j) := by
  intro n
  induction n with
  | zero => intro k _ _ h; omega
  | succ n ih =>
    intro k h2 hk hn
    rw [itr_s, f_Mo_reset_L46]
    rcases Nat.lt_or_ge k 34 with z | z
    · rw [if_neg (show ¬ (34 : Int32) ≤ nI k from nI_ge (b := 34) z (by omega)), gIn_nI (by omega) (by omega), nI_clamp (by omega)]
      simp only [bnd_eq]
      rw [show nI k + 1 = nI (k + 1) from nI_1 k, ← ih (k + 1) (by omega) (by omega) (by omega)]
      refine congrArg (itr (fun _ _ => none) (f_Mo_reset_L46 K) n (nI (k + 1))) (funext fun j => ?_)
      by_cases e : j = k
      · subst e
        rw [pk_us, if_pos (by omega)]
      · rw [pk_un e]
        by_cases q : 2 ≤ j ∧ j < k
        · rw [if_pos q, if_pos (by omega)]
        · rw [if_neg q, if_neg (by omega)]
    · have : k = 34 := by omega
      subst this
      rw [if_pos (show (34 : Int32) ≤ nI 34 by decide)]
section
variable {tS tL : Int32} {tM tF : Nat → Int32} {lc : Int32} {lv : Nat → Int64} {mode budget formed : Int32} {ce : Int64} {corr dec qn : Int32} {E : Nat → Int64} {tl pn pl : Int32} {pv : Nat → Int64} {sn sl : Int32} {sv : Nat → Int64} {kn bi : Nat → Int32} {hs hl : Int32} {hm hf rep m : Nat → Int32} {w : Nat → Int64}
theorem s_reset (h : RW tS tL tM tF lc lv mode budget formed ce corr dec qn E tl pn pl pv sn sl sv kn bi hs hl hm hf rep m w) (x1 x2 : Int32) :
    ∃ r tM' tF' tS' tL' lc' qn' pv' pn' pl' sv' sn' sl' kn' bi' tl' hm' hf' hs' hl' fo' ce' co' de' m' w', f_TL_reset x1 x2 lc tS tL tM tF formed ce corr dec qn tl pn pl pv sn sl sv kn bi hs hl hm hf = some (r, tM', tF', tS', tL', lc', qn', pv', pn', pl', sv', sn', sl', kn', bi', tl', hm', hf', hs', hl', fo', ce', co', de') ∧ f_Mo_reset x1 x2 m w = some (r, m', w') ∧ RW tS' tL' tM' tF' lc' lv mode budget fo' ce' co' de' qn' E tl' pn' pl' pv' sn' sl' sv' kn' bi' hs' hl' hm' hf' rep m' w' := by
  rw [f_TL_reset, f_Mo_reset, s_Mo_in, bd1_s]
  have bad : ∀ (c : Option (Int32 × (Nat → Int32) × (Nat → Int64))), c = some (-2, m, w) → ∃ r tM' tF' tS' tL' lc' qn' pv' pn' pl' sv' sn' sl' kn' bi' tl' hm' hf' hs' hl' fo' ce' co' de' m' w', some ((-2 : Int32), tM, tF, tS, tL, lc, qn, pv, pn, pl, sv, sn, sl, kn, bi, tl, hm, hf, hs, hl, formed, ce, corr, dec) = some (r, tM', tF', tS', tL', lc', qn', pv', pn', pl', sv', sn', sl', kn', bi', tl', hm', hf', hs', hl', fo', ce', co', de') ∧ c = some (r, m', w') ∧ RW tS' tL' tM' tF' lc' lv mode budget fo' ce' co' de' qn' E tl' pn' pl' pv' sn' sl' sv' kn' bi' hs' hl' hm' hf' rep m' w' := fun c hc => ⟨_, _, _, _, _, _, _, _, _, _, _, _, _, _, _, _, _, _, _, _, _, _, _, _, _, _, rfl, hc, h⟩
  by_cases h1 : x1 < 1
  · rw [if_pos h1]
    exact bad _ (if_pos (if_pos (Or.inl h1)))
  rw [if_neg h1]
  by_cases h2 : 8 < x1
  · rw [if_pos h2]
    exact bad _ (if_pos (if_pos (Or.inr h2)))
  rw [if_neg h2, if_neg (show ¬ (if x1 < 1 ∨ 8 < x1 then (0 : Int32) else 1) = 0 by rw [if_neg (fun q => q.elim h1 h2)]; decide), s_Mo_in, bd1_s]
  by_cases h3 : x2 < 1
  · rw [if_pos h3]
    exact bad _ (if_pos (if_pos (Or.inl h3)))
  rw [if_neg h3]
  by_cases h4 : x2 ≤ 3
  · have h4' : ¬ 3 < x2 := Int32.not_lt.mpr h4
    rw [if_pos h4, if_neg (show ¬ (if x2 < 1 ∨ 3 < x2 then (0 : Int32) else 1) = 0 by rw [if_neg (fun q => q.elim h3 h4')]; decide)]
    obtain ⟨sz, z1, z2, rfl⟩ := in_nI (a := 1) (b := 8) (by decide) h1 (Int32.not_lt.mp h2) (by decide)
    obtain ⟨le, z3, z4, rfl⟩ := in_nI (a := 1) (b := 3) (by decide) h3 h4 (by decide)
    simp only [bnd_eq]
    rw [f_Au_shape, s_Ar_fill (by decide), bd1_s, s_Ar_fill (by decide), bd1_s, bd4_s]
    have hl := s_Mo_reset_L46 (m := upd (upd (upd m 0 (nI sz)) 1 (nI le)) 34 0) (K := fun x3 v_m_4 => (bd2 (f_Mo_begins v_m_4 w) (fun v_m_5 v_w_1 => (some (nI sz, v_m_5, v_w_1))))) FU 2 (by omega) (by omega) (by rw [FU_eq]; omega)
    have h0 : (fun j => if 2 ≤ j ∧ j < 2 then (0 : Int32) else upd (upd (upd m 0 (nI sz)) 1 (nI le)) 34 0 j) = upd (upd (upd m 0 (nI sz)) 1 (nI le)) 34 0 := funext fun j => if_neg (by omega)
    rw [h0] at hl
    rw [show (2 : Int32) = nI 2 from rfl, hl]
    obtain ⟨sz0, le0, b, n, mo, szh, al, L, tm, tf, ml, mf, re, P, S, hR⟩ := h
    obtain ⟨a1, a2, a3, a4, a5, a6, ⟨b1, b2, b3, b4, b5, b6, b7⟩, a8, a9, a10, a11, a12⟩ := hR
    obtain ⟨qn', pv', pn', pl', sv', sn', sl', kn', bi', tl', hm', hf', hs', hl', fo', ce', co', de', m', w', e1, e2, e3, e4⟩ := s_new (sz := sz) (le := le) (b := b) (mo := mo) (L := []) (tm := fun _ => 0) (tf := fun _ => 0) (tM := fun j => if j < 24 then 0 else tM j) (tF := fun j => if j < 8 then 0 else tF j) (lv := lv) (mode := mode) (budget := budget) (w := w) (m := fun j => if 2 ≤ j ∧ j < 34 then 0 else upd (upd (upd m 0 (nI sz)) 1 (nI le)) 34 0 j) ⟨by omega, z4, z2, rfl, rfl, rfl, rfl, rfl, List.nodup_nil, (fun _ h => by cases h), by decide, (fun k hk => absurd hk (Nat.not_lt_zero _)), ⟨[], (fun _ h => by cases h), rfl, fun _ => Iff.rfl, List.nodup_nil, rfl, fun k hk => absurd hk (Nat.not_lt_zero _)⟩, (fun k hk => if_pos hk), (fun k hk => if_pos hk), (fun k hk => if_pos (by omega)), (fun k hk => if_pos (by omega)), ⟨by omega, fun _ _ _ _ => (show 0 < sz by omega)⟩, fun _ _ => Nat.zero_le 1⟩ a8 (by rw [← a9]; rfl) a10 a11 (by rw [← b4]; rfl) b6 E pv sv kn bi hm hf rep
    rw [e1, bd18_s, e2, bd2_s]
    exact ⟨_, _, _, _, _, _, _, _, _, _, _, _, _, _, _, _, _, _, _, _, _, _, _, _, _, _, rfl, rfl, e4⟩
  · have h4' : 3 < x2 := Int32.not_le.mp h4
    rw [if_neg h4]
    exact bad _ (if_pos (if_pos (Or.inr h4')))
theorem s_begin (h : RW tS tL tM tF lc lv mode budget formed ce corr dec qn E tl pn pl pv sn sl sv kn bi hs hl hm hf rep m w) (x1 x2 : Int32) :
    ∃ r qn' pv' pn' pl' sv' sn' sl' kn' bi' tl' hm' hf' hs' hl' mode' budget' fo' ce' co' de' m' w', f_TL_begin x1 x2 tL mode budget formed ce corr dec qn tl pn pl pv sn sl sv kn bi hs hl hm hf = some (r, qn', pv', pn', pl', sv', sn', sl', kn', bi', tl', hm', hf', hs', hl', mode', budget', fo', ce', co', de') ∧ f_Mo_begin x1 x2 m w = some (r, m', w') ∧ RW tS tL tM tF lc lv mode' budget' fo' ce' co' de' qn' E tl' pn' pl' pv' sn' sl' sv' kn' bi' hs' hl' hm' hf' rep m' w' := by
  rw [f_TL_begin, f_Mo_begin, s_Mo_in, bd1_s]
  have bad : ∀ (c : Option (Int32 × (Nat → Int32) × (Nat → Int64))), c = some (-2, m, w) → ∃ r qn' pv' pn' pl' sv' sn' sl' kn' bi' tl' hm' hf' hs' hl' mode' budget' fo' ce' co' de' m' w', some ((-2 : Int32), qn, pv, pn, pl, sv, sn, sl, kn, bi, tl, hm, hf, hs, hl, mode, budget, formed, ce, corr, dec) = some (r, qn', pv', pn', pl', sv', sn', sl', kn', bi', tl', hm', hf', hs', hl', mode', budget', fo', ce', co', de') ∧ c = some (r, m', w') ∧ RW tS tL tM tF lc lv mode' budget' fo' ce' co' de' qn' E tl' pn' pl' pv' sn' sl' sv' kn' bi' hs' hl' hm' hf' rep m' w' := fun c hc => ⟨_, _, _, _, _, _, _, _, _, _, _, _, _, _, _, _, _, _, _, _, _, _, _, rfl, hc, h⟩
  by_cases h1 : x1 < 0
  · rw [if_pos h1]
    exact bad _ (if_pos (if_pos (Or.inl h1)))
  rw [if_neg h1]
  by_cases h2 : 2 < x1
  · rw [if_pos h2]
    exact bad _ (if_pos (if_pos (Or.inr h2)))
  rw [if_neg h2, if_neg (show ¬ (if x1 < 0 ∨ 2 < x1 then (0 : Int32) else 1) = 0 by rw [if_neg (fun q => q.elim h1 h2)]; decide), s_Mo_in, bd1_s]
  by_cases h3 : x2 < 0
  · rw [if_pos h3]
    exact bad _ (if_pos (if_pos (Or.inl h3)))
  rw [if_neg h3]
  by_cases h4 : x2 ≤ 300
  · have h4' : ¬ 300 < x2 := Int32.not_lt.mpr h4
    rw [if_pos h4, if_neg (show ¬ (if x2 < 0 ∨ 300 < x2 then (0 : Int32) else 1) = 0 by rw [if_neg (fun q => q.elim h3 h4')]; decide)]
    obtain ⟨mo', z1, z2, rfl⟩ := in_nI (a := 0) (b := 2) (by decide) h1 (Int32.not_lt.mp h2) (by decide)
    obtain ⟨b', z3, z4, rfl⟩ := in_nI (a := 0) (b := 300) (by decide) h3 h4 (by decide)
    simp only [bnd_eq]
    obtain ⟨sz, le, b, n, mo, szh, al, L, tm, tf, ml, mf, re, P, S, hR⟩ := h
    have hT := RA_RT hR
    obtain ⟨a1, a2, a3, a4, a5, a6, a7, a8, a9, a10, a11, a12⟩ := hR
    have hT' : RT sz le L tm tf tS tL tM tF lc lv (upd (upd m 35 (nI mo')) 36 (nI b')) w := by
      obtain ⟨t1, t2, t3, t4, t5, t6, t7, t8, t9, t10, t11, t12, ⟨L2, t13, t14, t15, t16, t17, t18⟩, t19, t20, t21, t22, t23, t24⟩ := hT
      have f : ∀ x, x < 35 → upd (upd m 35 (nI mo')) 36 (nI b') x = m x := fun x hx => by rw [pk_un (by omega), pk_un (by omega)]
      exact ⟨t1, t2, t3, t4, t5, by rw [f _ (by omega), t6], by rw [f _ (by omega), t7], t8, t9, t10, t11, t12, ⟨L2, t13, t14, t15, t16, by rw [f _ (by omega), t17], t18⟩, t19, t20, fun k hk => by rw [f _ (by omega), t21 k hk], fun k hk => by rw [f _ (by omega), t22 k hk], t23, t24⟩
    obtain ⟨qn', pv', pn', pl', sv', sn', sl', kn', bi', tl', hm', hf', hs', hl', fo', ce', co', de', m', w', e1, e2, e3, e4⟩ := s_new (b := b') (mo := mo') (mode := nI mo') (budget := nI b') hT' rfl rfl z2 rfl rfl z4 E pv sv kn bi hm hf rep
    rw [e1, bd18_s, e2, bd2_s, a8, a9]
    exact ⟨_, _, _, _, _, _, _, _, _, _, _, _, _, _, _, _, _, _, _, _, _, _, _, rfl, rfl, e4⟩
  · have h4' : 300 < x2 := Int32.not_le.mp h4
    rw [if_neg h4]
    exact bad _ (if_pos (if_pos (Or.inr h4')))
end

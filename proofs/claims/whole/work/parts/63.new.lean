/-! ===== the learner begins anew, on both sides ===== -/
def RT (sz le : Nat) (L : List Wrd) (tm tf : Nat → Nat) (tS tL : Int32) (tM tF : Nat → Int32) (lc : Int32) (lv : Nat → Int64) (m : Nat → Int32) (w : Nat → Int64) : Prop :=
  0 < le ∧ le ≤ 3 ∧ sz ≤ 8 ∧ tS = nI sz ∧ tL = nI le ∧ m 0 = nI sz ∧ m 1 = nI le ∧ lc = nI L.length ∧ L.Nodup ∧ lok L ∧ L.length ≤ 4 ∧ (∀ k (h : k < L.length), lv k = lN (eX L[k])) ∧ L2M L m w ∧ rI 24 tm tM ∧ rI 8 tf tF ∧ rIo 2 24 tm m ∧ rIo 26 8 tf m ∧ mok sz le tm ∧ (∀ k, k < 8 → tf k ≤ 1)
theorem s_Mo_begins (m : Nat → Int32) (w : Nat → Int64) : ∃ m' w', f_Mo_begins m w = some (m', w') ∧ m' 37 = 0 ∧ m' 38 = 1 ∧ m' 39 = 1 ∧ m' 40 = 0 ∧ m' 41 = 0 ∧ m' 42 = 0 ∧ m' 43 = 0 ∧ m' 44 = -1 ∧ (∀ x, x < 37 ∨ 45 ≤ x → m' x = m x) ∧ w' 304 = 0 ∧ w' 344 = 0 ∧ ∀ x, x ≠ 304 → x ≠ 344 → w' x = w x := by
  rw [f_Mo_begins]
  simp only [bnd_eq]
  refine ⟨_, _, rfl, rfl, rfl, rfl, rfl, rfl, rfl, rfl, rfl, fun x hx => ?_, rfl, rfl, fun x h1 h2 => ?_⟩
  · rw [pk_un (by omega), pk_un (by omega), pk_un (by omega), pk_un (by omega), pk_un (by omega), pk_un (by omega), pk_un (by omega), pk_un (by omega)]
  · rw [pk_uLn h2, pk_uLn h1]
theorem s_WL_startAnew {N : Nat} (hN : 0 < N) (hN' : N < 1000) (v : Nat → Int64) : ∃ v', f_WL_startAnew N v = some (v', nI 1, nI 0) ∧ rX [[]] v' := by
  obtain ⟨v', h1, h2⟩ := s_WL_add (L := []) (u := []) (v := v) hN hN' (fun _ h => by cases h) wok_nil (Nat.zero_le _) (fun k hk => absurd hk (Nat.not_lt_zero _))
  refine ⟨v', ?_, h2⟩
  rw [f_WL_startAnew, show f_WL_add N (1 : Int64) (0 : Int32) (0 : Int32) v = _ from h1, bd3_s]
  rfl
theorem tok_0 (le : Nat) : tok le [[]] [[]] := by
  refine ⟨fun p hp => ?_, fun p hp => ?_, fun p hp s hs => ?_, by decide, by decide, rfl, rfl⟩
  · rw [List.mem_singleton] at hp; subst hp; exact wle_nil
  · rw [List.mem_singleton] at hp; subst hp; exact wle_nil
  · rw [List.mem_singleton] at hp hs; subst hp hs; decide
theorem s_new {sz le b mo : Nat} {L : List Wrd} {tm tf : Nat → Nat} {tS tL : Int32} {tM tF : Nat → Int32} {lc : Int32} {lv : Nat → Int64} {mode budget : Int32} {m : Nat → Int32} {w : Nat → Int64}
    (h : RT sz le L tm tf tS tL tM tF lc lv m w) (h1 : mode = nI mo) (h2 : m 35 = nI mo) (h3 : mo ≤ 2) (h4 : budget = nI b) (h5 : m 36 = nI b) (h6 : b ≤ 300) (E pv sv : Nat → Int64) (kn bi hm hf rep : Nat → Int32) :
    ∃ qn' pv' pn' pl' sv' sn' sl' kn' bi' tl' hm' hf' hs' hl' fo' ce' co' de' m' w', f_Wo_startLearner tL pv sv kn bi hm hf = some (qn', pv', pn', pl', sv', sn', sl', kn', bi', tl', hm', hf', hs', hl', fo', ce', co', de') ∧ f_Mo_begins m w = some (m', w') ∧ (∀ x, x < 37 ∨ 45 ≤ x → m' x = m x) ∧ RW tS tL tM tF lc lv mode budget fo' ce' co' de' qn' E tl' pn' pl' pv' sn' sl' sv' kn' bi' hs' hl' hm' hf' rep m' w' := by
  obtain ⟨a1, a2, a3, rfl, rfl, a6, a7, rfl, a9, a10, a11, a12, ⟨L2, a13, a14, a15, a16, a17, a18⟩, a19, a20, a21, a22, a23, a24⟩ := h
  obtain ⟨m', w', e1, e2, e3, e4, e5, e6, e7, e8, e9, e10, e11, e12, e13⟩ := s_Mo_begins m w
  obtain ⟨pv', p1, p2⟩ := s_WL_startAnew (N := 40) (by decide) (by decide) pv
  obtain ⟨sv', p3, p4⟩ := s_WL_startAnew (N := 16) (by decide) (by decide) sv
  rw [f_Wo_startLearner, f_Le_startAnew, f_Ta_startAnew, p1, bd3_s, p3, bd3_s, s_Ar_fill (by decide), bd1_s, s_Ar_fill (by decide), bd1_s, bd9_s, f_Au_shape, s_Ar_fill (by decide), bd1_s, s_Ar_fill (by decide), bd1_s, bd4_s, bd18_s]
  refine ⟨_, _, _, _, _, _, _, _, _, _, _, _, _, _, _, _, _, _, m', w', rfl, e1, e10, ?_⟩
  · refine ⟨sz, le, b, 0, mo, 0, fun _ => none, L, tm, tf, fun _ => 0, fun _ => 0, fun _ => 0, [[]], [[]], a1, rfl, rfl, by rw [e10 0 (by omega), a6], rfl, a9, ⟨?_, RQX_nil, ⟨[], ?_, ?_, rfl, fun _ => rfl, e2, ?_, ?_⟩, by rw [e10 36 (by omega), h5], by omega, h6, a10, a11, a12, ⟨L2, a13, a14, a15, a16, by rw [e10 34 (by omega), a17], fun k hk => by rw [e13 k (by omega) (by omega), a18 k hk]⟩, a3, a19, a20, fun k hk => by rw [e10 _ (by omega), a21 k hk], fun k hk => by rw [e10 _ (by omega), a22 k hk], a23, a24, a2⟩, h1, by rw [e10 35 (by omega), h2], h3, h4, rfl, e6.symm, Or.inl e6, Or.inl ⟨rfl, e9⟩, e7.symm, e8.symm, Or.inl e8, rfl, rfl, rfl, p2, rfl, rfl, p4, tok_0 le, ⟨by rw [e10 1 (by omega), a7], e3, e4, ?_, ?_⟩, ⟨?_, ?_, ?_⟩, rfl, e5, by omega, rfl, fun h => absurd h (Nat.lt_irrefl _)⟩
    · intro u a h; cases h
    · intro q hq; cases hq
    · intro i j hi; exact absurd hi (Nat.not_lt_zero _)
    · intro k hk; exact absurd hk (Nat.not_lt_zero _)
    · intro k hk; exact absurd hk (Nat.not_lt_zero _)
    · intro k hk
      rw [List.length_singleton] at hk
      have : k = 0 := by omega
      subst this
      exact e11
    · intro k hk
      rw [List.length_singleton] at hk
      have : k = 0 := by omega
      subst this
      exact e12
    · intro k hk
      rw [List.length_singleton] at hk
      exact ⟨0, Nat.zero_le _, if_pos (by omega), if_pos (by omega), fun i hi => absurd hi (Nat.not_lt_zero _)⟩
    · intro k a hk ha
      rw [List.length_singleton] at hk
      exact ⟨0, Nat.zero_le _, if_pos (by omega), if_pos (by omega), fun i hi => absurd hi (Nat.not_lt_zero _)⟩
    · intro r hr _
      exact ⟨if_pos hr, if_pos hr⟩
theorem RA_RT {sz le b n mo szh : Nat} {al : Wrd → Option Nat} {L : List Wrd} {tm tf ml mf re : Nat → Nat} {P S : List Wrd} {tS tL : Int32} {tM tF : Nat → Int32} {lc : Int32} {lv : Nat → Int64} {mode budget formed : Int32} {ce : Int64} {corr dec qn : Int32} {E : Nat → Int64} {tl pn pl : Int32} {pv : Nat → Int64} {sn sl : Int32} {sv : Nat → Int64} {kn bi : Nat → Int32} {hs hl : Int32} {hm hf rep m : Nat → Int32} {w : Nat → Int64}
    (h : RA sz le b n mo szh al L tm tf ml mf re P S tS tL tM tF lc lv mode budget formed ce corr dec qn E tl pn pl pv sn sl sv kn bi hs hl hm hf rep m w) : RT sz le L tm tf tS tL tM tF lc lv m w := by
  obtain ⟨a1, a2, a3, a4, a5, a6, ⟨b1, b2, b3, b4, b5, b6, b7, b8, b9, b10, b12, b13, b14, b15, b16, b17, b18, b19⟩, a8, a9, a10, a11, a12, a13, a14, a15, a16, a17, a18, a19, a20, a21, a22, a23, a24, a25, a26, a27, a28, a29⟩ := h
  exact ⟨a1, b19, b12, a2, a3, a4, a27.1, a5, a6, b7, b8, b9, b10, b13, b14, b15, b16, b17, b18⟩

/-! ===== the split as a whole ===== -/
theorem s_split {le sz szh b n : Nat} {al : Wrd → Option Nat} {P S L : List Wrd} {tm tf ml re : Nat → Nat} {E lv pv sv w : Nat → Int64} {p g m mv rv' v : Nat → Int32} {u : Wrd} {fo : Int32} (hT : tok le P S) (h3 : le ≤ 3) (hsz : szh ≤ 40) (hmv : rI 120 ml mv) (hml : mok szh le ml) (hrX : ∀ j, j < szh → rv' j = nI (re j) ∧ re j < P.length) (hre0 : pw P (re 0) = []) (hpv : rX P pv) (hu : wle le u) (h16 : u.length ≤ 16) (hv : pthR u v) (hA : ACx le sz b n al L tm tf E lv p g m w) (hM : tabM le P S m w) (hI : rIm 361 szh le ml m) (hJ : ∀ j, j < szh → m (521 + j) = nI (re j)) :
    ∃ n' al' E' m' w', ACx le sz b n' al' L tm tf E' lv p g m' w' ∧ aleq al al' ∧ frA m m' w w' ∧
      ((∃ hi, hi ≤ u.length ∧ f_Le_addSplit (lN (eX u)) (nI b) fo (nI n) E (nI P.length) (nI (lg P)) pv (nI S.length) (nI (lg S)) sv mv rv' (nI L.length) p g lv = bd8 (f_Le_addWord (1 : Int32) (lN (eX (u.drop hi))) fo (nI P.length) (nI (lg P)) pv (nI S.length) (nI (lg S)) sv) (fun r_3 a1 a2 a3 a4 a5 a6 a7 => (some (r_3, E', nI n', a1, a2, a3, a4, a5, a6, a7))) ∧ f_Mo_halves (nI u.length) m w v = some (nI hi, m', w')) ∨
       (∃ r, (r = -4 ∨ r = -5) ∧ f_Le_addSplit (lN (eX u)) (nI b) fo (nI n) E (nI P.length) (nI (lg P)) pv (nI S.length) (nI (lg S)) sv mv rv' (nI L.length) p g lv = some (r, E', nI n', pv, nI P.length, nI (lg P), sv, nI S.length, nI (lg S), fo) ∧ f_Mo_halves (nI u.length) m w v = some (r, m', w'))) := by
  have hq0 : qw ml re P u 0 = some u := by
    have : qv ml re P u 0 = u := by rw [qv, List.take_zero, show rn ml 0 [] = 0 from rfl, hre0, List.drop_zero, List.nil_append]
    rw [qw, this, if_pos h16]
  have hQ := s_Mo_question hT hM h3 hsz hI hml (fun j hj => ⟨hJ j hj, (hrX j hj).2⟩) hu h16 hv (Nat.zero_le _)
  rw [hq0, oE_s, nI_0] at hQ
  obtain ⟨r, al1, n1, E1, m1, w1, c1, c2, c3, c4, c5, c6⟩ := ask3 hA hu h16
  rw [f_Le_addSplit, s_Ws_lengthOf (wle_ok hu h3) h16, bd1_s, c1, bd3_s, f_Mo_halves, hQ, c2, bd3_s, bd3_s]
  rcases c6 with ⟨rfl, rfl⟩ | ⟨a, a1, rfl, -⟩
  · rw [if_pos (show (-4 : Int32) = -4 from rfl), FU_eq, show (5000 : Nat) = 4999 + 1 from rfl, itr_s, f_Mo_halves_L13, if_pos (show (-4 : Int32) < 0 by decide), bnd_eq, if_neg (show ¬ (0 : Int32) ≤ -4 by decide)]
    exact ⟨n1, _, E1, m1, w1, c3, c4, c5, Or.inr ⟨-4, Or.inl rfl, rfl, rfl⟩⟩
  · have hge : (0 : Int32) ≤ nI a := nI_le (a := 0) (Nat.zero_le _) (by omega)
    have hne : ¬ nI a = (-4 : Int32) := by rw [show (-4 : Int32) = mI 4 from rfl, nm_eq (by omega) (by omega) (by omega)]; exact id
    have fI : rIm 361 szh le ml m1 := fun s x hs hx => by rw [c5.1 _ (by omega) (by omega), hI s x hs hx]
    have fJ : ∀ j, j < szh → m1 (521 + j) = nI (re j) := fun j hj => by rw [c5.1 _ (by omega) (by omega), hJ j hj]
    rw [if_neg hne]
    obtain ⟨n2, al2, E2, m2, w2, d1, d2, d3, d4⟩ := s_split_loop (S := S) (sv := sv) (fo := fo) hT h3 hsz hmv hml hrX hpv hu h16 hv a1
      (Kc := fun x4 x5 x7 v_asked_entries_2 v_asked_size_2 => (bd1 (f_Ws_tailFrom (lN (eX u)) x5) (fun r_2 => (bd8 (f_Le_addWord (1 : Int32) r_2 fo (nI P.length) (nI (lg P)) pv (nI S.length) (nI (lg S)) sv) (fun r_3 v_table_prefixes_words_1 v_table_prefixes_size_1 v_table_prefixes_longest_1 v_table_suffixes_words_1 v_table_suffixes_size_1 v_table_suffixes_longest_1 v_formed_1 => (some (r_3, v_asked_entries_2, v_asked_size_2, v_table_prefixes_words_1, v_table_prefixes_size_1, v_table_prefixes_longest_1, v_table_suffixes_words_1, v_table_suffixes_size_1, v_table_suffixes_longest_1, v_formed_1)))))))
      (Kr := fun x2 x3 v_m_2 v_w_2 => (bnd (if 0 ≤ nI a then x3 else nI a) (fun t => (some (t, v_m_2, v_w_2)))))
      16 0 u.length 0 FU FU n1 al1 E1 m1 w1 (by omega) (by rw [FU_eq]; omega) (by rw [FU_eq]; omega) (Nat.zero_le _) (Nat.le_refl _) (by omega) c3 (frA_tab c5 hM) fI fJ
    refine ⟨n2, al2, E2, m2, w2, d1, fun x a h => d2 x a (c4 x a h), frA_trans c5 d3, ?_⟩
    rw [nI_0] at d4
    rcases d4 with ⟨lo', hi', it', g1, g2, g3⟩ | ⟨r, g1, g2, g3⟩
    · refine Or.inl ⟨hi', g1, ?_, ?_⟩
      · rw [g2, s_Ws_tailFrom (wle_ok hu h3) h16 g1, bd1_s]
      · rw [g3, if_pos hge, bnd_eq]
    · exact Or.inr ⟨r, g1, g2, g3⟩

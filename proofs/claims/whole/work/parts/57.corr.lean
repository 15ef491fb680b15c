/-! ===== a correction, on both sides ===== -/
/-- what a correction leaves on the reference's side -/
def CRm (s0 fo' : Int32) (u : Wrd) (m m' : Nat → Int32) : Prop := (0 ≤ s0 → m' 44 = nI u.length ∧ (∀ i (h : i < u.length), m' (345 + i) = nI u[i]) ∧ m' 42 = m 42 + 1 ∧ m' 43 = (if s0 = 0 then 1 else 0)) ∧ (¬ 0 ≤ s0 → m' 44 = m 44 ∧ (∀ x, 345 ≤ x → x < 361 → m' x = m x) ∧ m' 42 = m 42 ∧ m' 43 = m 43) ∧ m' 41 = fo' ∧ (fo' = m 41 ∨ fo' = 0) ∧ (∀ x, x ≤ 36 ∨ x = 40 ∨ 361 ≤ x → m' x = m x)
theorem nI_0le {a : Nat} (h : a < 1000) : (0 : Int32) ≤ nI a := nI_le (a := 0) (Nat.zero_le _) (by omega)
theorem nI_eq0 {a : Nat} (h : a < 1000) : (nI a = (0 : Int32)) ↔ a = 0 := nI_eq (b := 0) (by omega) (by decide)
/-- the end of using words M of kind c -/
theorem s_Mo_uses_J111 {le c : Nat} {P S M : List Wrd} {m v : Nat → Int32} {w more : Nat → Int64} {u : Wrd} (hT : tok le P S) (hM : tabM le P S m w) (h3 : le ≤ 3) (hc : c ≤ 1) (h17 : M.length ≤ 17) (hMf : wfit M) (hr : rMz M more) (h16 : u.length ≤ 16) (hv : pthR u v) :
    (¬ M.length = 0 → ¬ rm c P S M = true → f_Mo_uses_J111 (nI c) (nI u.length) (nI M.length) m w v more = some (-5, m, w, more, nI M.length)) ∧
    (M.length = 0 ∨ rm c P S M = true → f_Mo_uses_J111 (nI c) (nI u.length) (nI M.length) m w v more = f_Mo_uses_J129 (nI c) (nI u.length) (nI M.length) m w v more) := by
  rw [f_Mo_uses_J111, s_Mo_fit hT hM h3 hc h17 hMf hr, bd1_s]
  refine ⟨fun h1 h2 => ?_, fun h => ?_⟩
  · rw [if_neg (show ¬ nI M.length ≤ (0 : Int32) from nI_ge (a := 0) (by omega) (by omega)), if_neg h2, if_pos (show (0 : Int32) = 0 from rfl)]
  · by_cases z : M.length = 0
    · rw [if_pos (show nI M.length ≤ (0 : Int32) from nI_le (b := 0) (by omega) (by omega))]
    · rw [if_neg (show ¬ nI M.length ≤ (0 : Int32) from nI_ge (a := 0) (by omega) (by omega)), if_pos (h.resolve_left z), if_neg (show ¬ (1 : Int32) = 0 by decide)]
theorem CRm_of {le c : Nat} {P S M : List Wrd} {m m' : Nat → Int32} {w' : Nat → Int64} {u : Wrd} (hl : M.length ≤ 17) (h44 : m' 44 = nI u.length) (hlet : ∀ i (h : i < u.length), m' (345 + i) = nI u[i]) (h42 : m' 42 = m 42 + 1) (h43 : m' 43 = (if M.length = 0 then 1 else 0)) (h41 : m' 41 = (if M.length = 0 then m 41 else 0)) (hf : ∀ x, x < 345 ∨ 361 ≤ x → x ≠ 38 → x ≠ 39 → x ≠ 41 → x ≠ 42 → x ≠ 43 → x ≠ 44 → m' x = m x) : CRm (nI M.length) (if M.length = 0 then m 41 else 0) u m m' := by
  refine ⟨fun _ => ⟨h44, hlet, h42, ?_⟩, fun h => absurd (nI_0le (by omega)) h, h41, (by by_cases z : M.length = 0; exact Or.inl (if_pos z); exact Or.inr (if_neg z)), fun x hx => hf x (by omega) (by omega) (by omega) (by omega) (by omega) (by omega) (by omega)⟩
  rw [h43]
  simp only [nI_eq0 (show M.length < 1000 by omega)]
theorem s_corr_parts {le c : Nat} {P S : List Wrd} {pv sv w more : Nat → Int64} {m v : Nat → Int32} {u : Wrd} {mores : Int32} (hT : tok le P S) (hM : tabM le P S m w) (h3 : le ≤ 3) (hc : c ≤ 1) (hmo : m 35 = nI (2 * c)) (hu : wle le u) (h16 : u.length ≤ 16) (hv : pthR u v) (hpv : rX P pv) (hsv : rX S sv) :
    ∃ s0 P' S' pv' sv' fo' m' w' more' mores', f_Le_addParts (nI c) (lN (eX u)) (m 41) (nI P.length) (nI (lg P)) pv (nI S.length) (nI (lg S)) sv = some (s0, pv', nI P'.length, nI (lg P'), sv', nI S'.length, nI (lg S'), fo') ∧ f_Mo_uses (nI u.length) mores m w v more = some ((if 0 ≤ s0 then (if s0 = 0 then 7 else 5) else s0), m', w', more', mores') ∧ tok le P' S' ∧ tabM le P' S' m' w' ∧ rX P' pv' ∧ rX S' sv' ∧ CRm s0 fo' u m m' ∧ (∀ x, x = 37 ∨ (45 ≤ x ∧ x < 345) → m' x = m x) ∧ (∀ x, x < 304 → w' x = w x) ∧ (s0 = -5 ∨ ∃ k, k ≤ 17 ∧ s0 = nI k) ∧ (∃ X, P' = P ++ X) ∧ ∃ Y, S' = S ++ Y := by
  have hml := mp_len c u (lst' c P S) (u.length + 1)
  have hMf : wfit (apR c P S u) := mp_wfit hu h3 h16 (Nat.le_refl _)
  have hMw : ∀ x ∈ apR c P S u, wle le x := fun x hx => by obtain ⟨i, -, rfl⟩ := mp_mem hx; exact prt_wle hu
  have hl17 : (apR c P S u).length ≤ 17 := by rw [apR]; omega
  have hparts : (¬ (apR c P S u).length = 0 → ¬ rm c P S (apR c P S u) = true → f_Le_addParts (nI c) (lN (eX u)) (m 41) (nI P.length) (nI (lg P)) pv (nI S.length) (nI (lg S)) sv = some (-5, pv, nI P.length, nI (lg P), sv, nI S.length, nI (lg S), m 41)) ∧
      ((apR c P S u).length = 0 ∨ rm c P S (apR c P S u) = true → ∃ pv' sv', f_Le_addParts (nI c) (lN (eX u)) (m 41) (nI P.length) (nI (lg P)) pv (nI S.length) (nI (lg S)) sv = some (nI (apR c P S u).length, pv', nI (adP c P (apR c P S u)).length, nI (lg (adP c P (apR c P S u))), sv', nI (adS c S (apR c P S u)).length, nI (lg (adS c S (apR c P S u))), if (apR c P S u).length = 0 then m 41 else 0) ∧ rX (adP c P (apR c P S u)) pv' ∧ rX (adS c S (apR c P S u)) sv') := by
    rcases (show c = 0 ∨ c = 1 by omega) with rfl | rfl
    · exact s_Le_addParts_0 hT h3 hu h16 hpv hsv
    · exact s_Le_addParts_1 hT h3 hu h16 hpv hsv
  have hex : (∃ X, adP c P (apR c P S u) = P ++ X) ∧ ∃ Y, adS c S (apR c P S u) = S ++ Y := by
    generalize apR c P S u = M
    rw [adP, adS]
    by_cases z : c = 0
    · rw [if_pos z, if_pos z]; exact ⟨⟨M, rfl⟩, [], (List.append_nil _).symm⟩
    · rw [if_neg z, if_neg z]; exact ⟨⟨[], (List.append_nil _).symm⟩, M, rfl⟩
  obtain ⟨more', q1, q2⟩ := s_Mo_uses_L75 (c := c) hT hM h3 hc hu h16 hv (K := fun x2 v_more_1 v_mores_1 => (f_Mo_uses_J111 (nI c) (nI u.length) v_mores_1 m w v v_more_1)) FU 0 more (by omega) (by rw [FU_eq]; omega) (fun k hk => absurd hk (Nat.not_lt_zero _))
  have hU : f_Mo_uses (nI u.length) mores m w v more = f_Mo_uses_J111 (nI c) (nI u.length) (nI (apR c P S u).length) m w v more' := by
    rw [f_Mo_uses, if_pos (show nI u.length ≤ (16 : Int32) from nI_le (b := 16) h16 (by omega)), hmo]
    rcases (show c = 0 ∨ c = 1 by omega) with rfl | rfl
    · rw [if_pos (show nI (2 * 0) ≤ (0 : Int32) by decide), bnd_eq, if_neg (show ¬ nI (2 * 0) = (1 : Int32) by decide)]
      exact q2
    · rw [if_neg (show ¬ nI (2 * 1) ≤ (0 : Int32) by decide), bnd_eq, if_neg (show ¬ nI (2 * 1) = (1 : Int32) by decide)]
      exact q2
  obtain ⟨j1, j2⟩ := s_Mo_uses_J111 (c := c) hT hM h3 hc hl17 hMf q1 h16 hv
  by_cases hcase : (apR c P S u).length = 0 ∨ rm c P S (apR c P S u) = true
  · obtain ⟨pv', sv', e1, e2, e3⟩ := hparts.2 hcase
    obtain ⟨m', w', g1, g2, g3, g4, g5, g6, g7, g8, g9⟩ := s_Mo_uses_J129 (c := c) (u := u) hT hM hc hl17 q1 hcase h16 hv
    have hT' : tok le (adP c P (apR c P S u)) (adS c S (apR c P S u)) := by
      rcases hcase with h | h
      · rw [List.length_eq_zero_iff.mp h, adP_nil, adS_nil]; exact hT
      · exact tok_ad hT hMw h
    refine ⟨_, _, _, pv', sv', _, m', w', more', nI (apR c P S u).length, e1, ?_, hT', g2, e2, e3, CRm_of (le := le) (c := c) (P := P) (S := S) (w' := w') hl17 g3 g4 g5 g6 g7 g8, fun x hx => g8 x (by omega) (by omega) (by omega) (by omega) (by omega) (by omega) (by omega), g9, Or.inr ⟨_, hl17, rfl⟩, hex.1, hex.2⟩
    rw [hU, j2 hcase, g1, if_pos (nI_0le (by omega))]
    simp only [nI_eq0 (show (apR c P S u).length < 1000 by omega)]
  · have h1 : ¬ (apR c P S u).length = 0 := fun h => hcase (Or.inl h)
    have h2 : ¬ rm c P S (apR c P S u) = true := fun h => hcase (Or.inr h)
    refine ⟨_, P, S, pv, sv, _, m, w, more', nI (apR c P S u).length, hparts.1 h1 h2, ?_, hT, hM, hpv, hsv, ?_, fun _ _ => rfl, fun _ _ => rfl, Or.inl rfl, ⟨[], (List.append_nil _).symm⟩, [], (List.append_nil _).symm⟩
    · rw [hU, j1 h1 h2, if_neg (show ¬ (0 : Int32) ≤ -5 by decide)]
    · exact ⟨fun h => absurd h (by decide), fun _ => ⟨rfl, fun _ _ _ => rfl, rfl, rfl⟩, rfl, Or.inl rfl, fun _ _ => rfl⟩
theorem s_corr_split {le sz szh b n : Nat} {al : Wrd → Option Nat} {P S L : List Wrd} {tm tf ml re : Nat → Nat} {E lv pv sv w more : Nat → Int64} {p g m mv rv' v : Nat → Int32} {u : Wrd} {mores : Int32} (hT : tok le P S) (h3 : le ≤ 3) (hsz : szh ≤ 40) (hmv : rI 120 ml mv) (hml : mok szh le ml) (hrX : ∀ j, j < szh → rv' j = nI (re j) ∧ re j < P.length) (hre0 : pw P (re 0) = []) (hpv : rX P pv) (hsv : rX S sv) (hu : wle le u) (h16 : u.length ≤ 16) (hv : pthR u v) (hA : ACx le sz b n al L tm tf E lv p g m w) (hM : tabM le P S m w) (hI : rIm 361 szh le ml m) (hJ : ∀ j, j < szh → m (521 + j) = nI (re j)) (hmo : m 35 = nI 1) :
    ∃ s0 n' al' E' P' S' pv' sv' fo' m' w' more' mores', f_Le_addSplit (lN (eX u)) (nI b) (m 41) (nI n) E (nI P.length) (nI (lg P)) pv (nI S.length) (nI (lg S)) sv mv rv' (nI L.length) p g lv = some (s0, E', nI n', pv', nI P'.length, nI (lg P'), sv', nI S'.length, nI (lg S'), fo') ∧ f_Mo_uses (nI u.length) mores m w v more = some ((if 0 ≤ s0 then (if s0 = 0 then 7 else 5) else s0), m', w', more', mores') ∧ tok le P' S' ∧ tabM le P' S' m' w' ∧ rX P' pv' ∧ rX S' sv' ∧ CRm s0 fo' u m m' ∧ ACx le sz b n' al' L tm tf E' lv p g m' w' ∧ aleq al al' ∧ (∃ X, P' = P ++ X) ∧ ∃ Y, S' = S ++ Y := by
  obtain ⟨n', al', E', m1, w1, a1, a2, a3, a4⟩ := s_split (sv := sv) (fo := m 41) hT h3 hsz hmv hml hrX hre0 hpv hu h16 hv hA hM hI hJ
  have hM1 := frA_tab a3 hM
  have f41 : m1 41 = m 41 := a3.1 41 (by decide) (by omega)
  have hU : f_Mo_uses (nI u.length) mores m w v more = bd3 (f_Mo_halves (nI u.length) m w v) (fun r v_m_1 v_w_1 =>
      (if 0 ≤ r then
      (bd1 (f_Mo_lastLetters (nI u.length - r) (nI u.length) v) (fun r_1 =>
      (bd2 (f_Mo_wants r_1 (1 : Int32) (0 : Int32) v_m_1 v_w_1 more) (fun v_more_2 v_mores_2 =>
      (f_Mo_uses_J111 (1 : Int32) (nI u.length) v_mores_2 v_m_1 v_w_1 v v_more_2)))))
      else
      (some (r, v_m_1, v_w_1, more, (0 : Int32))))) := by
    rw [f_Mo_uses, if_pos (show nI u.length ≤ (16 : Int32) from nI_le (b := 16) h16 (by omega)), hmo, if_neg (show ¬ nI 1 ≤ (0 : Int32) by decide), bnd_eq, if_pos (show nI 1 = (1 : Int32) from rfl)]
  rcases a4 with ⟨hi, b1, b2, b3⟩ | ⟨r, b1, b2, b3⟩
  · have hd : wle le (u.drop hi) := wle_drop hu hi
    have hd16 : (u.drop hi).length ≤ 16 := by rw [List.length_drop]; omega
    have hll : f_Mo_lastLetters (nI u.length - nI hi) (nI u.length) v = some (lN (eM (u.drop hi))) := by
      rw [pk_sub b1, s_Mo_lastLetters (wle_ok hu h3) h16 hv (by omega), show u.length - (u.length - hi) = hi by omega]
    obtain ⟨more', g1, g2⟩ := s_Mo_wants (M := []) (more := more) hT hM1 h3 (wle_ok hd h3) hd16 (by decide) (fun k hk => absurd hk (Nat.not_lt_zero _)) 1 (by decide)
    rw [hU, b3, bd3_s, if_pos (nI_0le (by omega)), hll, bd1_s, show f_Mo_wants (lN (eM (u.drop hi))) (1 : Int32) (0 : Int32) m1 w1 more = _ from g1, bd2_s, b2]
    obtain ⟨c1, c2, c3⟩ := s_Le_addWord (c := 1) (fo := m 41) (pv := pv) (sv := sv) hT h3 (by decide) (wle_ok hd h3) hd16 hpv hsv
    have hl0 : lst' 1 P S = S := if_neg (by decide)
    rw [hl0] at c1 c2 c3
    have hS1 : (if (1 : Nat) = 0 then P else S) = S := if_neg (by decide)
    rw [hS1] at g1 g2 ⊢
    by_cases hin : u.drop hi ∈ S
    · have hw : wnt S [] (u.drop hi) = [] := if_pos hin
      rw [hw] at g2 ⊢
      obtain ⟨-, j2⟩ := s_Mo_uses_J111 (c := 1) (M := []) (u := u) hT hM1 h3 (by decide) (by decide) (fun _ h => by cases h) g2 h16 hv
      obtain ⟨m', w', d1, d2, d3, d4, d5, d6, d7, d8, d9⟩ := s_Mo_uses_J129 (c := 1) (M := []) (u := u) hT hM1 (by decide) (by decide) g2 (Or.inl rfl) h16 hv
      rw [adP_nil, adS_nil] at d2
      refine ⟨0, n', al', E', P, S, pv, sv, m 41, m', w', more', nI 0, ?_, ?_, hT, d2, hpv, hsv, ?_, ACx_fr a1 (fun x hx => d8 x (by omega) (by omega) (by omega) (by omega) (by omega) (by omega) (by omega)) d9, a2, ⟨[], (List.append_nil _).symm⟩, [], (List.append_nil _).symm⟩
      · rw [show f_Le_addWord (1 : Int32) (lN (eX (u.drop hi))) (m 41) (nI P.length) (nI (lg P)) pv (nI S.length) (nI (lg S)) sv = _ from c1 hin, bd8_s]
      · exact (j2 (Or.inl rfl)).trans d1
      · exact ⟨fun _ => ⟨d3, d4, by rw [d5, a3.1 42 (by decide) (by omega)], d6⟩, fun h => absurd (by decide) h, by rw [d7]; exact f41, Or.inl rfl, fun x hx => by rw [d8 x (by omega) (by omega) (by omega) (by omega) (by omega) (by omega) (by omega), a3.1 x (by omega) (by omega)]⟩
    · have hw : wnt S [] (u.drop hi) = [u.drop hi] := if_neg hin
      rw [hw] at g2 ⊢
      have hf1 : wfit [u.drop hi] := fun x hx => by rw [List.mem_singleton] at hx; subst hx; exact ⟨wle_ok hd h3, hd16⟩
      obtain ⟨j1, j2⟩ := s_Mo_uses_J111 (c := 1) (M := [u.drop hi]) (u := u) hT hM1 h3 (by decide) (show (1 : Nat) ≤ 17 by decide) hf1 g2 h16 hv
      by_cases hrm : rm 1 P S [u.drop hi] = true
      · obtain ⟨pv', sv', k1, k2, k3⟩ := c3 hin hrm
        obtain ⟨m', w', d1, d2, d3, d4, d5, d6, d7, d8, d9⟩ := s_Mo_uses_J129 (c := 1) (M := [u.drop hi]) (u := u) hT hM1 (by decide) (show (1 : Nat) ≤ 17 by decide) g2 (Or.inr hrm) h16 hv
        refine ⟨1, n', al', E', adP 1 P [u.drop hi], adS 1 S [u.drop hi], pv', sv', 0, m', w', more', nI 1, ?_, ?_, tok_ad hT (fun x hx => by rw [List.mem_singleton] at hx; subst hx; exact hd) hrm, d2, k2, k3, ?_, ACx_fr a1 (fun x hx => d8 x (by omega) (by omega) (by omega) (by omega) (by omega) (by omega) (by omega)) d9, a2, ⟨[], by rw [adP, if_neg (by decide), List.append_nil]⟩, [u.drop hi], by rw [adS, if_neg (by decide)]⟩
        · rw [show f_Le_addWord (1 : Int32) (lN (eX (u.drop hi))) (m 41) (nI P.length) (nI (lg P)) pv (nI S.length) (nI (lg S)) sv = _ from k1, bd8_s]
        · exact (j2 (Or.inr hrm)).trans d1
        · exact ⟨fun _ => ⟨d3, d4, by rw [d5, a3.1 42 (by decide) (by omega)], d6⟩, fun h => absurd (by decide) h, d7, Or.inr rfl, fun x hx => by rw [d8 x (by omega) (by omega) (by omega) (by omega) (by omega) (by omega) (by omega), a3.1 x (by omega) (by omega)]⟩
      · refine ⟨-5, n', al', E', P, S, pv, sv, m 41, m1, w1, more', nI 1, ?_, ?_, hT, hM1, hpv, hsv, ?_, a1, a2, ⟨[], (List.append_nil _).symm⟩, [], (List.append_nil _).symm⟩
        · rw [show f_Le_addWord (1 : Int32) (lN (eX (u.drop hi))) (m 41) (nI P.length) (nI (lg P)) pv (nI S.length) (nI (lg S)) sv = _ from c2 hin hrm, bd8_s]
        · exact j1 (show ¬ (1 : Nat) = 0 by decide) hrm
        · exact ⟨fun h => absurd h (by decide), fun _ => ⟨a3.1 44 (by decide) (by omega), fun x h1 h2 => a3.1 x (by omega) (by omega), a3.1 42 (by decide) (by omega), a3.1 43 (by decide) (by omega)⟩, f41, Or.inl rfl, fun x hx => a3.1 x (by omega) (by omega)⟩
  · refine ⟨r, n', al', E', P, S, pv, sv, m 41, m1, w1, more, 0, b2, ?_, hT, hM1, hpv, hsv, ?_, a1, a2, ⟨[], (List.append_nil _).symm⟩, [], (List.append_nil _).symm⟩
    · have hr : ¬ (0 : Int32) ≤ r := by rcases b1 with rfl | rfl <;> decide
      rw [hU, b3, bd3_s, if_neg hr, if_neg hr]
    · have hr : ¬ (0 : Int32) ≤ r := by rcases b1 with rfl | rfl <;> decide
      exact ⟨fun h => absurd h hr, fun _ => ⟨a3.1 44 (by decide) (by omega), fun x h1 h2 => a3.1 x (by omega) (by omega), a3.1 42 (by decide) (by omega), a3.1 43 (by decide) (by omega)⟩, f41, Or.inl rfl, fun x hx => a3.1 x (by omega) (by omega)⟩

/-! ===== a step, on both sides ===== -/
abbrev OC : Type := Int32 × (Nat → Int64) × Int32 × (Nat → Int64) × Int32 × Int32 × (Nat → Int64) × Int32 × Int32 × (Nat → Int32) × (Nat → Int32) × (Nat → Int32) × (Nat → Int32) × Int32 × Int32 × (Nat → Int32) × Int32 × Int64 × Int32 × Int32 × (Nat → Int32) × (Nat → Int32) × (Nat → Int32) × (Nat → Int32) × (Nat → Int32) × Int32 × Int32
abbrev OM : Type := Int32 × (Nat → Int32) × (Nat → Int64) × (Nat → Int32) × (Nat → Int32) × (Nat → Int32) × (Nat → Int32) × (Nat → Int32) × Int32 × (Nat → Int32) × Int64 × (Nat → Int64) × Int32 × (Nat → Int32)
def SO (tS tL : Int32) (tM tF : Nat → Int32) (lc : Int32) (lv : Nat → Int64) (mode budget tl : Int32) (c : Option OC) (d : Option OM) : Prop :=
  ∃ r E qn pv pn pl sv sn sl kn bi hm hf hs hl rep formed ce corr dec se qu og ar lt len qd m w q2 p2 b2 s2 pa st row mi mo mos so, c = some (r, E, qn, pv, pn, pl, sv, sn, sl, kn, bi, hm, hf, hs, hl, rep, formed, ce, corr, dec, se, qu, og, ar, lt, len, qd) ∧ d = some (r, m, w, q2, p2, b2, s2, pa, st, row, mi, mo, mos, so) ∧ RW tS tL tM tF lc lv mode budget formed ce corr dec qn E tl pn pl pv sn sl sv kn bi hs hl hm hf rep m w
theorem RW_mk {sz le b n n' mo szh : Nat} {al al' : Wrd → Option Nat} {L : List Wrd} {tm tf ml mf re : Nat → Nat} {P S P' S' X : List Wrd} {tS tL : Int32} {tM tF : Nat → Int32} {lc : Int32} {lv : Nat → Int64} {mode budget formed formed' : Int32} {ce ce' : Int64} {corr corr' dec dec' qn : Int32} {E E' : Nat → Int64} {tl pn pl : Int32} {pv pv' : Nat → Int64} {sn sl : Int32} {sv sv' : Nat → Int64} {kn bi kn' bi' : Nat → Int32} {hs hl : Int32} {hm hf rep m m' : Nat → Int32} {w w' : Nat → Int64}
    (h : RA sz le b n mo szh al L tm tf ml mf re P S tS tL tM tF lc lv mode budget formed ce corr dec qn E tl pn pl pv sn sl sv kn bi hs hl hm hf rep m w)
    (fr : ∀ x, x ≤ 1 ∨ x = 35 ∨ x = 40 ∨ 361 ≤ x → m' x = m x) (hA : ACx le sz b n' al' L tm tf E' lv tM tF m' w') (hT : tok le P' S') (hM : tabM le P' S' m' w') (hP : P' = P ++ X) (hpv : rX P' pv') (hsv : rX S' sv') (hc : cch al' P' S' le kn' bi') (h41 : formed' = m' 41) (h41' : m' 41 = 0 ∨ (m' 41 = 1 ∧ 0 < szh)) (hR : RC ce' m') (h42 : corr' = m' 42) (h43 : dec' = m' 43) (h43' : m' 43 = 0 ∨ m' 43 = 1) :
    RW tS tL tM tF lc lv mode budget formed' ce' corr' dec' (nI n') E' tl (nI P'.length) (nI (lg P')) pv' (nI S'.length) (nI (lg S')) sv' kn' bi' hs hl hm hf rep m' w' := by
  obtain ⟨a1, a2, a3, a4, a5, a6, -, a8, a9, a10, a11, -, -, -, -, -, -, -, a19, -, -, -, -, -, -, -, -, -, hH⟩ := h
  refine ⟨sz, le, b, n', mo, szh, al', L, tm, tf, ml, mf, re, P', S', a1, a2, a3, by rw [fr 0 (by omega), a4], a5, a6, hA, a8, by rw [fr 35 (by omega), a9], a10, a11, rfl, h41, h41', hR, h42, h43, h43', a19, rfl, rfl, hpv, rfl, rfl, hsv, hT, hM, hc, ?_⟩
  subst hP
  exact RH_fr hH (fun x hx => fr x (by omega))
theorem gap_ok {le : Nat} {al : Wrd → Option Nat} {P S : List Wrd} {u : Wrd} (hT : tok le P S) (hle : 0 < le) (h : gap al P S le = some u) : wle le u ∧ u.length ≤ 16 := by
  rw [gap] at h
  cases e : gapR al P S le with
  | none => rw [e] at h; cases h
  | some r =>
    rw [e] at h
    have h1 := fst_spec e
    obtain ⟨q1, q2⟩ := twf_ok hT hle h1.2.1
    obtain ⟨k1, k2, -⟩ := gw_ok q1 hT.2.1 q2 h
    exact ⟨k1, k2⟩
/-- a word of kind c is added, on both sides: answer d if there was room -/
theorem s_add {le c : Nat} {P S : List Wrd} {pv sv w more : Nat → Int64} {m : Nat → Int32} {u : Wrd} (hT : tok le P S) (hM : tabM le P S m w) (h3 : le ≤ 3) (hc : c ≤ 1) (hu : wle le u) (hu16 : u.length ≤ 16) (hpv : rX P pv) (hsv : rX S sv) :
    ∃ r more' mores', f_Mo_wants (lN (eM u)) (nI c) 0 m w more = some (more', mores') ∧
      ((r = -5 ∧ f_Le_addWord (nI c) (lN (eX u)) (m 41) (nI P.length) (nI (lg P)) pv (nI S.length) (nI (lg S)) sv = some (r, pv, nI P.length, nI (lg P), sv, nI S.length, nI (lg S), m 41) ∧ f_Mo_fit (nI c) mores' m w more' = some 0) ∨
       (¬ r = -5 ∧ f_Mo_fit (nI c) mores' m w more' = some 1 ∧ ∃ P' S' X Y pv' sv' m' w', P' = P ++ X ∧ S' = S ++ Y ∧ f_Le_addWord (nI c) (lN (eX u)) (m 41) (nI P.length) (nI (lg P)) pv (nI S.length) (nI (lg S)) sv = some (r, pv', nI P'.length, nI (lg P'), sv', nI S'.length, nI (lg S'), m' 41) ∧ f_Mo_adds (nI c) mores' m w more' = some (m', w') ∧ rX P' pv' ∧ rX S' sv' ∧ tok le P' S' ∧ tabM le P' S' m' w' ∧ (∀ x, x ≠ 38 → x ≠ 39 → x ≠ 41 → m' x = m x) ∧ (m' 41 = m 41 ∨ m' 41 = 0) ∧ ∀ x, x < 304 → w' x = w x)) := by
  obtain ⟨more', g1, g2⟩ := s_Mo_wants (M := []) (more := more) hT hM h3 (wle_ok hu h3) hu16 (by decide) (fun k hk => absurd hk (Nat.not_lt_zero _)) c hc
  obtain ⟨c1, c2, c3⟩ := s_Le_addWord (c := c) (fo := m 41) (pv := pv) (sv := sv) hT h3 hc (wle_ok hu h3) hu16 hpv hsv
  have hl : (if c = 0 then P else S) = lst' c P S := rfl
  rw [hl] at g1 g2
  have hex : ∀ M, (∃ X, adP c P M = P ++ X) ∧ ∃ Y, adS c S M = S ++ Y := by
    intro M
    rw [adP, adS]
    by_cases z : c = 0
    · rw [if_pos z, if_pos z]; exact ⟨⟨M, rfl⟩, [], (List.append_nil _).symm⟩
    · rw [if_neg z, if_neg z]; exact ⟨⟨[], (List.append_nil _).symm⟩, M, rfl⟩
  by_cases hin : u ∈ lst' c P S
  · have hw : wnt (lst' c P S) [] u = [] := if_pos hin
    rw [hw] at g1 g2
    have hrm : rm c P S [] = true := by
      rw [rm, decide_eq_true_eq, adP_nil, adS_nil]
      exact ⟨hT.2.2.2.1, hT.2.2.2.2.1, tok_lg hT⟩
    have hfit := s_Mo_fit (c := c) (M := []) hT hM h3 hc (by decide) (fun _ h => by cases h) g2
    rw [if_pos hrm] at hfit
    obtain ⟨m', w', d1, d2, d3, d4, d5⟩ := s_Mo_adds (c := c) (M := []) hM hc (by decide) g2 (by rw [adP_nil]; exact hT.2.2.2.1) (by rw [adS_nil]; exact hT.2.2.2.2.1)
    rw [adP_nil, adS_nil] at d2
    have d4' : m' 41 = m 41 := d4
    refine ⟨0, more', nI 0, g1, Or.inr ⟨by decide, hfit, P, S, [], [], pv, sv, m', w', (List.append_nil _).symm, (List.append_nil _).symm, ?_, d1, hpv, hsv, hT, d2, d3, Or.inl d4', d5⟩⟩
    rw [d4']
    exact c1 hin
  · have hw : wnt (lst' c P S) [] u = [u] := if_neg hin
    rw [hw] at g1 g2
    have hf1 : wfit [u] := fun x hx => by rw [List.mem_singleton] at hx; subst hx; exact ⟨wle_ok hu h3, hu16⟩
    have hfit := s_Mo_fit (c := c) (M := [u]) hT hM h3 hc (show (1 : Nat) ≤ 17 by decide) hf1 g2
    by_cases hrm : rm c P S [u] = true
    · rw [if_pos hrm] at hfit
      obtain ⟨pv', sv', k1, k2, k3⟩ := c3 hin hrm
      obtain ⟨r1, r2, -⟩ := rm_40 hrm
      obtain ⟨m', w', d1, d2, d3, d4, d5⟩ := s_Mo_adds (c := c) (M := [u]) hM hc (show (1 : Nat) ≤ 17 by decide) g2 r1 r2
      have d4' : m' 41 = 0 := d4
      obtain ⟨⟨X, hX⟩, Y, hY⟩ := hex [u]
      refine ⟨1, more', nI 1, g1, Or.inr ⟨by decide, hfit, adP c P [u], adS c S [u], X, Y, pv', sv', m', w', hX, hY, ?_, d1, k2, k3, tok_ad hT (fun x hx => by rw [List.mem_singleton] at hx; subst hx; exact hu) hrm, d2, d3, Or.inr d4', d5⟩⟩
      rw [d4']
      exact k1
    · rw [if_neg hrm] at hfit
      exact ⟨-5, more', nI 1, g1, Or.inl ⟨rfl, c2 hin hrm, hfit⟩⟩

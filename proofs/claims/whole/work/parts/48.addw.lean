/-! ===== adding words, in the class ===== -/
theorem s_Ta_hasRoom {le c : Nat} {P S M : List Wrd} (hT : tok le P S) (hc : c ≤ 1) (h17 : M.length ≤ 17) (hMf : wfit M) : f_Ta_hasRoom (nI c) (nI M.length) (nI (lg M)) (nI P.length) (nI (lg P)) (nI S.length) (nI (lg S)) = some (if rm c P S M = true then 1 else 0) := by
  have hl := tok_lg hT
  have h40 := hT.2.2.2.1
  have h16 := hT.2.2.2.2.1
  have hm := lg16 hMf
  have key : ∀ (A B b : Nat), A ≤ 100 → B ≤ 100 → b ≤ 40 → ∀ t : Bool, (t = true ↔ (A ≤ b ∧ B ≤ 16)) → (if nI b < nI A then (some (0 : Int32)) else (if (16 : Int32) < nI B then (some (0 : Int32)) else (some (1 : Int32)))) = some (if t = true then 1 else 0) := by
    intro A B b hA hB hb t ht
    rcases Nat.lt_or_ge b A with z | z
    · rw [if_pos (Int32.not_le.mp (nI_ge z (by omega))), if_neg (fun q => by have := (ht.mp q).1; omega)]
    · rw [if_neg (Int32.not_lt.mpr (nI_le z (by omega)))]
      rcases Nat.lt_or_ge 16 B with y | y
      · rw [if_pos (show (16 : Int32) < nI B from Int32.not_le.mp (nI_ge (a := 16) y (by omega))), if_neg (fun q => by have := (ht.mp q).2; omega)]
      · rw [if_neg (show ¬ (16 : Int32) < nI B from Int32.not_lt.mpr (nI_le (b := 16) y (by omega))), if_pos (ht.mpr ⟨z, y⟩)]
  rw [f_Ta_hasRoom]
  rcases (show c = 0 ∨ c = 1 by omega) with rfl | rfl
  · rw [if_pos (show nI 0 = (0 : Int32) from rfl), f_Ta_hasRoom_J15, if_pos (show nI 0 = (0 : Int32) from rfl), f_Ta_hasRoom_J32, mx2 (by omega) (by omega), show nI (max (lg P) (lg M)) + (1 : Int32) = nI (max (lg P) (lg M) + 1) from nI_1 _, nI_add, nI_add]
    refine key (P.length + M.length) (max (lg P) (lg M) + 1 + lg S) 40 (by omega) (by omega) (by omega) _ ?_
    simp only [rm, adP, adS, if_pos, List.length_append, decide_eq_true_eq, lg_app]
    omega
  · rw [if_neg (show ¬ nI 1 = (0 : Int32) by decide), f_Ta_hasRoom_J15v3, if_neg (show ¬ nI 1 = (0 : Int32) by decide), f_Ta_hasRoom_J32v4, mx2 (by omega) (by omega), show nI (max (lg S) (lg M)) + (1 : Int32) = nI (max (lg S) (lg M) + 1) from nI_1 _, nI_add, nI_add]
    refine key (S.length + M.length) (max (lg S) (lg M) + 1 + lg P) 16 (by omega) (by omega) (by omega) _ ?_
    simp only [rm, adP, adS, if_neg (show ¬ 1 = 0 by decide), List.length_append, decide_eq_true_eq, lg_app]
    omega
theorem s_WL_add {N : Nat} {L : List Wrd} {v : Nat → Int64} {u : Wrd} (hN : L.length < N) (hN' : N < 1000) (hL : wfit L) (hu : wok u) (hu16 : u.length ≤ 16) (hv : rX L v) : ∃ v', f_WL_add N (lN (eX u)) (nI L.length) (nI (lg L)) v = some (v', nI (L ++ [u]).length, nI (lg (L ++ [u]))) ∧ rX (L ++ [u]) v' := by
  have := lg16 hL
  rw [f_WL_add, if_neg (show ¬ (Int32.ofNat N) ≤ nI L.length from nI_ge hN (by omega)), gIn_nI (by omega) (by omega), bnd_eq, bnd_eq, nI_clamp (by omega), s_Ws_lengthOf hu hu16, bd1_s, mx2 (by omega) (by omega), bnd_eq, show nI L.length + (1 : Int32) = nI (L.length + 1) from nI_1 _, ← lg_snoc, List.length_append]
  exact ⟨_, rfl, rX_snoc hv u⟩
/-- the list that words of kind c belong to -/
def lst' (c : Nat) (P S : List Wrd) : List Wrd := if c = 0 then P else S
theorem rm_40 {c : Nat} {P S M : List Wrd} (h : rm c P S M = true) : (adP c P M).length ≤ 40 ∧ (adS c S M).length ≤ 16 ∧ lg (adP c P M) + 1 + lg (adS c S M) ≤ 16 := of_decide_eq_true h
theorem lg_one (u : Wrd) : lg [u] = u.length := by rw [lg, List.foldl_cons, List.foldl_nil, lgF, Nat.zero_max]
theorem s_Le_addWord {le c : Nat} {P S : List Wrd} {pv sv : Nat → Int64} {u : Wrd} {fo : Int32} (hT : tok le P S) (h3 : le ≤ 3) (hc : c ≤ 1) (hu : wok u) (hu16 : u.length ≤ 16) (hpv : rX P pv) (hsv : rX S sv) :
    (u ∈ lst' c P S → f_Le_addWord (nI c) (lN (eX u)) fo (nI P.length) (nI (lg P)) pv (nI S.length) (nI (lg S)) sv = some (0, pv, nI P.length, nI (lg P), sv, nI S.length, nI (lg S), fo)) ∧
    (u ∉ lst' c P S → ¬ rm c P S [u] = true → f_Le_addWord (nI c) (lN (eX u)) fo (nI P.length) (nI (lg P)) pv (nI S.length) (nI (lg S)) sv = some (-5, pv, nI P.length, nI (lg P), sv, nI S.length, nI (lg S), fo)) ∧
    (u ∉ lst' c P S → rm c P S [u] = true → ∃ pv' sv', f_Le_addWord (nI c) (lN (eX u)) fo (nI P.length) (nI (lg P)) pv (nI S.length) (nI (lg S)) sv = some (1, pv', nI (adP c P [u]).length, nI (lg (adP c P [u])), sv', nI (adS c S [u]).length, nI (lg (adS c S [u])), 0) ∧ rX (adP c P [u]) pv' ∧ rX (adS c S [u]) sv') := by
  have h40 := hT.2.2.2.1
  have h16 := hT.2.2.2.2.1
  have hw1 : wfit [u] := fun x hx => by rw [List.mem_singleton.mp hx]; exact ⟨hu, hu16⟩
  have hR := s_Ta_hasRoom (M := [u]) hT hc (by rw [List.length_singleton]; omega) hw1
  rw [lg_one, List.length_singleton] at hR
  rcases (show c = 0 ∨ c = 1 by omega) with rfl | rfl
  · rw [lst', if_pos rfl, f_Le_addWord, if_pos (show nI 0 = (0 : Int32) from rfl), f_Le_addWord_J21, s_WL_contains h40 (by omega) (tok_wfP hT h3) hu hu16 hpv, bd1_s, s_Ws_lengthOf hu hu16, bd1_s]
    refine ⟨fun h => ?_, fun h hr => ?_, fun h hr => ?_⟩
    · rw [if_pos h, if_neg (show ¬ (1 : Int32) = 0 by decide)]
    · rw [if_neg h, if_pos (show (0 : Int32) = 0 from rfl), show (1 : Int32) = nI 1 from rfl, hR, bd1_s, if_neg hr, if_pos (show (0 : Int32) = 0 from rfl)]
    · obtain ⟨r1, r2, r3⟩ := rm_40 hr
      rw [adP, if_pos rfl, List.length_append, List.length_singleton] at r1
      obtain ⟨v', e1, e2⟩ := s_WL_add (N := 40) (by omega) (by omega) (tok_wfP hT h3) hu hu16 hpv
      rw [if_neg h, if_pos (show (0 : Int32) = 0 from rfl), show (1 : Int32) = nI 1 from rfl, hR, bd1_s, if_pos hr, if_neg (show ¬ (1 : Int32) = 0 by decide), e1, bd3_s, adP, if_pos rfl, adS, if_pos rfl]
      exact ⟨v', sv, rfl, e2, hsv⟩
  · rw [lst', if_neg (by decide), f_Le_addWord, if_neg (show ¬ nI 1 = (0 : Int32) by decide), f_Le_addWord_J21v1, s_WL_contains h16 (by omega) (tok_wfS hT h3) hu hu16 hsv, bd1_s, s_Ws_lengthOf hu hu16, bd1_s]
    refine ⟨fun h => ?_, fun h hr => ?_, fun h hr => ?_⟩
    · rw [if_pos h, if_neg (show ¬ (1 : Int32) = 0 by decide)]
    · rw [if_neg h, if_pos (show (0 : Int32) = 0 from rfl), show (1 : Int32) = nI 1 from rfl, hR, bd1_s, if_neg hr, if_pos (show (0 : Int32) = 0 from rfl)]
    · obtain ⟨r1, r2, r3⟩ := rm_40 hr
      rw [adS, if_neg (by decide), List.length_append, List.length_singleton] at r2
      obtain ⟨v', e1, e2⟩ := s_WL_add (N := 16) (by omega) (by omega) (tok_wfS hT h3) hu hu16 hsv
      rw [if_neg h, if_pos (show (0 : Int32) = 0 from rfl), show (1 : Int32) = nI 1 from rfl, hR, bd1_s, if_pos hr, if_neg (show ¬ (1 : Int32) = 0 by decide), e1, bd3_s, adP, if_neg (by decide), adS, if_neg (by decide)]
      exact ⟨pv, v', rfl, hpv, e2⟩
/-! the parts of a word -/
def prt (c : Nat) (u : Wrd) (k : Nat) : Wrd := if c = 0 then u.take k else u.drop (u.length - k)
theorem prt_len {c : Nat} {u : Wrd} {k : Nat} (h : k ≤ u.length) : (prt c u k).length = k := by
  rw [prt]
  by_cases z : c = 0
  · rw [if_pos z, List.length_take]; omega
  · rw [if_neg z, List.length_drop]; omega
theorem prt_wle {le c : Nat} {u : Wrd} {k : Nat} (h : wle le u) : wle le (prt c u k) := fun a ha => by
  rw [prt] at ha
  by_cases z : c = 0
  · rw [if_pos z] at ha; exact h a (List.mem_of_mem_take ha)
  · rw [if_neg z] at ha; exact h a (List.mem_of_mem_drop ha)
theorem s_Le_part {c : Nat} {u : Wrd} {k : Nat} (hc : c ≤ 1) (hu : wok u) (hu16 : u.length ≤ 16) (hk : k ≤ u.length) : f_Le_part (nI c) (lN (eX u)) (nI k) = some (lN (eX (prt c u k))) := by
  rw [f_Le_part, prt]
  rcases (show c = 0 ∨ c = 1 by omega) with rfl | rfl
  · rw [if_pos (show nI 0 = (0 : Int32) from rfl), s_Ws_head hu hu16 hk, bd1_s, if_pos rfl]
  · rw [if_neg (show ¬ nI 1 = (0 : Int32) by decide), s_Ws_lengthOf hu hu16, bd1_s, pk_sub hk, s_Ws_tailFrom hu hu16 (by omega), bd1_s, if_neg (by decide)]
/-- the parts, up to length k, that are wanting -/
def mp (c : Nat) (u : Wrd) (L : List Wrd) (k : Nat) : List Wrd := ((List.range k).map (prt c u)).filter (fun v => decide (v ∉ L))
theorem mp_s {c : Nat} {u : Wrd} {L : List Wrd} {k : Nat} (h : prt c u k ∉ L) : mp c u L (k + 1) = mp c u L k ++ [prt c u k] := by
  rw [mp, List.range_succ, List.map_append, List.filter_append, ← mp]
  congr 1
  rw [List.map_cons, List.map_nil, List.filter_cons, if_pos (decide_eq_true h), List.filter_nil]
theorem mp_n {c : Nat} {u : Wrd} {L : List Wrd} {k : Nat} (h : prt c u k ∈ L) : mp c u L (k + 1) = mp c u L k := by
  rw [mp, List.range_succ, List.map_append, List.filter_append, ← mp, List.map_cons, List.map_nil, List.filter_cons, if_neg (by simpa using h), List.filter_nil, List.append_nil]
theorem mp_mem {c : Nat} {u : Wrd} {L : List Wrd} {k : Nat} {v : Wrd} (h : v ∈ mp c u L k) : ∃ i, i < k ∧ v = prt c u i := by
  rw [mp, List.mem_filter, List.mem_map] at h
  obtain ⟨⟨i, h1, h2⟩, -⟩ := h
  exact ⟨i, List.mem_range.mp h1, h2.symm⟩
theorem mp_len (c : Nat) (u : Wrd) (L : List Wrd) (k : Nat) : (mp c u L k).length ≤ k := by
  have := List.length_filter_le (fun v => decide (v ∉ L)) ((List.range k).map (prt c u))
  rw [List.length_map, List.length_range] at this
  exact this
theorem mp_wfit {c : Nat} {u : Wrd} {L : List Wrd} {k le : Nat} (hu : wle le u) (h3 : le ≤ 3) (h16 : u.length ≤ 16) (hk : k ≤ u.length + 1) : wfit (mp c u L k) := fun v hv => by
  obtain ⟨i, h1, rfl⟩ := mp_mem hv
  exact ⟨wle_ok (prt_wle hu) h3, by rw [prt_len (by omega)]; omega⟩
theorem mp_lg {c : Nat} {u : Wrd} {L : List Wrd} {k : Nat} (hk : k ≤ u.length + 1) : lg (mp c u L k) ≤ k - 1 := lg_le (fun v hv => by
  obtain ⟨i, h1, rfl⟩ := mp_mem hv
  rw [prt_len (by omega)]; omega)
theorem mp_pre (c : Nat) (u : Wrd) (L : List Wrd) (k : Nat) : ∀ d, ∃ R, mp c u L (k + d) = mp c u L k ++ R
  | 0 => ⟨[], by rw [List.append_nil]; rfl⟩
  | d + 1 => by
    obtain ⟨R, h⟩ := mp_pre c u L k d
    by_cases z : prt c u (k + d) ∈ L
    · exact ⟨R, by rw [← Nat.add_assoc, mp_n z, h]⟩
    · exact ⟨R ++ [prt c u (k + d)], by rw [← Nat.add_assoc, mp_s z, h, List.append_assoc]⟩
theorem rm_pre {c : Nat} {P S M R : List Wrd} (h : rm c P S (M ++ R) = true) : rm c P S M = true := by
  obtain ⟨h1, h2, h3⟩ := rm_40 h
  apply decide_eq_true
  rw [adP, adS] at *
  by_cases z : c = 0
  · rw [if_pos z, List.length_append, List.length_append] at h1
    rw [if_pos z] at h2
    rw [if_pos z, if_pos z, lg_app, lg_app] at h3
    rw [if_pos z, if_pos z, List.length_append, lg_app]
    omega
  · rw [if_neg z] at h1
    rw [if_neg z, List.length_append, List.length_append] at h2
    rw [if_neg z, if_neg z, lg_app, lg_app] at h3
    rw [if_neg z, if_neg z, List.length_append, lg_app]
    omega
theorem adP_adP (c : Nat) (P X Y : List Wrd) : adP c (adP c P X) Y = adP c P (X ++ Y) := by
  rw [adP, adP, adP]
  by_cases z : c = 0
  · rw [if_pos z, if_pos z, if_pos z, List.append_assoc]
  · rw [if_neg z, if_neg z, if_neg z]
theorem adS_adS (c : Nat) (S X Y : List Wrd) : adS c (adS c S X) Y = adS c S (X ++ Y) := by
  rw [adS, adS, adS]
  by_cases z : c = 0
  · rw [if_pos z, if_pos z, if_pos z]
  · rw [if_neg z, if_neg z, if_neg z, List.append_assoc]
theorem lst_ad (c : Nat) (P S X : List Wrd) : lst' c (adP c P X) (adS c S X) = lst' c P S ++ X := by
  rw [lst', lst', adP, adS]
  by_cases z : c = 0
  · rw [if_pos z, if_pos z, if_pos z]
  · rw [if_neg z, if_neg z, if_neg z]

/-! ===== the parts of a counterexample, in the class ===== -/
theorem s_Le_ap_L38 {le : Nat} {P S : List Wrd} {pv : Nat → Int64} {u : Wrd} (hT : tok le P S) (h3 : le ≤ 3) (hu : wle le u) (hu16 : u.length ≤ 16) (hv : rX P pv) {K : Int32 → Int32 → Int32 → Option (Int32 × (Nat → Int64) × Int32 × Int32 × (Nat → Int64) × Int32 × Int32 × Int32)} :
    ∀ (n k : Nat), k ≤ u.length + 1 → u.length + 1 - k < n → itr (fun _ _ _ => none) (f_Le_addParts_L38 (nI P.length) pv (nI 0) (lN (eX u)) (nI u.length) K) n (nI (mp 0 u P k).length) (nI (lg (mp 0 u P k))) (nI k) = K (nI (mp 0 u P (u.length + 1)).length) (nI (lg (mp 0 u P (u.length + 1)))) (nI (u.length + 1)) := by
  have hN := hT.2.2.2.1
  intro n
  induction n with
  | zero => intro k _ h; omega
  | succ n ih =>
    intro k hk hn
    rw [itr_s, f_Le_addParts_L38]
    rcases Nat.lt_or_ge u.length k with z | z
    · have : k = u.length + 1 := by omega
      subst this
      rw [if_pos (Int32.not_le.mp (nI_ge z (by omega)))]
    · have hp : wok (prt 0 u k) := wle_ok (prt_wle hu) h3
      have hpl := prt_len (c := 0) z
      rw [if_neg (Int32.not_lt.mpr (nI_le z (by omega))), s_Le_part (by omega) (wle_ok hu h3) hu16 z, bd1_s, s_WL_contains hN (by omega) (tok_wfP hT h3) hp (by omega) hv, bd1_s]
      have h1 := ih (k + 1) (by omega) (by omega)
      by_cases y : prt 0 u k ∈ P
      · rw [mp_n y] at h1
        rw [if_pos y, if_neg (show ¬ (1 : Int32) = 0 by decide), f_Le_addParts_J67, bnd_eq, show nI k + 1 = nI (k + 1) from nI_1 k, h1]
      · have hg : lg (mp 0 u P (k + 1)) = k := by
          have := mp_lg (c := 0) (u := u) (L := P) (k := k) (by omega)
          rw [mp_s y, lg_snoc, hpl]
          omega
        have hl : (mp 0 u P (k + 1)).length = (mp 0 u P k).length + 1 := by rw [mp_s y, List.length_append]; rfl
        rw [hg, hl] at h1
        rw [if_neg y, if_pos (show (0 : Int32) = 0 from rfl), bnd_eq, f_Le_addParts_J67, bnd_eq, show nI k + 1 = nI (k + 1) from nI_1 k, show nI (mp 0 u P k).length + 1 = nI ((mp 0 u P k).length + 1) from nI_1 _, h1]
theorem s_Le_ap_L38v2 {le : Nat} {P S : List Wrd} {sv : Nat → Int64} {u : Wrd} (hT : tok le P S) (h3 : le ≤ 3) (hu : wle le u) (hu16 : u.length ≤ 16) (hv : rX S sv) {K : Int32 → Int32 → Int32 → Option (Int32 × (Nat → Int64) × Int32 × Int32 × (Nat → Int64) × Int32 × Int32 × Int32)} :
    ∀ (n k : Nat), k ≤ u.length + 1 → u.length + 1 - k < n → itr (fun _ _ _ => none) (f_Le_addParts_L38v2 (nI S.length) sv (nI 1) (lN (eX u)) (nI u.length) K) n (nI (mp 1 u S k).length) (nI (lg (mp 1 u S k))) (nI k) = K (nI (mp 1 u S (u.length + 1)).length) (nI (lg (mp 1 u S (u.length + 1)))) (nI (u.length + 1)) := by
  have hN := hT.2.2.2.2.1
  intro n
  induction n with
  | zero => intro k _ h; omega
  | succ n ih =>
    intro k hk hn
    rw [itr_s, f_Le_addParts_L38v2]
    rcases Nat.lt_or_ge u.length k with z | z
    · have : k = u.length + 1 := by omega
      subst this
      rw [if_pos (Int32.not_le.mp (nI_ge z (by omega)))]
    · have hp : wok (prt 1 u k) := wle_ok (prt_wle hu) h3
      have hpl := prt_len (c := 1) z
      rw [if_neg (Int32.not_lt.mpr (nI_le z (by omega))), s_Le_part (by omega) (wle_ok hu h3) hu16 z, bd1_s, s_WL_contains hN (by omega) (tok_wfS hT h3) hp (by omega) hv, bd1_s]
      have h1 := ih (k + 1) (by omega) (by omega)
      by_cases y : prt 1 u k ∈ S
      · rw [mp_n y] at h1
        rw [if_pos y, if_neg (show ¬ (1 : Int32) = 0 by decide), f_Le_addParts_J67v2, bnd_eq, show nI k + 1 = nI (k + 1) from nI_1 k, h1]
      · have hg : lg (mp 1 u S (k + 1)) = k := by
          have := mp_lg (c := 1) (u := u) (L := S) (k := k) (by omega)
          rw [mp_s y, lg_snoc, hpl]
          omega
        have hl : (mp 1 u S (k + 1)).length = (mp 1 u S k).length + 1 := by rw [mp_s y, List.length_append]; rfl
        rw [hg, hl] at h1
        rw [if_neg y, if_pos (show (0 : Int32) = 0 from rfl), bnd_eq, f_Le_addParts_J67v2, bnd_eq, show nI k + 1 = nI (k + 1) from nI_1 k, show nI (mp 1 u S k).length + 1 = nI ((mp 1 u S k).length + 1) from nI_1 _, h1]
theorem s_Le_ap_L101 {le c : Nat} {P S : List Wrd} {u : Wrd} {fo : Int32} (hT : tok le P S) (h3 : le ≤ 3) (hc : c ≤ 1) (hu : wle le u) (hu16 : u.length ≤ 16) (hrm : rm c P S (mp c u (lst' c P S) (u.length + 1)) = true) {K : Int32 → (Nat → Int64) → Int32 → Int32 → (Nat → Int64) → Int32 → Int32 → Int32 → Option (Int32 × (Nat → Int64) × Int32 × Int32 × (Nat → Int64) × Int32 × Int32 × Int32)} :
    ∀ (n k : Nat) (pv sv : Nat → Int64), k ≤ u.length + 1 → u.length + 1 - k < n → rX (adP c P (mp c u (lst' c P S) k)) pv → rX (adS c S (mp c u (lst' c P S) k)) sv →
      ∃ pv' sv', itr (fun _ _ _ _ _ _ _ _ => none) (f_Le_addParts_L101 (nI c) (lN (eX u)) (nI u.length) K) n (nI k) pv (nI (adP c P (mp c u (lst' c P S) k)).length) (nI (lg (adP c P (mp c u (lst' c P S) k)))) sv (nI (adS c S (mp c u (lst' c P S) k)).length) (nI (lg (adS c S (mp c u (lst' c P S) k)))) (if (mp c u (lst' c P S) k).length = 0 then fo else 0) = K (nI (u.length + 1)) pv' (nI (adP c P (mp c u (lst' c P S) (u.length + 1))).length) (nI (lg (adP c P (mp c u (lst' c P S) (u.length + 1))))) sv' (nI (adS c S (mp c u (lst' c P S) (u.length + 1))).length) (nI (lg (adS c S (mp c u (lst' c P S) (u.length + 1))))) (if (mp c u (lst' c P S) (u.length + 1)).length = 0 then fo else 0) ∧ rX (adP c P (mp c u (lst' c P S) (u.length + 1))) pv' ∧ rX (adS c S (mp c u (lst' c P S) (u.length + 1))) sv' := by
  intro n
  induction n with
  | zero => intro k _ _ _ h; omega
  | succ n ih =>
    intro k pv sv hk hn hpv hsv
    rw [itr_s, f_Le_addParts_L101]
    rcases Nat.lt_or_ge u.length k with z | z
    · have : k = u.length + 1 := by omega
      subst this
      rw [if_pos (Int32.not_le.mp (nI_ge z (by omega)))]
      exact ⟨pv, sv, rfl, hpv, hsv⟩
    · have hp : wok (prt c u k) := wle_ok (prt_wle hu) h3
      have hpl := prt_len (c := c) z
      have hrk : ∀ i, i ≤ u.length + 1 → rm c P S (mp c u (lst' c P S) i) = true := fun i hi => by
        obtain ⟨R, hR⟩ := mp_pre c u (lst' c P S) i (u.length + 1 - i)
        rw [show i + (u.length + 1 - i) = u.length + 1 by omega] at hR
        rw [hR] at hrm
        exact rm_pre hrm
      have hTk := tok_ad hT (fun v hv => by obtain ⟨i, -, rfl⟩ := mp_mem hv; exact prt_wle hu) (hrk k hk)
      obtain ⟨w1, -, w3⟩ := s_Le_addWord (c := c) (fo := if (mp c u (lst' c P S) k).length = 0 then fo else 0) hTk h3 hc hp (by omega) hpv hsv
      rw [lst_ad] at w1 w3
      rw [if_neg (Int32.not_lt.mpr (nI_le z (by omega))), s_Le_part hc (wle_ok hu h3) hu16 z, bd1_s]
      by_cases y : prt c u k ∈ lst' c P S
      · rw [w1 (List.mem_append_left _ y), bd8_s, bnd_eq, show nI k + 1 = nI (k + 1) from nI_1 k]
        have h1 := ih (k + 1) pv sv (by omega) (by omega)
        rw [mp_n y] at h1
        exact h1 hpv hsv
      · have hn' : prt c u k ∉ lst' c P S ++ mp c u (lst' c P S) k := fun h => by
          rcases List.mem_append.mp h with h | h
          · exact y h
          · obtain ⟨i, i1, i2⟩ := mp_mem h
            have := congrArg List.length i2
            rw [hpl, prt_len (by omega)] at this
            omega
        have hr2 : rm c (adP c P (mp c u (lst' c P S) k)) (adS c S (mp c u (lst' c P S) k)) [prt c u k] = true := by
          have := rm_40 (hrk (k + 1) (by omega))
          rw [mp_s y] at this
          apply decide_eq_true
          rw [adP_adP, adS_adS]
          exact this
        obtain ⟨pv', sv', e1, e2, e3⟩ := w3 hn' hr2
        rw [adP_adP, ← mp_s y] at e1 e2
        rw [adS_adS, ← mp_s y] at e1 e3
        rw [e1, bd8_s, bnd_eq, show nI k + 1 = nI (k + 1) from nI_1 k]
        have h1 := ih (k + 1) pv' sv' (by omega) (by omega) e2 e3
        rw [if_neg (show ¬ (mp c u (lst' c P S) (k + 1)).length = 0 by rw [mp_s y, List.length_append, List.length_singleton]; omega)] at h1
        exact h1
/-- what adding the parts answers -/
def apR (c : Nat) (P S : List Wrd) (u : Wrd) : List Wrd := mp c u (lst' c P S) (u.length + 1)
theorem s_Le_addParts_0 {le : Nat} {P S : List Wrd} {pv sv : Nat → Int64} {u : Wrd} {fo : Int32} (hT : tok le P S) (h3 : le ≤ 3) (hu : wle le u) (hu16 : u.length ≤ 16) (hpv : rX P pv) (hsv : rX S sv) :
    (¬ (apR 0 P S u).length = 0 → ¬ rm 0 P S (apR 0 P S u) = true → f_Le_addParts (nI 0) (lN (eX u)) fo (nI P.length) (nI (lg P)) pv (nI S.length) (nI (lg S)) sv = some (-5, pv, nI P.length, nI (lg P), sv, nI S.length, nI (lg S), fo)) ∧
    ((apR 0 P S u).length = 0 ∨ rm 0 P S (apR 0 P S u) = true → ∃ pv' sv', f_Le_addParts (nI 0) (lN (eX u)) fo (nI P.length) (nI (lg P)) pv (nI S.length) (nI (lg S)) sv = some (nI (apR 0 P S u).length, pv', nI (adP 0 P (apR 0 P S u)).length, nI (lg (adP 0 P (apR 0 P S u))), sv', nI (adS 0 S (apR 0 P S u)).length, nI (lg (adS 0 S (apR 0 P S u))), if (apR 0 P S u).length = 0 then fo else 0) ∧ rX (adP 0 P (apR 0 P S u)) pv' ∧ rX (adS 0 S (apR 0 P S u)) sv') := by
  have hL : lst' 0 P S = P := by rw [lst']; first | exact if_pos rfl | exact if_neg (by decide)
  have hM := mp_wfit (c := 0) (L := P) hu h3 hu16 (Nat.le_refl _)
  have hMl := mp_len 0 u P (u.length + 1)
  have hR := s_Ta_hasRoom (c := 0) (M := mp 0 u P (u.length + 1)) hT (by omega) (by omega) hM
  have LP := fun K => s_Le_ap_L38 (K := K) hT h3 hu hu16 hpv FU 0 (by omega) (by rw [FU_eq]; omega)
  rw [show (mp 0 u P 0).length = 0 from rfl, show lg (mp 0 u P 0) = 0 from rfl] at LP
  simp only [nI_0] at LP
  try simp only [nI_0] at hR
  rw [f_Le_addParts, if_pos (show nI 0 = (0 : Int32) from rfl), f_Le_addParts_J21, s_Ws_lengthOf (wle_ok hu h3) hu16, bd1_s]
  try rw [nI_0]
  rw [LP, hR, bd1_s, apR, hL]
  refine ⟨fun h1 h2 => ?_, fun h => ?_⟩
  · rw [if_neg (fun q : nI (mp 0 u P (u.length + 1)).length = (0 : Int32) => h1 ((nI_eq (b := 0) (by omega) (by decide)).mp q)), if_neg h2, if_pos (show (0 : Int32) = 0 from rfl)]
  · by_cases h1 : (mp 0 u P (u.length + 1)).length = 0
    · have hn := List.length_eq_zero_iff.mp h1
      rw [hn, List.length_nil, if_pos (show nI 0 = (0 : Int32) from rfl), adP_nil, adS_nil, if_pos rfl]
      exact ⟨pv, sv, rfl, hpv, hsv⟩
    · have h2 := h.resolve_left h1
      have L1 := fun K => s_Le_ap_L101 (c := 0) (fo := fo) (K := K) hT h3 (by omega) hu hu16 (by rw [hL]; exact h2) FU 0 pv sv (by omega) (by rw [FU_eq]; omega)
      rw [hL] at L1
      rw [show mp 0 u P 0 = [] from rfl, adP_nil, adS_nil, if_pos (show ([] : List Wrd).length = 0 from rfl)] at L1
      rw [if_neg (fun q : nI (mp 0 u P (u.length + 1)).length = (0 : Int32) => h1 ((nI_eq (b := 0) (by omega) (by decide)).mp q)), if_pos h2, if_neg (show ¬ (1 : Int32) = 0 by decide)]
      obtain ⟨pv', sv', e1, e2, e3⟩ := L1 _ hpv hsv
      rw [nI_0] at e1
      try rw [nI_0]
      rw [e1]
      exact ⟨pv', sv', rfl, e2, e3⟩
theorem s_Le_addParts_1 {le : Nat} {P S : List Wrd} {pv sv : Nat → Int64} {u : Wrd} {fo : Int32} (hT : tok le P S) (h3 : le ≤ 3) (hu : wle le u) (hu16 : u.length ≤ 16) (hpv : rX P pv) (hsv : rX S sv) :
    (¬ (apR 1 P S u).length = 0 → ¬ rm 1 P S (apR 1 P S u) = true → f_Le_addParts (nI 1) (lN (eX u)) fo (nI P.length) (nI (lg P)) pv (nI S.length) (nI (lg S)) sv = some (-5, pv, nI P.length, nI (lg P), sv, nI S.length, nI (lg S), fo)) ∧
    ((apR 1 P S u).length = 0 ∨ rm 1 P S (apR 1 P S u) = true → ∃ pv' sv', f_Le_addParts (nI 1) (lN (eX u)) fo (nI P.length) (nI (lg P)) pv (nI S.length) (nI (lg S)) sv = some (nI (apR 1 P S u).length, pv', nI (adP 1 P (apR 1 P S u)).length, nI (lg (adP 1 P (apR 1 P S u))), sv', nI (adS 1 S (apR 1 P S u)).length, nI (lg (adS 1 S (apR 1 P S u))), if (apR 1 P S u).length = 0 then fo else 0) ∧ rX (adP 1 P (apR 1 P S u)) pv' ∧ rX (adS 1 S (apR 1 P S u)) sv') := by
  have hL : lst' 1 P S = S := by rw [lst']; first | exact if_pos rfl | exact if_neg (by decide)
  have hM := mp_wfit (c := 1) (L := S) hu h3 hu16 (Nat.le_refl _)
  have hMl := mp_len 1 u S (u.length + 1)
  have hR := s_Ta_hasRoom (c := 1) (M := mp 1 u S (u.length + 1)) hT (by omega) (by omega) hM
  have LP := fun K => s_Le_ap_L38v2 (K := K) hT h3 hu hu16 hsv FU 0 (by omega) (by rw [FU_eq]; omega)
  rw [show (mp 1 u S 0).length = 0 from rfl, show lg (mp 1 u S 0) = 0 from rfl] at LP
  simp only [nI_0] at LP
  try simp only [nI_0] at hR
  rw [f_Le_addParts, if_neg (show ¬ nI 1 = (0 : Int32) by decide), f_Le_addParts_J21v2, s_Ws_lengthOf (wle_ok hu h3) hu16, bd1_s]
  try rw [nI_0]
  rw [LP, hR, bd1_s, apR, hL]
  refine ⟨fun h1 h2 => ?_, fun h => ?_⟩
  · rw [if_neg (fun q : nI (mp 1 u S (u.length + 1)).length = (0 : Int32) => h1 ((nI_eq (b := 0) (by omega) (by decide)).mp q)), if_neg h2, if_pos (show (0 : Int32) = 0 from rfl)]
  · by_cases h1 : (mp 1 u S (u.length + 1)).length = 0
    · have hn := List.length_eq_zero_iff.mp h1
      rw [hn, List.length_nil, if_pos (show nI 0 = (0 : Int32) from rfl), adP_nil, adS_nil, if_pos rfl]
      exact ⟨pv, sv, rfl, hpv, hsv⟩
    · have h2 := h.resolve_left h1
      have L1 := fun K => s_Le_ap_L101 (c := 1) (fo := fo) (K := K) hT h3 (by omega) hu hu16 (by rw [hL]; exact h2) FU 0 pv sv (by omega) (by rw [FU_eq]; omega)
      rw [hL] at L1
      rw [show mp 1 u S 0 = [] from rfl, adP_nil, adS_nil, if_pos (show ([] : List Wrd).length = 0 from rfl)] at L1
      rw [if_neg (fun q : nI (mp 1 u S (u.length + 1)).length = (0 : Int32) => h1 ((nI_eq (b := 0) (by omega) (by decide)).mp q)), if_pos h2, if_neg (show ¬ (1 : Int32) = 0 by decide)]
      obtain ⟨pv', sv', e1, e2, e3⟩ := L1 _ hpv hsv
      rw [nI_0] at e1
      try rw [nI_0]
      rw [e1]
      exact ⟨pv', sv', rfl, e2, e3⟩

/-! ===== letters of a found word, on both sides ===== -/
def pthR (u : Wrd) (v : Nat → Int32) : Prop := ∀ k (h : k < u.length), v k = nI u[k]
theorem s_Se_foundWord_loop {u : Wrd} {v : Nat → Int32} (hu : wok u) (h16 : u.length ≤ 16) (hv : pthR u v) :
    ∀ (n k : Nat), k ≤ u.length → u.length - k < n → itr (fun _ _ => none) (f_Se_foundWord_L4 (nI u.length) v (fun x1 _ => some x1)) n (lN (eX (u.take k))) (nI k) = some (lN (eX u)) := by
  intro n
  induction n with
  | zero => intro k _ h; omega
  | succ n ih =>
    intro k hk hn
    rw [itr_s, f_Se_foundWord_L4]
    rcases Nat.lt_or_ge k u.length with z | z
    · rw [if_neg (nI_ge z (by omega)), if_neg (show ¬ (16 : Int32) ≤ nI k from nI_ge (b := 16) (by omega) (by omega)), gIn_nI (by omega) (by omega), nI_clamp (by omega), hv k z, s_Ws_append (wok_take hu k) (hu _ (List.getElem_mem z)) (by rw [List.length_take]; omega), bd1_s, bnd_eq, show nI k + 1 = nI (k + 1) from nI_1 k, List.take_append_getElem z]
      exact ih (k + 1) z (by omega)
    · rw [if_pos (nI_le z (by omega)), List.take_of_length_le z]
theorem s_Se_foundWord {u : Wrd} {v : Nat → Int32} (hu : wok u) (h16 : u.length ≤ 16) (hv : pthR u v) : f_Se_foundWord (nI u.length) v = some (lN (eX u)) :=
  s_Se_foundWord_loop hu h16 hv FU 0 (Nat.zero_le _) (by rw [FU_eq]; omega)
theorem s_Mo_firstLetters_loop {u : Wrd} {v : Nat → Int32} (hu : wok u) (h16 : u.length ≤ 16) (hv : pthR u v) {K : Nat} (hK : K ≤ u.length) :
    ∀ (n k : Nat), k ≤ K → K - k < n → itr (fun _ _ => none) (f_Mo_firstLetters_L5 v (nI K) (fun x2 _ => some x2)) n (lN (eM (u.take k))) (nI k) = some (lN (eM (u.take K))) := by
  intro n
  induction n with
  | zero => intro k _ h; omega
  | succ n ih =>
    intro k hk hn
    rw [itr_s, f_Mo_firstLetters_L5]
    rcases Nat.lt_or_ge k K with z | z
    · have z' : k < u.length := by omega
      rw [if_neg (nI_ge z (by omega)), gIn_nI (by omega) (by omega), nI_clamp (by omega), hv k z', s_Mo_longer' (hu _ (List.getElem_mem z')), bd1_s, bnd_eq, show nI k + 1 = nI (k + 1) from nI_1 k, List.take_append_getElem z']
      exact ih (k + 1) z (by omega)
    · have : k = K := by omega
      subst this
      rw [if_pos (nI_le z (by omega))]
theorem s_Mo_firstLetters {u : Wrd} {v : Nat → Int32} (hu : wok u) (h16 : u.length ≤ 16) (hv : pthR u v) {k : Nat} (hk : k ≤ u.length) : f_Mo_firstLetters (nI k) v = some (lN (eM (u.take k))) :=
  s_Mo_firstLetters_loop hu h16 hv hk FU 0 (Nat.zero_le _) (by rw [FU_eq]; omega)
theorem s_Mo_lastLetters_loop {u : Wrd} {v : Nat → Int32} (hu : wok u) (h16 : u.length ≤ 16) (hv : pthR u v) {s : Nat} :
    ∀ (n d : Nat), s + d ≤ u.length → u.length - (s + d) < n → itr (fun _ _ => none) (f_Mo_lastLetters_L10 (nI u.length) v (fun x2 _ => some x2)) n (lN (eM ((u.drop s).take d))) (nI (s + d)) = some (lN (eM (u.drop s))) := by
  intro n
  induction n with
  | zero => intro k _ h; omega
  | succ n ih =>
    intro d hd hn
    rw [itr_s, f_Mo_lastLetters_L10]
    rcases Nat.lt_or_ge (s + d) u.length with z | z
    · have z' : d < (u.drop s).length := by rw [List.length_drop]; omega
      have e : (u.drop s)[d] = u[s + d] := List.getElem_drop
      rw [if_neg (nI_ge z (by omega)), gIn_nI (by omega) (by omega), nI_clamp (by omega), hv (s + d) z, s_Mo_longer' (hu _ (List.getElem_mem z)), bd1_s, bnd_eq, show nI (s + d) + 1 = nI (s + (d + 1)) from nI_1 _, ← e, List.take_append_getElem z']
      exact ih (d + 1) (by omega) (by omega)
    · rw [if_pos (nI_le z (by omega)), List.take_of_length_le (by rw [List.length_drop]; omega)]
theorem s_Mo_lastLetters {u : Wrd} {v : Nat → Int32} (hu : wok u) (h16 : u.length ≤ 16) (hv : pthR u v) {k : Nat} (hk : k ≤ u.length) : f_Mo_lastLetters (nI k) (nI u.length) v = some (lN (eM (u.drop (u.length - k)))) := by
  rw [f_Mo_lastLetters, pk_sub hk, bnd_eq]
  exact s_Mo_lastLetters_loop hu h16 hv (s := u.length - k) FU 0 (by omega) (by rw [FU_eq]; omega)
/-- the reference wants the parts -/
theorem s_Mo_uses_L75 {le c : Nat} {P S : List Wrd} {m v : Nat → Int32} {w : Nat → Int64} {u : Wrd} (hT : tok le P S) (hM : tabM le P S m w) (h3 : le ≤ 3) (hc : c ≤ 1) (hu : wle le u) (h16 : u.length ≤ 16) (hv : pthR u v) {K : Int32 → (Nat → Int64) → Int32 → Option (Int32 × (Nat → Int32) × (Nat → Int64) × (Nat → Int64) × Int32)} :
    ∀ (n k : Nat) (more : Nat → Int64), k ≤ u.length + 1 → u.length + 1 - k < n → rMz (mp c u (lst' c P S) k) more → ∃ more', rMz (apR c P S u) more' ∧ itr (fun _ _ _ => none) (f_Mo_uses_L75 (nI u.length) m w v (nI c) K) n (nI k) more (nI (mp c u (lst' c P S) k).length) = K (nI (u.length + 1)) more' (nI (apR c P S u).length) := by
  intro n
  induction n with
  | zero => intro k _ _ h; omega
  | succ n ih =>
    intro k more hk hn hr
    rw [itr_s, f_Mo_uses_L75]
    rcases Nat.lt_or_ge u.length k with z | z
    · have : k = u.length + 1 := by omega
      subst this
      rw [if_pos (Int32.not_le.mp (nI_ge z (by omega)))]
      exact ⟨more, hr, rfl⟩
    · have hp : wok (prt c u k) := wle_ok (prt_wle hu) h3
      have hpl := prt_len (c := c) z
      have hml := mp_len c u (lst' c P S) k
      obtain ⟨more', e1, e2⟩ := s_Mo_wants (M := mp c u (lst' c P S) k) hT hM h3 hp (by omega) (by omega) hr c hc
      have hw : wnt (if c = 0 then P else S) (mp c u (lst' c P S) k) (prt c u k) = mp c u (lst' c P S) (k + 1) := by
        rw [← lst', wnt]
        by_cases y : prt c u k ∈ lst' c P S
        · rw [if_pos y, mp_n y]
        · rw [if_neg y, mp_s y]
      rw [hw] at e1 e2
      obtain ⟨m2, g1, g2⟩ := ih (k + 1) more' (by omega) (by omega) e2
      refine ⟨m2, g1, ?_⟩
      rw [if_neg (Int32.not_lt.mpr (nI_le z (by omega))), ← g2]
      rcases (show c = 0 ∨ c = 1 by omega) with rfl | rfl
      · rw [if_pos (show nI 0 = (0 : Int32) from rfl), s_Mo_firstLetters (wle_ok hu h3) h16 hv z, bd1_s, f_Mo_uses_J101, show u.take k = prt 0 u k from (if_pos rfl).symm, e1, bd2_s, bnd_eq, show nI k + 1 = nI (k + 1) from nI_1 k]
      · rw [if_neg (show ¬ nI 1 = (0 : Int32) by decide), s_Mo_lastLetters (wle_ok hu h3) h16 hv z, bd1_s, f_Mo_uses_J101, show u.drop (u.length - k) = prt 1 u k from (if_neg (by decide)).symm, e1, bd2_s, bnd_eq, show nI k + 1 = nI (k + 1) from nI_1 k]

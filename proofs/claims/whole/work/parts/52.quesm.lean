/-! ===== a split's question, in the reference ===== -/
theorem rn_take {ml : Nat → Nat} {s : Nat} {u : Wrd} {i : Nat} (h : i < u.length) : rn ml s (u.take (i + 1)) = ml (3 * rn ml s (u.take i) + u[i]) := by
  rw [← List.take_append_getElem h, rn, List.foldl_append]
  rfl
theorem s_Mo_question_loop {le sz : Nat} {ml : Nat → Nat} {m v : Nat → Int32} {u : Wrd} (h3 : le ≤ 3) (hsz : sz ≤ 40) (hmv : rIm 361 sz le ml m) (hml : mok sz le ml) (hu : wle le u) (h16 : u.length ≤ 16) (hv : pthR u v) {k : Nat} (hk : k ≤ u.length) {K : Int32 → Int32 → Option (Int32 × (Nat → Int32) × (Nat → Int64))} :
    ∀ (n i : Nat), i ≤ k → k - i < n → itr (fun _ _ => none) (f_Mo_question_L4 m v (nI k) K) n (nI (rn ml 0 (u.take i))) (nI i) = K (nI (rn ml 0 (u.take k))) (nI k) := by
  intro n
  induction n with
  | zero => intro i _ h; omega
  | succ n ih =>
    intro i hi hn
    rw [itr_s, f_Mo_question_L4]
    rcases Nat.lt_or_ge i k with z | z
    · have z' : i < u.length := by omega
      have hs : rn ml 0 (u.take i) < sz := rn_lt hml (fun a ha => hu a (List.mem_of_mem_take ha)) hml.1
      have ha := hu _ (List.getElem_mem z')
      rw [if_neg (nI_ge z (by omega)), gIn_nI (by omega) (by omega), nI_clamp (by omega), hv i z', show (3 : Int32) * nI (rn ml 0 (u.take i)) = nI (3 * rn ml 0 (u.take i)) from pk_mul 3 _, show (361 : Int32) + nI (3 * rn ml 0 (u.take i)) = nI (361 + 3 * rn ml 0 (u.take i)) from nI_add 361 _, nI_add, gIn_nI (by omega) (by omega), bnd_eq, bnd_eq, nI_clamp (by omega), Nat.add_assoc, hmv _ _ hs ha, ← rn_take (ml := ml) (s := 0) z', show nI i + 1 = nI (i + 1) from nI_1 i]
      exact ih (i + 1) z (by omega)
    · have : i = k := by omega
      subst this
      rw [if_pos (nI_le z (by omega))]
theorem s_Mo_question {le sz : Nat} {P S : List Wrd} {ml re : Nat → Nat} {m v : Nat → Int32} {w : Nat → Int64} {u : Wrd} (hT : tok le P S) (hM : tabM le P S m w) (h3 : le ≤ 3) (hsz : sz ≤ 40) (hmv : rIm 361 sz le ml m) (hml : mok sz le ml) (hre : ∀ j, j < sz → m (521 + j) = nI (re j) ∧ re j < P.length) (hu : wle le u) (h16 : u.length ≤ 16) (hv : pthR u v) {k : Nat} (hk : k ≤ u.length) :
    f_Mo_question (nI k) (nI u.length) m w v = oE (qw ml re P u k) (fun q => bd3 (f_Mo_asks (lN (eM q)) m w) (fun r_3 v_m_1 v_w_1 => (some (r_3, v_m_1, v_w_1)))) (some (-5, m, w)) := by
  have hs : rn ml 0 (u.take k) < sz := rn_lt hml (fun a ha => hu a (List.mem_of_mem_take ha)) hml.1
  obtain ⟨r1, r2⟩ := hre _ hs
  have h40 := hT.2.2.2.1
  have hp := tok_wfP hT h3 _ (List.getElem_mem r2)
  have hd : wok (u.drop k) := wok_drop (wle_ok hu h3) k
  have hdl : (u.drop k).length = u.length - k := List.length_drop
  have LP := fun K => s_Mo_question_loop (K := K) h3 hsz hmv hml hu h16 hv hk FU 0 (Nat.zero_le _) (by rw [FU_eq]; omega)
  rw [show rn ml 0 (u.take 0) = 0 from rfl] at LP
  have LP' : ∀ K, itr (fun _ _ => none) (f_Mo_question_L4 m v (nI k) K) FU (0 : Int32) (0 : Int32) = K (nI (rn ml 0 (u.take k))) (nI k) := LP
  rw [f_Mo_question, LP', show (521 : Int32) + nI (rn ml 0 (u.take k)) = nI (521 + rn ml 0 (u.take k)) from nI_add 521 _, gIn_nI (by omega) (by omega), nI_clamp (by omega), r1, show (304 : Int32) + nI (re (rn ml 0 (u.take k))) = nI (304 + re (rn ml 0 (u.take k))) from nI_add 304 _, gIn_nI (by omega) (by omega), bnd_eq, nI_clamp (by omega), hM.2.2.2.1 _ r2, s_Mo_lengthOf hp.1 (by have := hp.2; omega), bd1_s, nI_add, pk_sub (by omega), pk_sub hk, qw, qv, pw_eq r2, List.length_append, hdl]
  have hp2 := hp.2
  rcases Nat.lt_or_ge 16 ((P[re (rn ml 0 (u.take k))]).length + (u.length - k)) with z | z
  · rw [if_neg (show ¬ nI _ ≤ (16 : Int32) from nI_ge (a := 16) (show 16 < (P[re (rn ml 0 (u.take k))]).length + u.length - k by omega) (by omega)), if_neg (by omega), oE_n]
  · rw [if_pos (show nI _ ≤ (16 : Int32) from nI_le (b := 16) (show (P[re (rn ml 0 (u.take k))]).length + u.length - k ≤ 16 by omega) (by omega)), s_Mo_lastLetters (wle_ok hu h3) h16 hv (by omega), bd1_s, show u.length - (u.length - k) = k by omega, s_Mo_joined hp.1 hd (by omega), bd1_s, if_pos z, oE_s]

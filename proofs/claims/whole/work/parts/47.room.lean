/-! ===== room in the table, on both sides ===== -/
theorem mx1 {a b : Nat} (ha : a < 1000) (hb : b < 1000) : (if nI a ≤ nI b then nI b else nI a) = nI (max b a) := by
  rcases Nat.lt_or_ge b a with z | z
  · rw [if_neg (nI_ge z (by omega)), Nat.max_eq_right (by omega)]
  · rw [if_pos (nI_le z (by omega)), Nat.max_eq_left z]
theorem mx2 {a b : Nat} (ha : a < 1000) (hb : b < 1000) : (if nI b < nI a then nI a else nI b) = nI (max b a) := by
  rcases Nat.lt_or_ge b a with z | z
  · rw [if_pos (Int32.not_le.mp (nI_ge z (by omega))), Nat.max_eq_right (by omega)]
  · rw [if_neg (Int32.not_lt.mpr (nI_le z (by omega))), Nat.max_eq_left z]
theorem s_Mo_longest_loop {b : Nat} {L : List Wrd} {w : Nat → Int64} (hN : b + L.length ≤ 360) (hL : wfit L) (hv : rMo b L w) :
    ∀ (n k a : Nat), k ≤ L.length → L.length - k < n → a ≤ 16 → itr (fun _ _ => none) (f_Mo_longest_L5 w (nI b) (nI L.length) (fun x3 _ => some x3)) n (nI a) (nI k) = some (nI ((L.drop k).foldl lgF a)) := by
  intro n
  induction n with
  | zero => intro k _ _ h; omega
  | succ n ih =>
    intro k a hk hn ha
    rw [itr_s, f_Mo_longest_L5]
    rcases Nat.lt_or_ge k L.length with c | c
    · obtain ⟨q1, q2⟩ := hL _ (List.getElem_mem c)
      rw [if_neg (nI_ge c (by omega)), nI_add, gIn_nI (by omega) (by omega), nI_clamp (by omega), hv k c, s_Mo_lengthOf q1 (by omega), bd1_s, mx1 (by omega) (by omega), bnd_eq, bnd_eq, show nI k + 1 = nI (k + 1) from nI_1 k, List.drop_eq_getElem_cons c, List.foldl_cons]
      exact ih (k + 1) _ c (by omega) (Nat.max_le.mpr ⟨ha, q2⟩)
    · rw [if_pos (nI_le c (by omega)), List.drop_eq_nil_of_le c, List.foldl_nil]
theorem s_Mo_longest {b : Nat} {L : List Wrd} {w : Nat → Int64} (hN : b + L.length ≤ 360) (hL : wfit L) (hv : rMo b L w) : f_Mo_longest (nI b) (nI L.length) w = some (nI (lg L)) :=
  s_Mo_longest_loop hN hL hv FU 0 0 (Nat.zero_le _) (by rw [FU_eq]; omega) (Nat.zero_le _)
/-! the table with words added to the prefixes, or to the suffixes -/
def adP (c : Nat) (P M : List Wrd) : List Wrd := if c = 0 then P ++ M else P
def adS (c : Nat) (S M : List Wrd) : List Wrd := if c = 0 then S else S ++ M
def rm (c : Nat) (P S M : List Wrd) : Bool := decide ((adP c P M).length ≤ 40 ∧ (adS c S M).length ≤ 16 ∧ lg (adP c P M) + 1 + lg (adS c S M) ≤ 16)
theorem tok_ad {le c : Nat} {P S M : List Wrd} (hT : tok le P S) (hM : ∀ u ∈ M, wle le u) (h : rm c P S M = true) : tok le (adP c P M) (adS c S M) := by
  obtain ⟨h1, h2, h3⟩ := of_decide_eq_true h
  rw [adP, adS] at *
  by_cases z : c = 0
  · rw [if_pos z] at h1 h3 ⊢
    rw [if_pos z] at h2 h3 ⊢
    exact tok_mk (fun p hp => by rcases List.mem_append.mp hp with h | h; exact hT.1 p h; exact hM p h) hT.2.1 h3 h1 h2 (at0_app hT.2.2.2.2.2.1) hT.2.2.2.2.2.2
  · rw [if_neg z] at h1 h3 ⊢
    rw [if_neg z] at h2 h3 ⊢
    exact tok_mk hT.1 (fun p hp => by rcases List.mem_append.mp hp with h | h; exact hT.2.1 p h; exact hM p h) h3 h1 h2 hT.2.2.2.2.2.1 (at0_app hT.2.2.2.2.2.2)
theorem lg_fold (L M : List Wrd) : M.foldl lgF (lg L) = lg (L ++ M) := by rw [lg, lg, List.foldl_append]
theorem lg16 {L : List Wrd} (h : wfit L) : lg L ≤ 16 := lg_le (fun u hu => (h u hu).2)
theorem s_Mo_fit_loop {c : Nat} (hc : c ≤ 1) {M : List Wrd} {more : Nat → Int64} (h17 : M.length ≤ 17) (hM : wfit M) (hv : rMz M more) {K : Int32 → Int32 → Int32 → Option Int32} :
    ∀ (n k a b : Nat), k ≤ M.length → M.length - k < n → a ≤ 16 → b ≤ 16 → itr (fun _ _ _ => none) (f_Mo_fit_L33 (nI M.length) more (nI c) K) n (nI a) (nI b) (nI k) = K (nI (if c = 0 then (M.drop k).foldl lgF a else a)) (nI (if c = 0 then b else (M.drop k).foldl lgF b)) (nI M.length) := by
  intro n
  induction n with
  | zero => intro k _ _ _ h; omega
  | succ n ih =>
    intro k a b hk hn ha hb
    rw [itr_s, f_Mo_fit_L33]
    rcases Nat.lt_or_ge k M.length with z | z
    · obtain ⟨q1, q2⟩ := hM _ (List.getElem_mem z)
      rw [if_neg (nI_ge z (by omega)), gIn_nI (by omega) (by omega), nI_clamp (by omega), hv k z, s_Mo_lengthOf q1 (by omega), bd1_s, List.drop_eq_getElem_cons z, List.foldl_cons, List.foldl_cons]
      rcases (show c = 0 ∨ c = 1 by omega) with rfl | rfl
      · have h := ih (k + 1) (lgF a M[k]) b z (by omega) (Nat.max_le.mpr ⟨ha, q2⟩) hb
        rw [if_pos rfl, if_pos rfl] at h
        rw [if_pos (show nI 0 = (0 : Int32) from rfl), if_pos rfl, if_pos rfl, ← h, f_Mo_fit_J69, f_Mo_fit_J70, if_pos (show nI 0 = (0 : Int32) from rfl), f_Mo_fit_J70, if_pos (show nI 0 = (0 : Int32) from rfl), f_Mo_fit_J86, f_Mo_fit_J86, f_Mo_fit_J87, f_Mo_fit_J87, bnd_eq, bnd_eq, show nI k + 1 = nI (k + 1) from nI_1 k, lgF, ← mx1 (by omega) (by omega)]
        by_cases y : nI M[k].length ≤ nI a
        · rw [if_pos y, if_pos y]
        · rw [if_neg y, if_neg y]
      · have h := ih (k + 1) a (lgF b M[k]) z (by omega) ha (Nat.max_le.mpr ⟨hb, q2⟩)
        rw [if_neg (by decide), if_neg (by decide)] at h
        rw [if_neg (show ¬ nI 1 = (0 : Int32) by decide), if_neg (by decide), if_neg (by decide), ← h, f_Mo_fit_J69, f_Mo_fit_J70, if_neg (show ¬ nI 1 = (0 : Int32) by decide), f_Mo_fit_J86, f_Mo_fit_J87, f_Mo_fit_J87, bnd_eq, bnd_eq, show nI k + 1 = nI (k + 1) from nI_1 k, lgF, ← mx1 (by omega) (by omega)]
        by_cases y : nI M[k].length ≤ nI b
        · rw [if_pos y, if_pos y]
        · rw [if_neg y, if_neg y]
    · have : k = M.length := by omega
      subst this
      rw [if_pos (nI_le (Nat.le_refl _) (by omega)), List.drop_length, List.foldl_nil, List.foldl_nil]
      split <;> rfl
theorem s_Mo_fit {le c : Nat} {P S M : List Wrd} {m : Nat → Int32} {w more : Nat → Int64} (hT : tok le P S) (hM : tabM le P S m w) (h3 : le ≤ 3) (hc : c ≤ 1) (h17 : M.length ≤ 17) (hMf : wfit M) (hv : rMz M more) : f_Mo_fit (nI c) (nI M.length) m w more = some (if rm c P S M = true then 1 else 0) := by
  have hP := lg16 (tok_wfP hT h3)
  have hS := lg16 (tok_wfS hT h3)
  have h40 := hT.2.2.2.1
  have h16 := hT.2.2.2.2.1
  have hl := tok_lg hT
  have LP := fun K => s_Mo_fit_loop (K := K) hc h17 hMf hv FU 0 (lg P) (lg S) (Nat.zero_le _) (by rw [FU_eq]; omega) hP hS
  simp only [nI_0] at LP
  rw [f_Mo_fit, hM.2.1, hM.2.2.1, show (304 : Int32) = nI 304 from rfl, s_Mo_longest (by omega) (tok_wfP hT h3) hM.2.2.2.1, bd1_s, show (344 : Int32) = nI 344 from rfl, s_Mo_longest (by omega) (tok_wfS hT h3) hM.2.2.2.2, bd1_s, LP, List.drop_zero, lg_fold, lg_fold, nI_add, nI_add]
  have l1 : lg (P ++ M) ≤ 16 := by rw [lg_app]; have := lg16 hMf; omega
  have l2 : lg (S ++ M) ≤ 16 := by rw [lg_app]; have := lg16 hMf; omega
  have J : ∀ (x y : Nat) (t : Bool), x ≤ 16 → y ≤ 16 → f_Mo_fit_J145 (nI x) (nI y) (if t then 1 else 0) = some (if (t && decide (x + 1 + y ≤ 16)) = true then 1 else 0) := by
    intro x y t hx hy
    rw [f_Mo_fit_J145, show nI x + (1 : Int32) = nI (x + 1) from nI_1 x, nI_add]
    cases t with
    | false => rfl
    | true =>
      rw [if_neg (show ¬ (if true = true then (1 : Int32) else 0) = 0 by decide), Bool.true_and]
      rcases Nat.lt_or_ge 16 (x + 1 + y) with z | z
      · rw [if_pos (show (16 : Int32) < nI (x + 1 + y) from Int32.not_le.mp (nI_ge (a := 16) z (by omega))), if_neg (by simp; omega)]
      · rw [if_neg (show ¬ (16 : Int32) < nI (x + 1 + y) from Int32.not_lt.mpr (nI_le (b := 16) z (by omega))), if_pos (by simp; omega)]
  rcases (show c = 0 ∨ c = 1 by omega) with rfl | rfl
  · have z00 : (0 : Nat) = 0 := rfl
    rw [if_pos (show nI 0 = (0 : Int32) from rfl), if_pos z00, if_pos z00]
    have e : rm 0 P S M = (decide (P.length + M.length ≤ 40) && decide (lg (P ++ M) + 1 + lg S ≤ 16)) := by
      apply Bool.eq_iff_iff.mpr
      simp only [rm, adP, adS, if_pos, List.length_append, decide_eq_true_eq, Bool.and_eq_true]
      omega
    rcases Nat.lt_or_ge 40 (P.length + M.length) with z | z
    · rw [if_pos (show (40 : Int32) < nI (P.length + M.length) from Int32.not_le.mp (nI_ge (a := 40) z (by omega)))]
      have := J (lg (P ++ M)) (lg S) false l1 hS
      rw [e, decide_eq_false (show ¬ P.length + M.length ≤ 40 by omega)]
      exact this
    · rw [if_neg (show ¬ (40 : Int32) < nI (P.length + M.length) from Int32.not_lt.mpr (nI_le (b := 40) z (by omega)))]
      have := J (lg (P ++ M)) (lg S) true l1 hS
      rw [e, decide_eq_true (show P.length + M.length ≤ 40 by omega)]
      exact this
  · have z10 : ¬ (1 : Nat) = 0 := by decide
    rw [if_neg (show ¬ nI 1 = (0 : Int32) by decide), if_neg z10, if_neg z10]
    have e : rm 1 P S M = (decide (S.length + M.length ≤ 16) && decide (lg P + 1 + lg (S ++ M) ≤ 16)) := by
      apply Bool.eq_iff_iff.mpr
      simp only [rm, adP, adS, if_neg (show ¬ 1 = 0 by decide), List.length_append, decide_eq_true_eq, Bool.and_eq_true]
      omega
    rcases Nat.lt_or_ge 16 (S.length + M.length) with z | z
    · rw [if_pos (show (16 : Int32) < nI (S.length + M.length) from Int32.not_le.mp (nI_ge (a := 16) z (by omega)))]
      have := J (lg P) (lg (S ++ M)) false hP l2
      rw [e, decide_eq_false (show ¬ S.length + M.length ≤ 16 by omega)]
      exact this
    · rw [if_neg (show ¬ (16 : Int32) < nI (S.length + M.length) from Int32.not_lt.mpr (nI_le (b := 16) z (by omega)))]
      have := J (lg P) (lg (S ++ M)) true hP l2
      rw [e, decide_eq_true (show S.length + M.length ≤ 16 by omega)]
      exact this
/-! adding, in the reference -/
theorem rMo_snoc {b : Nat} {L : List Wrd} {w : Nat → Int64} (h : rMo b L w) (u : Wrd) : rMo b (L ++ [u]) (vp_updL w (b + L.length) (lN (eM u))) := by
  intro k hk
  rw [List.length_append, List.length_singleton] at hk
  rcases Nat.lt_or_ge k L.length with z | z
  · rw [List.getElem_append_left z]
    exact (if_neg (by omega)).trans (h k z)
  · have : k = L.length := by omega
    subst this
    rw [List.getElem_append_right (Nat.le_refl _)]
    simp [vp_updL]
theorem rX_snoc {L : List Wrd} {w : Nat → Int64} (h : rX L w) (u : Wrd) : rX (L ++ [u]) (vp_updL w L.length (lN (eX u))) := by
  intro k hk
  rw [List.length_append, List.length_singleton] at hk
  rcases Nat.lt_or_ge k L.length with z | z
  · rw [List.getElem_append_left z]
    exact (if_neg (by omega)).trans (h k z)
  · have : k = L.length := by omega
    subst this
    rw [List.getElem_append_right (Nat.le_refl _)]
    simp [vp_updL]
theorem rMo_un {b x : Nat} {L : List Wrd} {w : Nat → Int64} (h : rMo b L w) {y : Int64} (hx : x < b ∨ b + L.length ≤ x) : rMo b L (vp_updL w x y) := fun k hk => (if_neg (by omega)).trans (h k hk)
theorem s_Mo_adds_loop {le c : Nat} {P S M : List Wrd} {more : Nat → Int64} {m0 : Nat → Int32} {w0 : Nat → Int64} (hc : c ≤ 1) (h17 : M.length ≤ 17) (hv : rMz M more) (hP : (adP c P M).length ≤ 40) (hS : (adS c S M).length ≤ 16) :
    ∀ (n k : Nat) (m : Nat → Int32) (w : Nat → Int64), k ≤ M.length → M.length - k < n → tabM le (adP c P (M.take k)) (adS c S (M.take k)) m w → (∀ x, x ≠ 38 → x ≠ 39 → x ≠ 41 → m x = m0 x) → (m 41 = if k = 0 then m0 41 else 0) → (∀ x, x < 304 → w x = w0 x) →
      ∃ m' w', itr (fun _ _ _ => none) (f_Mo_adds_L2 (nI M.length) more (nI c) (fun _ v_m_1 v_w_1 => some (v_m_1, v_w_1))) n (nI k) m w = some (m', w') ∧ tabM le (adP c P M) (adS c S M) m' w' ∧ (∀ x, x ≠ 38 → x ≠ 39 → x ≠ 41 → m' x = m0 x) ∧ (m' 41 = if M.length = 0 then m0 41 else 0) ∧ (∀ x, x < 304 → w' x = w0 x) := by
  intro n
  induction n with
  | zero => intro k _ _ _ h; omega
  | succ n ih =>
    intro k m w hk hn hM hf h41 hw
    rw [itr_s, f_Mo_adds_L2]
    rcases Nat.lt_or_ge k M.length with z | z
    · have ht : M.take (k + 1) = M.take k ++ [M[k]] := (List.take_append_getElem z).symm
      have hl : (M.take k).length = k := by rw [List.length_take]; omega
      rw [if_neg (nI_ge z (by omega)), gIn_nI (by omega) (by omega), gIn_nI (by omega) (by omega), nI_clamp (by omega), hv k z]
      obtain ⟨t1, t38, t39, tP, tS⟩ := hM
      rcases (show c = 0 ∨ c = 1 by omega) with rfl | rfl
      · rw [adP, if_pos rfl] at t38 tP
        rw [adS, if_pos rfl] at t39 tS
        rw [adP, if_pos rfl, List.length_append] at hP
        rw [adS, if_pos rfl] at hS
        rw [if_pos (show nI 0 = (0 : Int32) from rfl), t38, show (304 : Int32) + nI (P ++ M.take k).length = nI (304 + (P ++ M.take k).length) from nI_add 304 _, gIn_nI (by rw [List.length_append]; omega) (by omega), nI_clamp (by rw [List.length_append]; omega), bnd_eq, bnd_eq, f_Mo_adds_J83, bnd_eq, bnd_eq, show nI k + 1 = nI (k + 1) from nI_1 k, show nI (P ++ M.take k).length + (1 : Int32) = nI ((P ++ M.take k).length + 1) from nI_1 _]
        refine ih (k + 1) _ _ z (by omega) ⟨?_, ?_, ?_, ?_, ?_⟩ (fun x h1 h2 h3 => by rw [pk_un h3, pk_un h1]; exact hf x h1 h2 h3) (by rw [pk_us, if_neg (by omega)]) (fun x hx => (if_neg (by rw [List.length_append]; omega)).trans (hw x hx))
        · rw [pk_un (by decide), pk_un (by decide), t1]
        · rw [pk_un (by decide), pk_us, adP, if_pos rfl, ht, ← List.append_assoc, List.length_append (as := P ++ M.take k)]; rfl
        · rw [pk_un (by decide), pk_un (by decide), t39, adS, if_pos rfl]
        · rw [adP, if_pos rfl, ht, ← List.append_assoc]
          exact rMo_snoc tP _
        · rw [adS, if_pos rfl]
          exact rMo_un tS (by rw [List.length_append]; omega)
      · rw [adP, if_neg (by decide)] at t38 tP
        rw [adS, if_neg (by decide)] at t39 tS
        rw [adS, if_neg (by decide), List.length_append] at hS
        rw [adP, if_neg (by decide)] at hP
        rw [if_neg (show ¬ nI 1 = (0 : Int32) by decide), t39, show (344 : Int32) + nI (S ++ M.take k).length = nI (344 + (S ++ M.take k).length) from nI_add 344 _, gIn_nI (by rw [List.length_append]; omega) (by omega), nI_clamp (by rw [List.length_append]; omega), bnd_eq, bnd_eq, f_Mo_adds_J83, bnd_eq, bnd_eq, show nI k + 1 = nI (k + 1) from nI_1 k, show nI (S ++ M.take k).length + (1 : Int32) = nI ((S ++ M.take k).length + 1) from nI_1 _]
        refine ih (k + 1) _ _ z (by omega) ⟨?_, ?_, ?_, ?_, ?_⟩ (fun x h1 h2 h3 => by rw [pk_un h3, pk_un h2]; exact hf x h1 h2 h3) (by rw [pk_us, if_neg (by omega)]) (fun x hx => (if_neg (by rw [List.length_append]; omega)).trans (hw x hx))
        · rw [pk_un (by decide), pk_un (by decide), t1]
        · rw [pk_un (by decide), pk_un (by decide), t38, adP, if_neg (by decide)]
        · rw [pk_un (by decide), pk_us, adS, if_neg (by decide), ht, ← List.append_assoc, List.length_append (as := S ++ M.take k)]; rfl
        · rw [adP, if_neg (by decide)]
          exact rMo_un tP (by rw [List.length_append]; omega)
        · rw [adS, if_neg (by decide), ht, ← List.append_assoc]
          exact rMo_snoc tS _
    · have : k = M.length := by omega
      subst this
      rw [if_pos (nI_le (Nat.le_refl _) (by omega))]
      rw [List.take_length] at hM
      exact ⟨m, w, rfl, hM, hf, h41, hw⟩
theorem adP_nil (c : Nat) (P : List Wrd) : adP c P [] = P := by
  rw [adP]
  by_cases z : c = 0
  · rw [if_pos z, List.append_nil]
  · rw [if_neg z]
theorem adS_nil (c : Nat) (S : List Wrd) : adS c S [] = S := by
  rw [adS]
  by_cases z : c = 0
  · rw [if_pos z]
  · rw [if_neg z, List.append_nil]
theorem s_Mo_adds {le c : Nat} {P S M : List Wrd} {m : Nat → Int32} {w more : Nat → Int64} (hM : tabM le P S m w) (hc : c ≤ 1) (h17 : M.length ≤ 17) (hv : rMz M more) (hP : (adP c P M).length ≤ 40) (hS : (adS c S M).length ≤ 16) :
    ∃ m' w', f_Mo_adds (nI c) (nI M.length) m w more = some (m', w') ∧ tabM le (adP c P M) (adS c S M) m' w' ∧ (∀ x, x ≠ 38 → x ≠ 39 → x ≠ 41 → m' x = m x) ∧ (m' 41 = if M.length = 0 then m 41 else 0) ∧ (∀ x, x < 304 → w' x = w x) := by
  refine s_Mo_adds_loop (m0 := m) (w0 := w) hc h17 hv hP hS FU 0 m w (Nat.zero_le _) (by rw [FU_eq]; omega) ?_ (fun _ _ _ _ => rfl) rfl (fun _ _ => rfl)
  rw [List.take_zero, adP_nil, adS_nil]
  exact hM

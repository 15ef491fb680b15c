/-! ===== the text, and what is asked by it ===== -/
def RX (tn : Int32) (tx : Nat → Int32) (tn2 : Int32) (tx2 : Nat → Int32) : Prop := ∃ T : List Nat, T.length ≤ 16 ∧ (∀ c ∈ T, c ≤ 127) ∧ tn = nI T.length ∧ tn2 = nI T.length ∧ (∀ k (h : k < T.length), tx k = nI T[k]) ∧ ∀ k (h : k < T.length), tx2 k = nI T[k]
def tw (le : Nat) (T : List Nat) : Option Wrd := if (∀ c ∈ T, 97 ≤ c ∧ c < 97 + le) then some (T.map (fun c => c - 97)) else none
def wvM (o : Option Wrd) : Int64 := match o with | none => -1 | some w => lN (eM w)
theorem chr_lo : ∀ c, c < 97 → nI c - (97 : Int32) < 0 := by decide +kernel
theorem map_take_s {T : List Nat} {k : Nat} (hk : k < T.length) : ((T.take k).map (fun c => c - 97)) ++ [T[k] - 97] = (T.take (k + 1)).map (fun c => c - 97) := by
  rw [List.take_succ_eq_append_getElem hk, List.map_append]; rfl
theorem pre_wle {le : Nat} {T : List Nat} {k : Nat} (h : ∀ j (hj : j < T.length), j < k → 97 ≤ T[j] ∧ T[j] < 97 + le) : wle le ((T.take k).map (fun c => c - 97)) := by
  intro a ha
  obtain ⟨c, h1, rfl⟩ := List.mem_map.mp ha
  obtain ⟨j, h2, rfl⟩ := List.mem_iff_getElem.mp h1
  rw [List.length_take] at h2
  rw [List.getElem_take]
  have := h j (by omega) (by omega)
  omega
theorem tw_bad {le : Nat} {T : List Nat} {k : Nat} (hk : k < T.length) (h : ¬ (97 ≤ T[k] ∧ T[k] < 97 + le)) : tw le T = none := if_neg (fun q => h (q _ (List.getElem_mem hk)))
theorem tw_good {le : Nat} {T : List Nat} (h : ∀ j (hj : j < T.length), j < T.length → 97 ≤ T[j] ∧ T[j] < 97 + le) : tw le T = some (T.map (fun c => c - 97)) := if_pos (fun c hc => by
  obtain ⟨j, h2, rfl⟩ := List.mem_iff_getElem.mp hc
  exact h j h2 h2)
theorem s_TL_textWord {le : Nat} {T : List Nat} {tx : Nat → Int32} (h0 : 0 < le) (h3 : le ≤ 3) (h16 : T.length ≤ 16) (h127 : ∀ c ∈ T, c ≤ 127) (hx : ∀ k (h : k < T.length), tx k = nI T[k]) : f_TL_textWord (nI T.length) (nI le) tx = some (wvX (tw le T)) := by
  have : ∀ (n k : Nat), k ≤ T.length → T.length - k < n → (∀ j (hj : j < T.length), j < k → 97 ≤ T[j] ∧ T[j] < 97 + le) → itr (fun _ _ => none) (f_TL_textWord_L4 (nI T.length) (nI le) tx (fun x1 _ => some x1)) n (lN (eX ((T.take k).map (fun c => c - 97)))) (nI k) = some (wvX (tw le T)) := by
    intro n
    induction n with
    | zero => intro k _ h; omega
    | succ n ih =>
      intro k hk hn hp
      rw [itr_s, f_TL_textWord_L4]
      rcases Nat.lt_or_ge k T.length with z | z
      · rw [if_neg (nI_ge z (by omega)), gIn_nI (by omega) (by omega), nI_clamp (by omega), hx k z]
        simp only [bnd_eq]
        have hc := h127 _ (List.getElem_mem z)
        rcases Nat.lt_or_ge T[k] 97 with q | q
        · rw [f_Au_hasLetter, if_pos (chr_lo _ q), bd1_s, if_pos rfl, tw_bad z (by omega)]; rfl
        · have e : nI T[k] - (97 : Int32) = nI (T[k] - 97) := pk_sub (b := 97) q
          rw [e, f_Au_hasLetter, if_neg (show ¬ nI (T[k] - 97) < 0 from nI_pos (by omega))]
          by_cases q2 : T[k] < 97 + le
          · rw [if_neg (nI_ge (show T[k] - 97 < le by omega) (by omega)), bd1_s, if_neg (show ¬ (1 : Int32) = 0 by decide), s_Ws_append (wle_ok (pre_wle hp) h3) (by omega) (by rw [List.length_map, List.length_take]; omega), bd1_s, show nI k + 1 = nI (k + 1) from nI_1 k, map_take_s z]
            refine ih (k + 1) (by omega) (by omega) (fun j hj hjk => ?_)
            rcases Nat.lt_or_ge j k with y | y
            · exact hp j hj y
            · have : j = k := by omega
              subst this; exact ⟨q, q2⟩
          · rw [if_pos (nI_le (by omega) (by omega)), bd1_s, if_pos rfl, tw_bad z (by omega)]; rfl
      · have e : k = T.length := by omega
        subst e
        rw [if_pos (nI_le (Nat.le_refl _) (by omega)), List.take_length, tw_good hp]; rfl
  exact this FU 0 (Nat.zero_le _) (by rw [FU_eq]; omega) (fun j _ h => absurd h (Nat.not_lt_zero _))
theorem s_Mo_told {le : Nat} {T : List Nat} {tx m : Nat → Int32} (hm : m 1 = nI le) (h0 : 0 < le) (h3 : le ≤ 3) (h16 : T.length ≤ 16) (h127 : ∀ c ∈ T, c ≤ 127) (hx : ∀ k (h : k < T.length), tx k = nI T[k]) : f_Mo_told (nI T.length) m tx = some (wvM (tw le T)) := by
  have e97 : (97 : Int32) + nI le - 1 = nI (97 + le - 1) := by rw [fl, nI_add]; exact pk_sub (b := 1) (by omega)
  have : ∀ (n k : Nat), k ≤ T.length → T.length - k < n → (∀ j (hj : j < T.length), j < k → 97 ≤ T[j] ∧ T[j] < 97 + le) → itr (fun _ _ => none) (f_Mo_told_L4 (nI T.length) m tx (fun x1 _ => some x1)) n (lN (eM ((T.take k).map (fun c => c - 97)))) (nI k) = some (wvM (tw le T)) := by
    intro n
    induction n with
    | zero => intro k _ h; omega
    | succ n ih =>
      intro k hk hn hp
      rw [itr_s, f_Mo_told_L4]
      rcases Nat.lt_or_ge k T.length with z | z
      · have hc := h127 _ (List.getElem_mem z)
        rw [if_neg (nI_ge z (by omega)), gIn_nI (by omega) (by omega), nI_clamp (by omega), hx k z, hm, e97, s_Mo_in, bd1_s, gIn_nI (by omega) (by omega)]
        rcases Nat.lt_or_ge T[k] 97 with q | q
        · rw [if_pos (show (if nI T[k] < 97 ∨ nI (97 + le - 1) < nI T[k] then (0 : Int32) else 1) = 0 from if_pos (Or.inl (nI_lt (b := 97) q (by omega)))), tw_bad z (by omega)]; rfl
        · by_cases q2 : T[k] < 97 + le
          · have e : nI T[k] - (97 : Int32) = nI (T[k] - 97) := pk_sub (b := 97) q
            rw [if_neg (show ¬ (if nI T[k] < 97 ∨ nI (97 + le - 1) < nI T[k] then (0 : Int32) else 1) = 0 by
              rw [if_neg]
              · decide
              · rintro (y | y)
                · rw [fl, nI_ltI (by omega) (by omega)] at y; omega
                · rw [nI_ltI (by omega) (by omega)] at y; omega), e, s_Mo_longer' (by omega), bd1_s, map_take_s z]
            simp only [bnd_eq]
            rw [show nI k + 1 = nI (k + 1) from nI_1 k]
            refine ih (k + 1) (by omega) (by omega) (fun j hj hjk => ?_)
            rcases Nat.lt_or_ge j k with y | y
            · exact hp j hj y
            · have : j = k := by omega
              subst this; exact ⟨q, q2⟩
          · rw [if_pos (show (if nI T[k] < 97 ∨ nI (97 + le - 1) < nI T[k] then (0 : Int32) else 1) = 0 from if_pos (Or.inr (nI_lt (by omega) (by omega)))), tw_bad z (by omega)]; rfl
      · have e : k = T.length := by omega
        subst e
        rw [if_pos (nI_le (Nat.le_refl _) (by omega)), List.take_length, tw_good hp]; rfl
  exact this FU 0 (Nat.zero_le _) (by rw [FU_eq]; omega) (fun j _ h => absurd h (Nat.not_lt_zero _))
/-- both read the text alike -/
theorem s_text {le : Nat} {tn tn2 : Int32} {tx tx2 m : Nat → Int32} (hX : RX tn tx tn2 tx2) (hm : m 1 = nI le) (h0 : 0 < le) (h3 : le ≤ 3) :
    (f_TL_textWord tn (nI le) tx = some (-1) ∧ f_Mo_told tn2 m tx2 = some (-1)) ∨ ∃ u : Wrd, f_TL_textWord tn (nI le) tx = some (lN (eX u)) ∧ f_Mo_told tn2 m tx2 = some (lN (eM u)) ∧ wle le u ∧ u.length ≤ 16 ∧ tn2 = nI u.length ∧ ¬ lN (eX u) = (-1 : Int64) ∧ ¬ lN (eM u) < (0 : Int64) := by
  obtain ⟨T, h1, h2, rfl, rfl, h5, h6⟩ := hX
  rw [s_TL_textWord h0 h3 h1 h2 h5, s_Mo_told hm h0 h3 h1 h2 h6]
  by_cases q : ∀ c ∈ T, 97 ≤ c ∧ c < 97 + le
  · have e : tw le T = some (T.map (fun c => c - 97)) := if_pos q
    have hw : wle le (T.map (fun c => c - 97)) := fun a ha => by
      obtain ⟨c, z1, rfl⟩ := List.mem_map.mp ha
      have := q c z1
      omega
    have hl : (T.map (fun c => c - 97)).length ≤ 16 := by rw [List.length_map]; exact h1
    have s1 := eX_small (wle_ok hw h3) (by omega)
    have s2 := eM_small (wle_ok hw h3) (by omega)
    rw [e]
    exact Or.inr ⟨_, rfl, rfl, hw, hl, by rw [List.length_map], lN_m1 (by omega), lN_nlt0 (by omega)⟩
  · have e : tw le T = none := if_neg q
    rw [e]
    exact Or.inl ⟨rfl, rfl⟩
theorem s_type {tn tn2 : Int32} {tx tx2 : Nat → Int32} (hX : RX tn tx tn2 tx2) (x : Int32) : ∃ r tx' tn' tx2' tn2', f_TL_type x tn tx = some (r, tx', tn') ∧ f_Mo_type x tn2 tx2 = some (r, tx2', tn2') ∧ RX tn' tx' tn2' tx2' := by
  rw [f_TL_type, f_Mo_type, s_Mo_in, bd1_s]
  by_cases h1 : x < 0
  · rw [if_pos h1, if_pos (show (if x < 0 ∨ 127 < x then (0 : Int32) else 1) = 0 from if_pos (Or.inl h1))]
    exact ⟨_, _, _, _, _, rfl, rfl, hX⟩
  rw [if_neg h1]
  by_cases h2 : x ≤ 127
  · have h2' : ¬ 127 < x := Int32.not_lt.mpr h2
    rw [if_pos h2, if_neg (show ¬ (if x < 0 ∨ 127 < x then (0 : Int32) else 1) = 0 by rw [if_neg (fun q => q.elim h1 h2')]; decide)]
    obtain ⟨c, -, hc, rfl⟩ := in_nI (a := 0) (b := 127) (by decide) h1 h2 (by decide)
    have hX' := hX
    obtain ⟨T, g1, g2, rfl, rfl, g5, g6⟩ := hX'
    by_cases z : T.length < 16
    · rw [if_pos (show nI T.length < (16 : Int32) from nI_lt (b := 16) z (by omega)), if_neg (show ¬ nI T.length = (16 : Int32) by rw [fl, nI_eq (by omega) (by omega)]; omega), gIn_nI z (by omega), gIn_nI z (by omega), nI_clamp (by omega)]
      simp only [bnd_eq]
      have hat : ∀ (f : Nat → Int32), (∀ k (h : k < T.length), f k = nI T[k]) → ∀ k (h : k < (T ++ [c]).length), upd f T.length (nI c) k = nI (T ++ [c])[k] := by
        intro f hf k hk
        rw [List.length_append, List.length_singleton] at hk
        rcases Nat.lt_or_ge k T.length with y | y
        · rw [pk_un (by omega), hf k y, List.getElem_append_left y]
        · have : k = T.length := by omega
          subst this
          rw [pk_us, List.getElem_append_right (Nat.le_refl _)]
          simp
      refine ⟨_, _, _, _, _, rfl, rfl, T ++ [c], by rw [List.length_append, List.length_singleton]; omega, fun x hx => ?_, ?_, ?_, hat _ g5, hat _ g6⟩
      · rcases List.mem_append.mp hx with q | q
        · exact g2 x q
        · rw [List.mem_singleton] at q; omega
      · rw [fl, nI_add, List.length_append]; rfl
      · rw [fl, nI_add, List.length_append]; rfl
    · have e : T.length = 16 := by omega
      rw [if_neg (show ¬ nI T.length < (16 : Int32) by rw [e]; decide), if_pos (show nI T.length = (16 : Int32) by rw [e]; rfl)]
      exact ⟨_, _, _, _, _, rfl, rfl, hX⟩
  · have h2' : 127 < x := Int32.not_le.mp h2
    rw [if_neg h2, if_pos (show (if x < 0 ∨ 127 < x then (0 : Int32) else 1) = 0 from if_pos (Or.inr h2'))]
    exact ⟨_, _, _, _, _, rfl, rfl, hX⟩
theorem s_clearText {tn tn2 : Int32} {tx tx2 : Nat → Int32} (hX : RX tn tx tn2 tx2) : ∃ r tn' tn2', f_TL_clearText tn = some (r, tn') ∧ f_Mo_clearText tn2 = some (r, tn2') ∧ RX tn' tx tn2' tx2 := by
  obtain ⟨T, g1, g2, rfl, rfl, g5, g6⟩ := hX
  exact ⟨_, _, _, rfl, rfl, [], by decide, (fun _ h => by cases h), rfl, rfl, fun k hk => absurd hk (Nat.not_lt_zero _), fun k hk => absurd hk (Nat.not_lt_zero _)⟩
section
variable {tS tL : Int32} {tM tF : Nat → Int32} {lc : Int32} {lv : Nat → Int64} {mode budget formed : Int32} {ce : Int64} {corr dec qn : Int32} {E : Nat → Int64} {tl pn pl : Int32} {pv : Nat → Int64} {sn sl : Int32} {sv : Nat → Int64} {kn bi : Nat → Int32} {hs hl : Int32} {hm hf rep m : Nat → Int32} {w : Nat → Int64} {tn tn2 : Int32} {tx tx2 : Nat → Int32}
theorem s_accepts (h : RW tS tL tM tF lc lv mode budget formed ce corr dec qn E tl pn pl pv sn sl sv kn bi hs hl hm hf rep m w) (hX : RX tn tx tn2 tx2) : ∃ r, f_TL_accepts tn tL tM tF tx = some r ∧ f_Mo_accepts tn2 m tx2 = some r := by
  obtain ⟨sz, le, b, n, mo, szh, al, L, tm, tf, ml, mf, re, P, S, hR⟩ := h
  obtain ⟨t1, t2, t3, rfl, rfl, t6, t7, t8, t9, t10, t11, t12, -, t19, t20, t21, t22, t23, t24⟩ := RA_RT hR
  rw [f_TL_accepts, f_Mo_accepts]
  rcases s_text hX t7 t1 t2 with ⟨e1, e2⟩ | ⟨u, e1, e2, e3, e4, e5, e6, e7⟩
  · rw [e1, e2, bd1_s, bd1_s, if_pos rfl, if_pos (by decide)]
    exact ⟨_, rfl, rfl⟩
  · rw [e1, e2, bd1_s, bd1_s, if_neg e6, if_neg e7, s_Au_verdict (sz := sz) (by omega) (by omega) (by omega) (by omega) t19 t20 t23 t2 e3 e4, bd1_s, s_Mo_truth t3 t21 t22 t23 t2 e3 (by omega), bd1_s]
    exact ⟨_, rfl, rfl⟩
theorem s_ask (h : RW tS tL tM tF lc lv mode budget formed ce corr dec qn E tl pn pl pv sn sl sv kn bi hs hl hm hf rep m w) (hX : RX tn tx tn2 tx2) : ∃ r E' qn' m' w', f_TL_ask tn lc tL tM tF lv budget qn E tx = some (r, E', qn') ∧ f_Mo_ask tn2 m w tx2 = some (r, m', w') ∧ RW tS tL tM tF lc lv mode budget formed ce corr dec qn' E' tl pn pl pv sn sl sv kn bi hs hl hm hf rep m' w' := by
  have h0 := h
  obtain ⟨sz, le, b, n, mo, szh, al, L, tm, tf, ml, mf, re, P, S, hR⟩ := h
  obtain ⟨t1, t2, t3, -, -, t6, t7, -⟩ := RA_RT hR
  have hR0 := hR
  obtain ⟨a1, rfl, rfl, a4, rfl, a6, hA, rfl, a9, a10, rfl, rfl, rfl, a14, a15, rfl, rfl, a18, rfl, rfl, rfl, a22, rfl, rfl, a25, hT, hM, hC, hH⟩ := hR0
  rw [f_TL_ask, f_Mo_ask]
  rcases s_text hX t7 t1 t2 with ⟨e1, e2⟩ | ⟨u, e1, e2, e3, e4, e5, e6, e7⟩
  · rw [e1, e2, bd1_s, bd1_s, if_pos rfl, if_pos (by decide)]
    exact ⟨_, _, _, _, _, rfl, rfl, h0⟩
  · obtain ⟨r, al', n', E', m', w', k1, k2, k3, k4, k5, k6⟩ := ask3 hA e3 e4
    rw [e1, e2, bd1_s, bd1_s, if_neg e6, if_neg e7, k1, bd3_s, k2, bd3_s]
    have f := k5.1
    refine ⟨_, _, _, _, _, rfl, rfl, RW_mk (X := []) hR (fun x hx => f x (by omega) (by omega)) k3 hT (frA_tab k5 hM) (List.append_nil _).symm a22 a25 ?_ (f 41 (by decide) (by omega)).symm (by rw [f 41 (by decide) (by omega)]; exact a14) (RC_fr a15 (fun x hx => f x (by omega) (by omega))) (f 42 (by decide) (by omega)).symm (f 43 (by decide) (by omega)).symm (by rw [f 43 (by decide) (by omega)]; exact a18)⟩
    have := cch_grow (X := []) (Y := []) hC k4 (by rw [List.append_nil]; exact hT.2.2.2.1) t2
    rwa [List.append_nil, List.append_nil] at this
theorem s_hasHyp {szh : Nat} (h : szh ≤ 40) : f_Le_hasHypothesis (nI szh) = some (if szh = 0 then 0 else 1) := by
  rw [f_Le_hasHypothesis]
  simp only [bnd_eq]
  by_cases z : szh = 0
  · subst z; rfl
  · rw [if_neg z, if_neg (show ¬ nI szh ≤ (0 : Int32) from nI_ge (a := 0) (by omega) (by omega))]; rfl
theorem s_guess (h : RW tS tL tM tF lc lv mode budget formed ce corr dec qn E tl pn pl pv sn sl sv kn bi hs hl hm hf rep m w) (hX : RX tn tx tn2 tx2) : ∃ r, f_TL_guess tn tL hs hm hf tx = some r ∧ f_Mo_guess tn2 m tx2 = some r := by
  obtain ⟨sz, le, b, n, mo, szh, al, L, tm, tf, ml, mf, re, P, S, hR⟩ := h
  obtain ⟨t1, t2, t3, rfl, rfl, t6, t7, -⟩ := RA_RT hR
  obtain ⟨-, -, -, -, -, -, -, -, -, -, -, -, -, -, -, -, -, -, -, -, -, -, -, -, -, -, -, -, rfl, h2, h3, h4, h5⟩ := hR
  rw [f_TL_guess, f_Mo_guess]
  rcases s_text hX t7 t1 t2 with ⟨e1, e2⟩ | ⟨u, e1, e2, e3, e4, e5, e6, e7⟩
  · rw [e1, e2, bd1_s, bd1_s, if_pos rfl, if_pos (by decide)]
    exact ⟨_, rfl, rfl⟩
  · rw [e1, e2, bd1_s, bd1_s, if_neg e6, if_neg e7, s_hasHyp h3, bd1_s, h2]
    by_cases z : szh = 0
    · subst z
      rw [if_pos (show (if (0 : Nat) = 0 then (0 : Int32) else 1) = 0 from rfl), if_pos (show nI 0 = (0 : Int32) from rfl)]
      exact ⟨_, rfl, rfl⟩
    · obtain ⟨g1, g2, g3, g4, g5, g6, g7, g8, g9⟩ := h5 (by omega)
      rw [if_neg (show ¬ (if szh = 0 then (0 : Int32) else 1) = 0 by rw [if_neg z]; decide), if_neg (show ¬ nI szh = (0 : Int32) by rw [nI_eq0 (by omega)]; exact z), s_Au_verdict (sz := szh) (by omega) (by omega) (by omega) (by omega) g2 g3 g1 t2 e3 e4, bd1_s]
      have : ∀ (n k : Nat), k ≤ u.length → u.length - k < n → itr (fun _ _ => none) (f_Mo_guess_L32 tn2 m (lN (eM u)) (fun x3 x4 => (gIn ((481 : Int32) + x3) 561 (some (m ((481 : Int32) + x3).toNatClampNeg))))) n (nI (rn ml 0 (u.take k))) (nI k) = some (nI (mf (rn ml 0 u))) := by
        intro n
        induction n with
        | zero => intro k _ h; omega
        | succ n ih =>
          intro k hk hn
          have hs := rn_lt g1 (wle_take e3 k) g1.1
          rw [itr_s, f_Mo_guess_L32, e5]
          rcases Nat.lt_or_ge k u.length with y | y
          · have hlt : u[k] < le := e3 _ (List.getElem_mem y)
            rw [if_neg (nI_ge y (by omega)), s_Mo_letterOf (wle_ok e3 t2) (by omega) y, bd1_s, show (361 : Int32) = nI 361 from rfl, ix3o, gIn_nI (by omega) (by omega), nI_clamp (by omega), g7 _ _ hs hlt]
            simp only [bnd_eq]
            rw [show nI k + 1 = nI (k + 1) from nI_1 k, ← rn_take (ml := ml) (s := 0) y, ← e5]
            exact ih (k + 1) (by omega) (by omega)
          · have e : k = u.length := by omega
            subst e
            rw [List.take_length] at hs ⊢
            rw [if_pos (nI_le (Nat.le_refl _) (by omega)), show (481 : Int32) = nI 481 from rfl, nI_add, gIn_nI (by omega) (by omega), nI_clamp (by omega), g8 _ hs]
      exact ⟨_, rfl, this FU 0 (Nat.zero_le _) (by rw [FU_eq]; omega)⟩
end

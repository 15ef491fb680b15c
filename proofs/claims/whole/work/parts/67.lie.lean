/-! ===== lies, on both sides ===== -/
theorem nd_at {L : List Wrd} (h : L.Nodup) {i j : Nat} (hi : i < L.length) (hj : j < L.length) (e : L[i] = L[j]) : i = j := by
  have h' := List.pairwise_iff_getElem.mp h
  rcases Nat.lt_trichotomy i j with q | q | q
  · exact absurd e (h' i j hi hj q)
  · exact q
  · exact absurd e.symm (h' j i hj hi q)
def sel (L : List Wrd) (g : Nat → Nat) (n : Nat) : List Wrd := (List.range n).map (fun k => L.getD (g k) [])
theorem sel_len (L : List Wrd) (g : Nat → Nat) (n : Nat) : (sel L g n).length = n := by rw [sel, List.length_map, List.length_range]
theorem sel_at {L : List Wrd} {g : Nat → Nat} {n k : Nat} (hk : k < (sel L g n).length) (hg : g k < L.length) : (sel L g n)[k] = L[g k] := by
  have h : (sel L g n)[k]? = some L[g k] := by
    rw [sel_len] at hk
    rw [sel, List.getElem?_map, List.getElem?_range hk, Option.map_some, List.getD_eq_getElem?_getD, List.getElem?_eq_getElem hg, Option.getD_some]
  rw [List.getElem?_eq_getElem hk] at h
  exact Option.some.inj h
theorem sel_ok {L : List Wrd} (hnd : L.Nodup) {p : Nat} (hp : p < L.length) {g : Nat → Nat} (h1 : ∀ k, k < L.length - 1 → g k < L.length ∧ g k ≠ p) (h2 : ∀ i j, i < j → j < L.length - 1 → g i ≠ g j) (h3 : ∀ i, i < L.length → i ≠ p → ∃ k, k < L.length - 1 ∧ g k = i) :
    (sel L g (L.length - 1)).Nodup ∧ ∀ x, x ∈ sel L g (L.length - 1) ↔ (x ∈ L ∧ x ≠ L[p]) := by
  refine ⟨?_, fun x => ⟨fun hx => ?_, fun hx => ?_⟩⟩
  · refine List.pairwise_iff_getElem.mpr (fun i j hi hj hij e => ?_)
    have hi' := hi
    have hj' := hj
    rw [sel_len] at hi' hj'
    rw [sel_at hi (h1 i hi').1, sel_at hj (h1 j hj').1] at e
    exact h2 i j hij hj' (nd_at hnd _ _ e)
  · obtain ⟨k, hk, rfl⟩ := List.mem_iff_getElem.mp hx
    have hk' := hk
    rw [sel_len] at hk'
    rw [sel_at hk (h1 k hk').1]
    exact ⟨List.getElem_mem _, fun e => (h1 k hk').2 (nd_at hnd _ _ e)⟩
  · obtain ⟨i, hi, rfl⟩ := List.mem_iff_getElem.mp hx.1
    obtain ⟨k, hk, e⟩ := h3 i hi (fun q => hx.2 (by subst q; rfl))
    subst e
    have hk2 : k < (sel L g (L.length - 1)).length := by rw [sel_len]; exact hk
    rw [← sel_at hk2 hi]
    exact List.getElem_mem _
theorem lok_sel {L : List Wrd} (h : lok L) {g : Nat → Nat} {n : Nat} (hg : ∀ k, k < n → g k < L.length) : lok (sel L g n) := fun x hx => by
  obtain ⟨k, hk, rfl⟩ := List.mem_iff_getElem.mp hx
  have hk' := hk
  rw [sel_len] at hk'
  rw [sel_at hk (hg k hk')]
  exact h _ (List.getElem_mem _)
theorem s_Mo_lie_L85 {m : Nat → Int32} {w : Nat → Int64} {K : Int32 → (Nat → Int64) → Option (Int32 × (Nat → Int32) × (Nat → Int64))} {N p : Nat} (hN : N < 100) (hm : m 34 = nI N) : ∀ (n k : Nat), p ≤ k → k ≤ N → N - k < n → itr (fun _ _ => none) (f_Mo_lie_L85 m K) n (nI k) (fun j => if p ≤ j ∧ j < k then w (j + 1) else w j) = K (nI N) (fun j => if p ≤ j ∧ j < N then w (j + 1) else w j) := by
  intro n
  induction n with
  | zero => intro k _ _ h; omega
  | succ n ih =>
    intro k h2 hk hn
    rw [itr_s, f_Mo_lie_L85, hm]
    rcases Nat.lt_or_ge k N with z | z
    · have e1 : nI k + (1 : Int32) = nI (k + 1) := nI_1 k
      rw [if_neg (nI_ge z (by omega)), e1, gIn_nI (by omega) (by omega), gIn_nI (by omega) (by omega), nI_clamp (by omega), nI_clamp (by omega)]
      simp only [bnd_eq]
      rw [← ih (k + 1) (by omega) (by omega) (by omega)]
      refine congrArg (itr (fun _ _ => none) (f_Mo_lie_L85 m K) n (nI (k + 1))) (funext fun j => ?_)
      by_cases e : j = k
      · subst e
        rw [pk_uLs, if_neg (by omega), if_pos (by omega)]
      · rw [pk_uLn e]
        by_cases q : p ≤ j ∧ j < k
        · rw [if_pos q, if_pos (by omega)]
        · rw [if_neg q, if_neg (by omega)]
    · have : k = N := by omega
      subst this
      rw [if_pos (nI_le (Nat.le_refl _) (by omega))]
section
variable {tS tL : Int32} {tM tF : Nat → Int32} {lc : Int32} {lv : Nat → Int64} {mode budget formed : Int32} {ce : Int64} {corr dec qn : Int32} {E : Nat → Int64} {tl pn pl : Int32} {pv : Nat → Int64} {sn sl : Int32} {sv : Nat → Int64} {kn bi : Nat → Int32} {hs hl : Int32} {hm hf rep m : Nat → Int32} {w : Nat → Int64} {tn tn2 : Int32} {tx tx2 : Nat → Int32}
theorem s_lie (h : RW tS tL tM tF lc lv mode budget formed ce corr dec qn E tl pn pl pv sn sl sv kn bi hs hl hm hf rep m w) (hX : RX tn tx tn2 tx2) :
    ∃ r lv' lc' qn' pv' pn' pl' sv' sn' sl' kn' bi' tl' hm' hf' hs' hl' fo' ce' co' de' m' w', f_TL_lie tn lc tL lv formed ce corr dec qn tl pn pl pv sn sl sv kn bi hs hl hm hf tx = some (r, lv', lc', qn', pv', pn', pl', sv', sn', sl', kn', bi', tl', hm', hf', hs', hl', fo', ce', co', de') ∧ f_Mo_lie tn2 m w tx2 = some (r, m', w') ∧ RW tS tL tM tF lc' lv' mode budget fo' ce' co' de' qn' E tl' pn' pl' pv' sn' sl' sv' kn' bi' hs' hl' hm' hf' rep m' w' := by
  have bad : ∀ (r : Int32) (c : Option (Int32 × (Nat → Int32) × (Nat → Int64))), c = some (r, m, w) → ∃ r' lv' lc' qn' pv' pn' pl' sv' sn' sl' kn' bi' tl' hm' hf' hs' hl' fo' ce' co' de' m' w', some (r, lv, lc, qn, pv, pn, pl, sv, sn, sl, kn, bi, tl, hm, hf, hs, hl, formed, ce, corr, dec) = some (r', lv', lc', qn', pv', pn', pl', sv', sn', sl', kn', bi', tl', hm', hf', hs', hl', fo', ce', co', de') ∧ c = some (r', m', w') ∧ RW tS tL tM tF lc' lv' mode budget fo' ce' co' de' qn' E tl' pn' pl' pv' sn' sl' sv' kn' bi' hs' hl' hm' hf' rep m' w' := fun r c hc => ⟨_, _, _, _, _, _, _, _, _, _, _, _, _, _, _, _, _, _, _, _, _, _, _, rfl, hc, h⟩
  obtain ⟨sz, le, b, n, mo, szh, al, L, tm, tf, ml, mf, re, P, S, hR⟩ := id h
  have hT := RA_RT hR
  obtain ⟨a1, a2, a3, a4, a5, a6, ⟨b1, b2, b3, b4, b5, b6, b7⟩, a8, a9, a10, a11, a12⟩ := hR
  obtain ⟨t1, t2, t3, rfl, rfl, t6, t7, rfl, t9, t10, t11, t12, ⟨L2, t13, t14, t15, t16, t17, t18⟩, t19, t20, t21, t22, t23, t24⟩ := hT
  rw [f_TL_lie, f_Mo_lie]
  rcases s_text hX t7 t1 t2 with ⟨e1, e2⟩ | ⟨u, e1, e2, e3, e4, e5, e6, e7⟩
  · rw [e1, e2, bd1_s, bd1_s, if_pos rfl]; exact bad _ _ (if_pos (by decide))
  have hok := wle_ok e3 t2
  rw [e1, e2, bd1_s, bd1_s, if_neg e6, if_neg e7, f_Te_turnLie, s_Te_placeOfLie t10 t11 t12 hok e4, bd1_s, s_Mo_lieOf t13 (by omega) t17 t18 hok e4, bd1_s, t17]
  have fin : ∀ (L' L2' : List Wrd) (lv' : Nat → Int64) (m1 : Nat → Int32) (w1 : Nat → Int64), L'.Nodup → lok L' → L'.length ≤ 4 → (∀ k (h : k < L'.length), lv' k = lN (eX L'[k])) → lok L2' → L2'.length = L'.length → (∀ x, x ∈ L2' ↔ x ∈ L') → L2'.Nodup → m1 34 = nI L2'.length → (∀ k (h : k < L2'.length), w1 k = lN (eM L2'[k])) → (∀ x, x ≠ 34 → m1 x = m x) →
      ∃ r' lv'' lc' qn' pv' pn' pl' sv' sn' sl' kn' bi' tl' hm' hf' hs' hl' fo' ce' co' de' m' w', bd18 (f_Wo_startLearner (nI le) pv sv kn bi hm hf) (fun c1 c2 c3 c4 c5 c6 c7 c8 c9 c10 c11 c12 c13 c14 c15 c16 c17 c18 => some (nI L'.length, lv', nI L'.length, c1, c2, c3, c4, c5, c6, c7, c8, c9, c10, c11, c12, c13, c14, c15, c16, c17, c18)) = some (r', lv'', lc', qn', pv', pn', pl', sv', sn', sl', kn', bi', tl', hm', hf', hs', hl', fo', ce', co', de') ∧ f_Mo_lie_J119 m1 w1 = some (r', m', w') ∧ RW (nI sz) (nI le) tM tF lc' lv'' mode budget fo' ce' co' de' qn' E tl' pn' pl' pv' sn' sl' sv' kn' bi' hs' hl' hm' hf' rep m' w' := by
    intro L' L2' lv' m1 w1 y1 y2 y3 y4 y5 y6 y7 y8 y9 y10 f
    obtain ⟨qn', pv', pn', pl', sv', sn', sl', kn', bi', tl', hm', hf', hs', hl', fo', ce', co', de', m', w', k1, k2, k3, k4⟩ := s_new (sz := sz) (le := le) (b := b) (mo := mo) (L := L') (tm := tm) (tf := tf) (tS := nI sz) (tL := nI le) (tM := tM) (tF := tF) (lc := nI L'.length) (lv := lv') (mode := mode) (budget := budget) (w := w1) (m := m1) ⟨t1, t2, t3, rfl, rfl, by rw [f 0 (by omega), t6], by rw [f 1 (by omega), t7], rfl, y1, y2, y3, y4, ⟨L2', y5, y6, y7, y8, y9, y10⟩, t19, t20, (fun k hk => by rw [f _ (by omega), t21 k hk]), (fun k hk => by rw [f _ (by omega), t22 k hk]), t23, t24⟩ a8 (by rw [f 35 (by omega), a9]) a10 a11 (by rw [f 36 (by omega), b4]) b6 E pv sv kn bi hm hf rep
    rw [f_Mo_lie_J119, k1, bd18_s, k2, bd2_s, k3 34 (by omega), y9, y6]
    exact ⟨_, _, _, _, _, _, _, _, _, _, _, _, _, _, _, _, _, _, _, _, _, _, _, rfl, rfl, k4⟩
  have hone : (1 : Int32) ≠ 0 := by decide
  by_cases hin : u ∈ L
  · have hin2 := (t15 u).mpr hin
    have n1 : ¬ fndN L u = -1 := fndN_yes hin (by omega)
    have n2 : ¬ fndN L2 u = -1 := fndN_yes hin2 (by omega)
    have p1 : L.idxOf u < L.length := List.idxOf_lt_length_of_mem hin
    have p2 : L2.idxOf u < L2.length := List.idxOf_lt_length_of_mem hin2
    have q1 : L[L.idxOf u] = u := List.getElem_idxOf p1
    have q2 : L2[L2.idxOf u] = u := List.getElem_idxOf p2
    have f1 : fndN L u = nI (L.idxOf u) := if_pos hin
    have f2 : fndN L2 u = nI (L2.idxOf u) := if_pos hin2
    rw [if_neg n1, if_neg n2, f_Mo_lie_J39, if_neg n2, f1, f2, t17]
    generalize L.idxOf u = p at p1 q1 ⊢
    generalize L2.idxOf u = p' at p2 q2 ⊢
    have hm1 : nI L.length - (1 : Int32) = nI (L.length - 1) := pk_sub (b := 1) (by omega)
    have hm2 : nI L2.length - (1 : Int32) = nI (L2.length - 1) := pk_sub (b := 1) (by omega)
    simp only [bnd_eq]
    rw [hm1, hm2, gIn_nI (by omega) (by omega), gIn_nI (by omega) (by omega), nI_clamp (by omega), nI_clamp (by omega), bd3_s, if_neg hone]
    have hlp := s_Mo_lie_L85 (m := upd m 34 (nI (L2.length - 1))) (w := w) (K := fun x4 v_w_1 => (f_Mo_lie_J119 (upd m 34 (nI (L2.length - 1))) v_w_1)) (N := L2.length - 1) (p := p') (by omega) pk_us FU p' (Nat.le_refl _) (by omega) (by rw [FU_eq]; omega)
    have hz : (fun j => if p' ≤ j ∧ j < p' then w (j + 1) else w j) = w := funext fun j => if_neg (by omega)
    rw [hz] at hlp
    rw [hlp]
    let g := fun k => if k = p then L.length - 1 else k
    let g2 := fun k => if k < p' then k else k + 1
    have gk : ∀ k, g k = if k = p then L.length - 1 else k := fun _ => rfl
    have g2k : ∀ k, g2 k = if k < p' then k else k + 1 := fun _ => rfl
    have G1 : ∀ k, k < L.length - 1 → g k < L.length ∧ g k ≠ p := fun k hk => by rw [gk]; split <;> omega
    have G2 : ∀ k, k < L2.length - 1 → g2 k < L2.length ∧ g2 k ≠ p' := fun k hk => by rw [g2k]; split <;> omega
    obtain ⟨s1, s2⟩ := sel_ok t9 p1 (g := g) G1 (fun i j hij hj => by rw [gk, gk]; split <;> split <;> omega) (fun i hi hip => by
      by_cases z : i = L.length - 1
      · exact ⟨p, by omega, by rw [gk, if_pos rfl, z]⟩
      · exact ⟨i, by omega, by rw [gk, if_neg hip]⟩)
    obtain ⟨s3, s4⟩ := sel_ok t16 p2 (g := g2) G2 (fun i j hij hj => by rw [g2k, g2k]; split <;> split <;> omega) (fun i hi hip => by
      by_cases z : i < p'
      · exact ⟨i, by omega, by rw [g2k, if_pos z]⟩
      · exact ⟨i - 1, by omega, by rw [g2k, if_neg (by omega)]; omega⟩)
    have hfin := fin (sel L g (L.length - 1)) (sel L2 g2 (L2.length - 1)) (vp_updL lv p (lv (L.length - 1))) (upd m 34 (nI (L2.length - 1))) (fun j => if p' ≤ j ∧ j < L2.length - 1 then w (j + 1) else w j) s1 (lok_sel t10 (fun k hk => (G1 k hk).1)) (by rw [sel_len]; omega) (fun k hk => ?_) (lok_sel t13 (fun k hk => (G2 k hk).1)) (by rw [sel_len, sel_len]; omega) (fun x => by rw [s2, s4, q1, q2, t15]) s3 (by rw [pk_us, sel_len]) (fun k hk => ?_) (fun x hx => by rw [pk_un hx])
    · rw [sel_len] at hfin
      exact hfin
    · have hk' := hk
      rw [sel_len] at hk'
      rw [sel_at hk (G1 k hk').1, ← t12 _ (G1 k hk').1, gk]
      by_cases z : k = p
      · subst z; rw [pk_uLs, if_pos rfl]
      · rw [pk_uLn z, if_neg z]
    · have hk' := hk
      rw [sel_len] at hk'
      rw [sel_at hk (G2 k hk').1, ← t18 _ (G2 k hk').1, g2k]
      by_cases z : k < p'
      · rw [if_pos z, if_neg (by omega)]
      · rw [if_neg z, if_pos (by omega)]
  · have hin2 : u ∉ L2 := fun q => hin ((t15 u).mp q)
    rw [if_pos (fndN_no hin), if_pos (fndN_no hin2)]
    by_cases h4 : L.length < 4
    · rw [if_pos (show nI L.length < (4 : Int32) from nI_lt (b := 4) h4 (by omega)), if_neg (show ¬ nI L2.length = (4 : Int32) by rw [fl, nI_eq (by omega) (by omega)]; omega), f_Mo_lie_J39, if_pos (fndN_no hin2), t17]
      simp only [bnd_eq]
      have hm1 : nI L.length + (1 : Int32) = nI (L.length + 1) := nI_1 _
      have hm2 : nI L2.length + (1 : Int32) = nI (L2.length + 1) := nI_1 _
      rw [hm1, hm2, gIn_nI (by omega) (by omega), gIn_nI (by omega) (by omega), nI_clamp (by omega), nI_clamp (by omega), bd3_s, if_neg hone]
      have nd1 : ∀ {M : List Wrd}, M.Nodup → u ∉ M → (M ++ [u]).Nodup := fun {M} a b => by
        rw [List.nodup_append]
        refine ⟨a, List.pairwise_singleton _ _, fun x hx y hy e => ?_⟩
        rw [List.mem_singleton] at hy
        subst hy; subst e; exact b hx
      have lk1 : ∀ {M : List Wrd}, lok M → lok (M ++ [u]) := fun {M} a x hx => by
        rcases List.mem_append.mp hx with q | q
        · exact a x q
        · rw [List.mem_singleton] at q; subst q; exact ⟨hok, e4⟩
      have hfin := fin (L ++ [u]) (L2 ++ [u]) (vp_updL lv L.length (lN (eX u))) (upd m 34 (nI (L2.length + 1))) (vp_updL w L2.length (lN (eM u))) (nd1 t9 hin) (lk1 t10) (by rw [List.length_append, List.length_singleton]; omega) (rX_snoc t12 u) (lk1 t13) (by rw [List.length_append, List.length_append, t14]) (fun x => by rw [List.mem_append, List.mem_append, t15]) (nd1 t16 hin2) (by rw [pk_us, List.length_append]; rfl) (rMz_snoc t18 u) (fun x hx => by rw [pk_un hx])
      rw [List.length_append, List.length_singleton] at hfin
      exact hfin
    · have e : L.length = 4 := by omega
      rw [if_neg (show ¬ nI L.length < (4 : Int32) by rw [e]; decide), if_pos (show nI L2.length = (4 : Int32) by rw [t14, e]; rfl), bd3_s, if_pos rfl]
      exact bad _ _ rfl
end

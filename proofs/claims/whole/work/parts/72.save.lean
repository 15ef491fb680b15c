/-! ===== copies: save and restore ===== -/
theorem cpy0 {α : Type} {f g : Nat → α} {N j : Nat} (hN : N < 2 ^ 31) (h : j < N) : va_cpy f g (0 : Int32).toNatClampNeg (0 : Int32).toNatClampNeg (nI N).toNatClampNeg j = f j := by
  rw [nI_clamp hN]
  show va_cpy f g 0 0 N j = f j
  rw [pk_cpy_in (Nat.zero_le _) (by omega), show 0 + (j - 0) = j by omega]
theorem gCp0 {α : Type} {N n0 n1 : Nat} {k : Option α} (h1 : N ≤ n0) (h2 : N ≤ n1) (h3 : n0 < 2 ^ 31) (h4 : n1 < 2 ^ 31) : gCp (0 : Int32) (0 : Int32) (nI N) n0 n1 k = k := gCp_nI (sp := 0) (dp := 0) (by omega) (by omega) h3 h4
theorem RA_cg {sz le b n mo szh : Nat} {al : Wrd → Option Nat} {L : List Wrd} {tm tf ml mf re : Nat → Nat} {P S : List Wrd} {tS tL : Int32} {tM tF tM' tF' : Nat → Int32} {lc : Int32} {lv lv' : Nat → Int64} {mode budget formed : Int32} {ce : Int64} {corr dec qn : Int32} {E E' : Nat → Int64} {tl pn pl : Int32} {pv pv' : Nat → Int64} {sn sl : Int32} {sv sv' : Nat → Int64} {kn bi kn' bi' : Nat → Int32} {hs hl : Int32} {hm hf rep m hm' hf' rep' m' : Nat → Int32} {w w' : Nat → Int64}
    (h : RA sz le b n mo szh al L tm tf ml mf re P S tS tL tM tF lc lv mode budget formed ce corr dec qn E tl pn pl pv sn sl sv kn bi hs hl hm hf rep m w)
    (e1 : ∀ k, k < 24 → tM' k = tM k) (e2 : ∀ k, k < 8 → tF' k = tF k) (e3 : ∀ k, k < L.length → lv' k = lv k) (e4 : ∀ k, k < n → E' k = E k) (e5 : ∀ k, k < P.length → pv' k = pv k) (e6 : ∀ k, k < S.length → sv' k = sv k) (e7 : ∀ k, k < 160 → kn' k = kn k) (e8 : ∀ k, k < 160 → bi' k = bi k) (e9 : ∀ k, k < 120 → hm' k = hm k) (e10 : ∀ k, k < 40 → hf' k = hf k) (e11 : ∀ k, k < 40 → rep' k = rep k) (em : ∀ k, k < 561 → m' k = m k) (ew : ∀ k, k < 360 → w' k = w k) :
    RA sz le b n mo szh al L tm tf ml mf re P S tS tL tM' tF' lc lv' mode budget formed ce corr dec qn E' tl pn pl pv' sn sl sv' kn' bi' hs hl hm' hf' rep' m' w' := by
  obtain ⟨a1, a2, a3, a4, a5, a6, ⟨b1, b2, b3, b4, b5, b6, b7, b8, b9, b10, b12, b13, b14, b15, b16, b17, b18, b19⟩, a8, a9, a10, a11, a12, a13, a14, a15, a16, a17, a18, a19, a20, a21, a22, a23, a24, a25, hT, hM, ⟨c1, c2, c3⟩, d1, d2, d3, d4, d5⟩ := h
  have h40 := hT.2.2.2.1
  have h16 := hT.2.2.2.2.1
  refine ⟨a1, a2, a3, by rw [em 0 (by omega), a4], a5, a6, ⟨b1, ?_, ?_, by rw [em 36 (by omega), b4], b5, b6, b7, b8, fun k hk => by rw [e3 k hk, b9 k hk], ?_, b12, fun k hk => by rw [e1 k hk, b13 k hk], fun k hk => by rw [e2 k hk, b14 k hk], fun k hk => by rw [em _ (by omega), b15 k hk], fun k hk => by rw [em _ (by omega), b16 k hk], b17, b18, b19⟩, a8, by rw [em 35 (by omega), a9], a10, a11, a12, by rw [em 41 (by omega), a13], by rw [em 41 (by omega)]; exact a14, RC_fr a15 (fun x hx => em x (by omega)), by rw [em 42 (by omega), a16], by rw [em 43 (by omega), a17], by rw [em 43 (by omega)]; exact a18, a19, a20, a21, fun k hk => by rw [e5 k hk, a22 k hk], a23, a24, fun k hk => by rw [e6 k hk, a25 k hk], hT, ⟨by rw [em 1 (by omega), hM.1], by rw [em 38 (by omega), hM.2.1], by rw [em 39 (by omega), hM.2.2.1], fun k hk => by rw [ew _ (by omega), hM.2.2.2.1 k hk], fun k hk => by rw [ew _ (by omega), hM.2.2.2.2 k hk]⟩, ⟨fun k hk => by rw [e7 _ (by omega), e8 _ (by omega)]; exact c1 k hk, fun k a hk ha => by rw [e7 _ (by omega), e8 _ (by omega)]; exact c2 k a hk ha, fun r hr hl => by rw [e7 _ hr, e8 _ hr]; exact c3 r hr hl⟩, d1, by rw [em 40 (by omega), d2], d3, d4, fun hz => ?_⟩
  · obtain ⟨Q, q1, q2, q3, q4, q5⟩ := b2
    exact ⟨Q, q1, q2, q3, q4, fun k hk => by rw [e4 k (by omega), q5 k hk]⟩
  · obtain ⟨Q, q1, q2, q3, q4, q5, q6, q7⟩ := b3
    exact ⟨Q, q1, q2, q3, q4, by rw [em 37 (by omega), q5], fun k hk => by rw [ew _ (by omega), q6 k hk], fun k hk => by rw [em _ (by omega), q7 k hk]⟩
  · obtain ⟨L2, k1, k2, k3, k4, k5, k6⟩ := b10
    exact ⟨L2, k1, k2, k3, k4, by rw [em 34 (by omega), k5], fun k hk => by rw [ew k (by omega), k6 k hk]⟩
  · obtain ⟨g1, g2, g3, g4, g5, g6, g7, g8, g9⟩ := d5 hz
    exact ⟨g1, fun k hk => by rw [e9 k hk, g2 k hk], fun k hk => by rw [e10 k hk, g3 k hk], g4, fun j hj => ⟨by rw [e11 j (by omega), (g5 j hj).1], (g5 j hj).2⟩, g6, fun s a hs ha => by rw [em _ (by omega), g7 s a hs ha], fun k hk => by rw [em _ (by omega), g8 k hk], fun k hk => by rw [em _ (by omega), g9 k hk]⟩
section
variable {tS tL : Int32} {tM tF : Nat → Int32} {lc : Int32} {lv : Nat → Int64} {mode budget formed : Int32} {ce : Int64} {corr dec qn : Int32} {E : Nat → Int64} {tl pn pl : Int32} {pv : Nat → Int64} {sn sl : Int32} {sv : Nat → Int64} {kn bi : Nat → Int32} {hs hl : Int32} {hm hf rep m m' : Nat → Int32} {w w' : Nat → Int64}
theorem gB01 {α : Type} {b : Int32} {k : Option α} (h : b = 0 ∨ b = 1) : gB b k = k := by rcases h with rfl | rfl <;> rfl
/-- a world is copied: it stays what it was a picture of -/
theorem s_copy (h : RW tS tL tM tF lc lv mode budget formed ce corr dec qn E tl pn pl pv sn sl sv kn bi hs hl hm hf rep m w) (em : ∀ k, k < 561 → m' k = m k) (ew : ∀ k, k < 360 → w' k = w k) (xM xF : Nat → Int32) (xl xE xp xs : Nat → Int64) (xk xb xm xf xr : Nat → Int32) :
    ∃ tM' tF' tS' tL' lv' lc' E' qn' pv' pn' pl' sv' sn' sl' kn' bi' tl' hm' hf' hs' hl' rep' mode' budget' fo' ce' co' de', f_Wo_copyFrom xM xF xl xE xp xs xk xb xm xf xr lc tS tL tM tF lv mode budget formed ce corr dec qn E tl pn pl pv sn sl sv kn bi hs hl hm hf rep = some (tM', tF', tS', tL', lv', lc', E', qn', pv', pn', pl', sv', sn', sl', kn', bi', tl', hm', hf', hs', hl', rep', mode', budget', fo', ce', co', de') ∧ qn' = m 37 ∧ RW tS' tL' tM' tF' lc' lv' mode' budget' fo' ce' co' de' qn' E' tl' pn' pl' pv' sn' sl' sv' kn' bi' hs' hl' hm' hf' rep' m' w' := by
  obtain ⟨sz, le, b, n, mo, szh, al, L, tm, tf, ml, mf, re, P, S, hR⟩ := h
  have hR0 := hR
  obtain ⟨a1, a2, a3, a4, rfl, a6, ⟨b1, b2, b3, b4, b5, b6, b7, b8, b9⟩, a8, a9, a10, a11, rfl, a13, a14, a15, a16, a17, a18, a19, rfl, rfl, a22, rfl, rfl, a25, hT, -⟩ := hR0
  have h37 : m 37 = nI n := by obtain ⟨Q, -, -, -, -, q5, -⟩ := b3; exact q5
  have h40 := hT.2.2.2.1
  have h16 := hT.2.2.2.2.1
  have fo1 : formed = 0 ∨ formed = 1 := by rw [a13]; rcases a14 with q | q; exact Or.inl q; exact Or.inr q.1
  have de1 : dec = 0 ∨ dec = 1 := by rw [a17]; exact a18
  rw [f_Wo_copyFrom, f_Te_copyFrom, f_Au_copyFrom, show Int32.ofNat 24 = nI 24 from rfl, show Int32.ofNat 8 = nI 8 from rfl, gCp0 (by omega) (by omega) (by omega) (by omega)]
  simp only [bnd_eq]
  rw [gCp0 (by omega) (by omega) (by omega) (by omega), bd4_s, gCp0 (by omega) (by omega) (by omega) (by omega), bd6_s, f_Le_copyFrom, f_Qu_copyFrom, gCp0 (by omega) (by omega) (by omega) (by omega)]
  simp only [bnd_eq]
  rw [bd2_s, f_Ta_copyFrom, f_WL_copyFrom, gCp0 (by omega) (by omega) (by omega) (by omega)]
  simp only [bnd_eq]
  rw [bd3_s, f_WL_copyFrom, gCp0 (by omega) (by omega) (by omega) (by omega)]
  simp only [bnd_eq]
  rw [bd3_s, show (160 : Int32) = nI 160 from rfl, gCp0 (by omega) (by omega) (by omega) (by omega), gCp0 (by omega) (by omega) (by omega) (by omega), bd9_s, f_Au_copyFrom, show Int32.ofNat 120 = nI 120 from rfl, show Int32.ofNat 40 = nI 40 from rfl, gCp0 (by omega) (by omega) (by omega) (by omega)]
  simp only [bnd_eq]
  rw [gCp0 (by omega) (by omega) (by omega) (by omega), bd4_s, show (40 : Int32) = nI 40 from rfl, gCp0 (by omega) (by omega) (by omega) (by omega), gB01 fo1, gB01 de1, bd22_s]
  exact ⟨_, _, _, _, _, _, _, _, _, _, _, _, _, _, _, _, _, _, _, _, _, _, _, _, _, _, _, _, rfl, h37.symm, sz, le, b, n, mo, szh, al, L, tm, tf, ml, mf, re, P, S, RA_cg hR (fun k hk => cpy0 (by omega) hk) (fun k hk => cpy0 (by omega) hk) (fun k hk => cpy0 (by omega) hk) (fun k hk => cpy0 (by omega) hk) (fun k hk => cpy0 (by omega) hk) (fun k hk => cpy0 (by omega) hk) (fun k hk => cpy0 (by omega) hk) (fun k hk => cpy0 (by omega) hk) (fun k hk => cpy0 (by omega) hk) (fun k hk => cpy0 (by omega) hk) (fun k hk => cpy0 (by omega) hk) em ew⟩
end
/-- the reference saves -/
theorem s_Mo_save_L14 {m f : Nat → Int32} {t : Nat} (ht : t ≤ 1) {K : Int32 → (Nat → Int32) → Option (Int32 × (Nat → Int32) × (Nat → Int64) × (Nat → Int32))} : ∀ (n k : Nat), k ≤ 561 → 561 - k < n → itr (fun _ _ => none) (f_Mo_save_L14 m (nI t) K) n (nI k) (fun j => if 561 * t ≤ j ∧ j < 561 * t + k then m (j - 561 * t) else f j) = K (nI 561) (fun j => if 561 * t ≤ j ∧ j < 561 * t + 561 then m (j - 561 * t) else f j) := by
  intro n
  induction n with
  | zero => intro k _ h; omega
  | succ n ih =>
    intro k hk hn
    rw [itr_s, f_Mo_save_L14]
    rcases Nat.lt_or_ge k 561 with z | z
    · rw [if_neg (show ¬ (561 : Int32) ≤ nI k from nI_ge (b := 561) z (by omega)), show (561 : Int32) = nI 561 from rfl, pk_mul, nI_add, gIn_nI (by omega) (by omega), gIn_nI (by omega) (by omega), nI_clamp (by omega), nI_clamp (by omega)]
      simp only [bnd_eq]
      rw [show nI k + 1 = nI (k + 1) from nI_1 k, ← ih (k + 1) (by omega) (by omega)]
      refine congrArg (itr (fun _ _ => none) (f_Mo_save_L14 m (nI t) K) n (nI (k + 1))) (funext fun j => ?_)
      by_cases e : j = 561 * t + k
      · subst e
        rw [pk_us, if_pos (by omega), show 561 * t + k - 561 * t = k by omega]
      · rw [pk_un e]
        by_cases q : 561 * t ≤ j ∧ j < 561 * t + k
        · rw [if_pos q, if_pos (by omega)]
        · rw [if_neg q, if_neg (by omega)]
    · have : k = 561 := by omega
      subst this
      rw [if_pos (show (561 : Int32) ≤ nI 561 by decide)]
theorem s_Mo_save_L47 {w f : Nat → Int64} {t : Nat} (ht : t ≤ 1) {K : Int32 → (Nat → Int64) → Option (Int32 × (Nat → Int32) × (Nat → Int64) × (Nat → Int32))} : ∀ (n k : Nat), k ≤ 360 → 360 - k < n → itr (fun _ _ => none) (f_Mo_save_L47 w (nI t) K) n (nI k) (fun j => if 360 * t ≤ j ∧ j < 360 * t + k then w (j - 360 * t) else f j) = K (nI 360) (fun j => if 360 * t ≤ j ∧ j < 360 * t + 360 then w (j - 360 * t) else f j) := by
  intro n
  induction n with
  | zero => intro k _ h; omega
  | succ n ih =>
    intro k hk hn
    rw [itr_s, f_Mo_save_L47]
    rcases Nat.lt_or_ge k 360 with z | z
    · rw [if_neg (show ¬ (360 : Int32) ≤ nI k from nI_ge (b := 360) z (by omega)), show (360 : Int32) = nI 360 from rfl, pk_mul, nI_add, gIn_nI (by omega) (by omega), gIn_nI (by omega) (by omega), nI_clamp (by omega), nI_clamp (by omega)]
      simp only [bnd_eq]
      rw [show nI k + 1 = nI (k + 1) from nI_1 k, ← ih (k + 1) (by omega) (by omega)]
      refine congrArg (itr (fun _ _ => none) (f_Mo_save_L47 w (nI t) K) n (nI (k + 1))) (funext fun j => ?_)
      by_cases e : j = 360 * t + k
      · subst e
        rw [pk_uLs, if_pos (by omega), show 360 * t + k - 360 * t = k by omega]
      · rw [pk_uLn e]
        by_cases q : 360 * t ≤ j ∧ j < 360 * t + k
        · rw [if_pos q, if_pos (by omega)]
        · rw [if_neg q, if_neg (by omega)]
    · have : k = 360 := by omega
      subst this
      rw [if_pos (show (360 : Int32) ≤ nI 360 by decide)]
theorem s_Mo_save {m sa iS : Nat → Int32} {w sw : Nat → Int64} {t : Nat} (ht : t ≤ 1) : f_Mo_save (nI t) m sa w sw iS = some (m 37, (fun j => if 561 * t ≤ j ∧ j < 561 * t + 561 then m (j - 561 * t) else sa j), (fun j => if 360 * t ≤ j ∧ j < 360 * t + 360 then w (j - 360 * t) else sw j), upd iS t 1) := by
  rw [f_Mo_save, s_Mo_in, bd1_s, if_neg (show ¬ (if nI t < 0 ∨ 1 < nI t then (0 : Int32) else 1) = 0 by rcases (show t = 0 ∨ t = 1 by omega) with rfl | rfl <;> decide)]
  have z1 : (fun j => if 561 * t ≤ j ∧ j < 561 * t + 0 then m (j - 561 * t) else sa j) = sa := funext fun j => if_neg (by omega)
  have z2 : (fun j => if 360 * t ≤ j ∧ j < 360 * t + 0 then w (j - 360 * t) else sw j) = sw := funext fun j => if_neg (by omega)
  have l1 := fun K => s_Mo_save_L14 (m := m) (f := sa) ht (K := K) FU 0 (by omega) (by rw [FU_eq]; omega)
  have l2 := fun K => s_Mo_save_L47 (w := w) (f := sw) ht (K := K) FU 0 (by omega) (by rw [FU_eq]; omega)
  rw [z1] at l1
  rw [z2] at l2
  rw [show (0 : Int32) = nI 0 from rfl, l1, l2, gIn_nI (by omega) (by omega), nI_clamp (by omega)]
  rfl
theorem s_Mo_restore_L26 {m sa : Nat → Int32} {t : Nat} (ht : t ≤ 1) {K : Int32 → (Nat → Int32) → Option (Int32 × (Nat → Int32) × (Nat → Int64))} : ∀ (n k : Nat), k ≤ 561 → 561 - k < n → itr (fun _ _ => none) (f_Mo_restore_L26 sa (nI t) K) n (nI k) (fun j => if j < k then sa (561 * t + j) else m j) = K (nI 561) (fun j => if j < 561 then sa (561 * t + j) else m j) := by
  intro n
  induction n with
  | zero => intro k _ h; omega
  | succ n ih =>
    intro k hk hn
    rw [itr_s, f_Mo_restore_L26]
    rcases Nat.lt_or_ge k 561 with z | z
    · rw [if_neg (show ¬ (561 : Int32) ≤ nI k from nI_ge (b := 561) z (by omega)), show (561 : Int32) = nI 561 from rfl, pk_mul, nI_add, gIn_nI (by omega) (by omega), gIn_nI (by omega) (by omega), nI_clamp (by omega), nI_clamp (by omega)]
      simp only [bnd_eq]
      rw [show nI k + 1 = nI (k + 1) from nI_1 k, ← ih (k + 1) (by omega) (by omega)]
      refine congrArg (itr (fun _ _ => none) (f_Mo_restore_L26 sa (nI t) K) n (nI (k + 1))) (funext fun j => ?_)
      by_cases e : j = k
      · subst e
        rw [pk_us, if_pos (by omega)]
      · rw [pk_un e]
        by_cases q : j < k
        · rw [if_pos q, if_pos (by omega)]
        · rw [if_neg q, if_neg (by omega)]
    · have : k = 561 := by omega
      subst this
      rw [if_pos (show (561 : Int32) ≤ nI 561 by decide)]
theorem s_Mo_restore_L59 {w sw : Nat → Int64} {t : Nat} (ht : t ≤ 1) {K : Int32 → (Nat → Int64) → Option (Int32 × (Nat → Int32) × (Nat → Int64))} : ∀ (n k : Nat), k ≤ 360 → 360 - k < n → itr (fun _ _ => none) (f_Mo_restore_L59 sw (nI t) K) n (nI k) (fun j => if j < k then sw (360 * t + j) else w j) = K (nI 360) (fun j => if j < 360 then sw (360 * t + j) else w j) := by
  intro n
  induction n with
  | zero => intro k _ h; omega
  | succ n ih =>
    intro k hk hn
    rw [itr_s, f_Mo_restore_L59]
    rcases Nat.lt_or_ge k 360 with z | z
    · rw [if_neg (show ¬ (360 : Int32) ≤ nI k from nI_ge (b := 360) z (by omega)), show (360 : Int32) = nI 360 from rfl, pk_mul, nI_add, gIn_nI (by omega) (by omega), gIn_nI (by omega) (by omega), nI_clamp (by omega), nI_clamp (by omega)]
      simp only [bnd_eq]
      rw [show nI k + 1 = nI (k + 1) from nI_1 k, ← ih (k + 1) (by omega) (by omega)]
      refine congrArg (itr (fun _ _ => none) (f_Mo_restore_L59 sw (nI t) K) n (nI (k + 1))) (funext fun j => ?_)
      by_cases e : j = k
      · subst e
        rw [pk_uLs, if_pos (by omega)]
      · rw [pk_uLn e]
        by_cases q : j < k
        · rw [if_pos q, if_pos (by omega)]
        · rw [if_neg q, if_neg (by omega)]
    · have : k = 360 := by omega
      subst this
      rw [if_pos (show (360 : Int32) ≤ nI 360 by decide)]
theorem s_Mo_restore {m sa iS : Nat → Int32} {w sw : Nat → Int64} {t : Nat} (ht : t ≤ 1) : f_Mo_restore (nI t) m sa w sw iS = if iS t = 0 then some (-3, m, w) else some (sa (561 * t + 37), (fun j => if j < 561 then sa (561 * t + j) else m j), (fun j => if j < 360 then sw (360 * t + j) else w j)) := by
  rw [f_Mo_restore, s_Mo_in, bd1_s, if_neg (show ¬ (if nI t < 0 ∨ 1 < nI t then (0 : Int32) else 1) = 0 by rcases (show t = 0 ∨ t = 1 by omega) with rfl | rfl <;> decide), gIn_nI (by omega) (by omega), nI_clamp (by omega)]
  by_cases z : iS t = 0
  · rw [if_pos z, if_pos z]
  · rw [if_neg z, if_neg z]
    have z1 : (fun j => if j < 0 then sa (561 * t + j) else m j) = m := funext fun j => if_neg (by omega)
    have z2 : (fun j => if j < 0 then sw (360 * t + j) else w j) = w := funext fun j => if_neg (by omega)
    have l1 := fun K => s_Mo_restore_L26 (m := m) (sa := sa) ht (K := K) FU 0 (by omega) (by rw [FU_eq]; omega)
    have l2 := fun K => s_Mo_restore_L59 (w := w) (sw := sw) ht (K := K) FU 0 (by omega) (by rw [FU_eq]; omega)
    rw [z1] at l1
    rw [z2] at l2
    rw [show (0 : Int32) = nI 0 from rfl, l1, l2]
    rfl

/-! ===== the first word that was not asked: both sides ===== -/
def rix (np le i : Nat) : Nat := if i < np then 4 * i else 4 * ((i - np) / le) + 1 + (i - np) % le
theorem rix_p {np le k : Nat} (h : k < np) : rix np le k = 4 * k := if_pos h
theorem rix_e {np le k a : Nat} (ha : a < le) : rix np le (np + (k * le + a)) = 4 * k + 1 + a := by
  have hle : 0 < le := by omega
  rw [rix, if_neg (by omega), show np + (k * le + a) - np = k * le + a by omega, show (k * le + a) / le = k by rw [Nat.mul_comm, Nat.mul_add_div hle, Nat.div_eq_of_lt ha]; rfl, show (k * le + a) % le = a by rw [Nat.mul_comm, Nat.mul_add_mod, Nat.mod_eq_of_lt ha]]
theorem ix_split {np le i : Nat} (hle : 0 < le) (h : i < np * (1 + le)) : (i < np) ∨ ∃ k a, k < np ∧ a < le ∧ i = np + (k * le + a) := by
  rcases Nat.lt_or_ge i np with z | z
  · exact Or.inl z
  · refine Or.inr ⟨(i - np) / le, (i - np) % le, ?_, Nat.mod_lt _ hle, ?_⟩
    · apply Nat.div_lt_of_lt_mul
      rw [Nat.mul_add, Nat.mul_one] at h
      rw [Nat.mul_comm]
      omega
    · have := Nat.div_add_mod (i - np) le
      rw [Nat.mul_comm] at this
      omega
theorem kl_lt {np le k a : Nat} (hk : k < np) (ha : a < le) : np + (k * le + a) < np * (1 + le) := by
  have := Nat.mul_le_mul_right le (show k + 1 ≤ np by omega)
  rw [Nat.add_mul] at this
  rw [Nat.mul_add, Nat.mul_one]
  omega
theorem rix_inj {np le i j : Nat} (hle : 0 < le) (h3 : le ≤ 3) (hi : i < np * (1 + le)) (hj : j < np * (1 + le)) (h : rix np le i = rix np le j) : i = j := by
  rcases ix_split hle hi with z | ⟨k, a, h1, h2, rfl⟩ <;> rcases ix_split hle hj with y | ⟨k', a', g1, g2, rfl⟩
  · rw [rix_p z, rix_p y] at h; omega
  · rw [rix_p z, rix_e g2] at h; omega
  · rw [rix_e h2, rix_p y] at h; omega
  · rw [rix_e h2, rix_e g2] at h
    have e1 : k = k' := by omega
    have e2 : a = a' := by omega
    rw [e1, e2]
theorem rix_lt {np le i : Nat} (hle : 0 < le) (h3 : le ≤ 3) (h40 : np ≤ 40) (hi : i < np * (1 + le)) : rix np le i < 160 ∧ rix np le i / 4 < np := by
  rcases ix_split hle hi with z | ⟨k, a, h1, h2, rfl⟩
  · rw [rix_p z]; omega
  · rw [rix_e h2]; omega
def FLr (al : Wrd → Option Nat) (P S : List Wrd) (le n : Nat) (kn bi : Nat → Int32) : Prop := ∀ i, i < n → gw al S (twf P le i) = none ∧ rFull al S (twf P le i) (kn (rix P.length le i)) (bi (rix P.length le i))
theorem cch_at {al : Wrd → Option Nat} {P S : List Wrd} {le : Nat} {kn bi : Nat → Int32} (h : cch al P S le kn bi) (hle : 0 < le) {i : Nat} (hi : i < P.length * (1 + le)) : rOK al S (twf P le i) (kn (rix P.length le i)) (bi (rix P.length le i)) := by
  rcases ix_split hle hi with z | ⟨k, a, h1, h2, rfl⟩
  · rw [rix_p z, twf_p z]; exact h.1 i z
  · rw [rix_e h2, twf_e h2]; exact h.2.1 k a h1 h2
theorem cch_set {al : Wrd → Option Nat} {P S : List Wrd} {le : Nat} {kn bi kn' bi' : Nat → Int32} (h : cch al P S le kn bi) (hle : 0 < le) (h3 : le ≤ 3) (h40 : P.length ≤ 40) {i : Nat} (hi : i < P.length * (1 + le)) (h1 : ∀ x, x ≠ rix P.length le i → kn' x = kn x ∧ bi' x = bi x) (h2 : rOK al S (twf P le i) (kn' (rix P.length le i)) (bi' (rix P.length le i))) : cch al P S le kn' bi' := by
  have key : ∀ j, j < P.length * (1 + le) → rOK al S (twf P le j) (kn' (rix P.length le j)) (bi' (rix P.length le j)) := by
    intro j hj
    by_cases e : j = i
    · rw [e]; exact h2
    · have := h1 (rix P.length le j) (fun q => e (rix_inj hle h3 hj hi q))
      rw [this.1, this.2]
      exact cch_at h hle hj
  refine ⟨fun k hk => ?_, fun k a hk ha => ?_, fun r hr hr2 => ?_⟩
  · have := key k (Nat.lt_of_lt_of_le hk (Nat.le_mul_of_pos_right _ (by omega)))
    rw [rix_p hk, twf_p hk] at this
    exact this
  · have := key (P.length + (k * le + a)) (kl_lt hk ha)
    rw [rix_e ha, twf_e ha] at this
    exact this
  · have := (rix_lt hle h3 h40 hi).2
    rw [(h1 r (by intro e; rw [e] at hr2; omega)).1, (h1 r (by intro e; rw [e] at hr2; omega)).2]
    exact h.2.2 r hr hr2
theorem FLr_set {al : Wrd → Option Nat} {P S : List Wrd} {le n : Nat} {kn bi kn' bi' : Nat → Int32} (h : FLr al P S le n kn bi) (hle : 0 < le) (h3 : le ≤ 3) {i : Nat} (hi : i < P.length * (1 + le)) (hn : n ≤ i) (h1 : ∀ x, x ≠ rix P.length le i → kn' x = kn x ∧ bi' x = bi x) : FLr al P S le n kn' bi' := by
  intro j hj
  have := h1 (rix P.length le j) (fun q => by have := rix_inj hle h3 (by omega) hi q; omega)
  rw [this.1, this.2]
  exact h j hj
theorem twf_ok {le : Nat} {P S : List Wrd} (hT : tok le P S) (hle : 0 < le) {i : Nat} (hi : i < P.length * (1 + le)) : wle le (twf P le i) ∧ ∀ s ∈ S, (twf P le i).length + s.length ≤ 16 := by
  rcases ix_split hle hi with z | ⟨k, a, h1, h2, rfl⟩
  · rw [twf_p z]
    exact ⟨hT.1 _ (pw_mem z), fun s hs => by have := hT.2.2.1 _ (pw_mem z) s hs; omega⟩
  · rw [twf_e h2]
    exact ⟨wle_app.mpr ⟨hT.1 _ (pw_mem h1), wle_one.mpr h2⟩, fun s hs => by have := hT.2.2.1 _ (pw_mem h1) s hs; rw [List.length_append, List.length_singleton]; omega⟩
theorem fg_step {le n0 : Nat} {al : Wrd → Option Nat} {P S : List Wrd} {sw E : Nat → Int64} (hT : tok le P S) (hal : aok al) (hE : RQX al n0 E) (hn0 : n0 ≤ 300) (hle : 0 < le) (h3 : le ≤ 3) (hsw : rX S sw) {kn bi : Nat → Int32} {i : Nat} (hi : i < P.length * (1 + le)) (hc : cch al P S le kn bi) (hF : FLr al P S le i kn bi) :
    ∃ kn' bi', f_Ta_rowGap (nI (rix P.length le i)) (lN (eX (twf P le i))) (nI S.length) sw kn bi (nI n0) E = some (wvX (gw al S (twf P le i)), kn', bi') ∧ cch al P S le kn' bi' ∧ (gw al S (twf P le i) = none → FLr al P S le (i + 1) kn' bi') := by
  obtain ⟨h1, h2⟩ := twf_ok hT hle hi
  obtain ⟨kn', bi', e1, e2, e3, e4⟩ := s_Ta_rowGap hal hE hn0 h3 h1 hT.2.1 h2 hT.2.2.2.2.1 hsw (rix_lt hle h3 hT.2.2.2.1 hi).1 (cch_at hc hle hi)
  refine ⟨kn', bi', e1, cch_set hc hle h3 hT.2.2.2.1 hi e2 e3, fun hg j hj => ?_⟩
  rcases Nat.lt_or_ge j i with z | z
  · exact FLr_set hF hle h3 hi (Nat.le_refl _) e2 j z
  · have : j = i := by omega
    subst this
    exact ⟨hg, e4 hg⟩
theorem FL_gap {al : Wrd → Option Nat} {P S : List Wrd} {le i : Nat} {kn bi : Nat → Int32} {w : Wrd} (hi : i < P.length * (1 + le)) (hF : FLr al P S le i kn bi) (h : gw al S (twf P le i) = some w) : gap al P S le = some w := gap_some hi h (fun j hj => (hF j hj).1)
/-- how the search of gaps stands: nothing found so far, or the gap -/
def fgO (al : Wrd → Option Nat) (P S : List Wrd) (le n : Nat) (x : Int64) (kn bi : Nat → Int32) : Prop := cch al P S le kn bi ∧ ((x = -1 ∧ FLr al P S le n kn bi) ∨ ∃ w, gap al P S le = some w ∧ x = wvX (some w) ∧ ¬ x = -1)
theorem s_Ta_fg_L7 {le n0 : Nat} {al : Wrd → Option Nat} {P S : List Wrd} {pv sw E : Nat → Int64} (hT : tok le P S) (hal : aok al) (hE : RQX al n0 E) (hn0 : n0 ≤ 300) (hle : 0 < le) (h3 : le ≤ 3) (hpv : rX P pv) (hsw : rX S sw) {K : Int64 → Int32 → (Nat → Int32) → (Nat → Int32) → Option (Int64 × (Nat → Int32) × (Nat → Int32))} {R : Int64 → (Nat → Int32) → (Nat → Int32) → Option (Int64 × (Nat → Int32) × (Nat → Int32))} (hK : ∀ x y a b, K x y a b = R x a b) :
    ∀ (n k : Nat) (x : Int64) (kn bi : Nat → Int32), k ≤ P.length → P.length - k < n → fgO al P S le k x kn bi → ∃ x' kn' bi', itr (fun _ _ _ _ => none) (f_Ta_firstGap_L7 (nI P.length) pv (nI S.length) sw (nI n0) E K) n x (nI k) kn bi = R x' kn' bi' ∧ fgO al P S le P.length x' kn' bi' := by
  have h40 := hT.2.2.2.1
  intro n
  induction n with
  | zero => intro k x _ _ _ h; omega
  | succ n ih =>
    intro k x kn bi hk hn hO
    rw [itr_s, f_Ta_firstGap_L7]
    rcases Nat.lt_or_ge k P.length with c | c
    · rw [if_neg (nI_ge c (by omega))]
      obtain ⟨hc, ⟨rfl, hF⟩ | ⟨w, hw, hx, hne⟩⟩ := hO
      · have hi : k < P.length * (1 + le) := Nat.lt_of_lt_of_le c (Nat.le_mul_of_pos_right _ (by omega))
        obtain ⟨kn', bi', e1, e2, e3⟩ := fg_step hT hal hE hn0 hle h3 hsw hi hc hF
        rw [rix_p c, twf_p c] at e1
        rw [twf_p c] at e3
        rw [if_pos rfl, f_Ta_prefixRow, bd1_s, gIn_nI (by omega) (by omega), nI_clamp (by omega), hpv k c, ← pw_eq c, show nI k * (4 : Int32) = nI (4 * k) by rw [show nI k * (4 : Int32) = nI (k * 4) from pk_mul k 4, Nat.mul_comm], e1, bd3_s, bnd_eq, show nI k + 1 = nI (k + 1) from nI_1 k]
        refine ih (k + 1) _ kn' bi' c (by omega) ⟨e2, ?_⟩
        cases q : gw al S (pw P k) with
        | none => exact Or.inl ⟨rfl, e3 q⟩
        | some w =>
          obtain ⟨a1, a2⟩ := twf_ok hT hle hi
          rw [twf_p c] at a1 a2
          obtain ⟨b1, b2, -⟩ := gw_ok a1 hT.2.1 a2 q
          have := eX_small (wle_ok b1 h3) (by omega)
          exact Or.inr ⟨w, FL_gap hi hF (by rw [twf_p c]; exact q), rfl, wvX_some w (by omega)⟩
      · rw [if_neg hne, hK]
        exact ⟨x, kn, bi, rfl, hc, Or.inr ⟨w, hw, hx, hne⟩⟩
    · have : k = P.length := by omega
      subst this
      rw [if_pos (nI_le (Nat.le_refl _) (by omega)), hK]
      exact ⟨x, kn, bi, rfl, hO⟩
theorem s_Ta_fg_L80 {le n0 : Nat} {al : Wrd → Option Nat} {P S : List Wrd} {pv sw E : Nat → Int64} (hT : tok le P S) (hal : aok al) (hE : RQX al n0 E) (hn0 : n0 ≤ 300) (hle : 0 < le) (h3 : le ≤ 3) (hpv : rX P pv) (hsw : rX S sw) {k : Nat} (hk : k < P.length) {K : Int64 → Int32 → (Nat → Int32) → (Nat → Int32) → Option (Int64 × (Nat → Int32) × (Nat → Int32))} {R : Int64 → (Nat → Int32) → (Nat → Int32) → Option (Int64 × (Nat → Int32) × (Nat → Int32))} (hK : ∀ x y a b, K x y a b = R x a b) :
    ∀ (n a : Nat) (x : Int64) (kn bi : Nat → Int32), a ≤ le → le - a < n → fgO al P S le (P.length + (k * le + a)) x kn bi → ∃ x' kn' bi', itr (fun _ _ _ _ => none) (f_Ta_firstGap_L80 (nI le) pv (nI S.length) sw (nI n0) E (nI k) K) n x (nI a) kn bi = R x' kn' bi' ∧ fgO al P S le (P.length + (k + 1) * le) x' kn' bi' := by
  have h40 := hT.2.2.2.1
  have h16 := hT.2.2.2.2.1
  intro n
  induction n with
  | zero => intro a x _ _ _ h; omega
  | succ n ih =>
    intro a x kn bi ha hn hO
    rw [itr_s, f_Ta_firstGap_L80]
    rcases Nat.lt_or_ge a le with c | c
    · rw [if_neg (nI_ge c (by omega))]
      obtain ⟨hc, ⟨rfl, hF⟩ | ⟨w, hw, hx, hne⟩⟩ := hO
      · have hi : P.length + (k * le + a) < P.length * (1 + le) := kl_lt hk c
        have hix := (rix_lt hle h3 h40 hi).1
        rw [rix_e c] at hix
        rw [if_pos rfl, f_Ta_extensionRow, bd1_s, show nI k * (4 : Int32) + (1 : Int32) + nI a = nI (4 * k + 1 + a) by rw [show nI k * (4 : Int32) = nI (k * 4) from pk_mul k 4, show nI (k * 4) + (1 : Int32) = nI (k * 4 + 1) from nI_1 _, nI_add, Nat.mul_comm k 4], gIn_nI hix (by omega), nI_clamp (by omega)]
        have hrow := cch_at hc hle hi
        rw [rix_e c, twf_e c] at hrow
        obtain ⟨j, j1, j2, j3, j4⟩ := id hrow
        by_cases hfull : S.length ≤ j
        · have : j = S.length := by omega
          subst this
          have hg : gw al S (pw P k ++ [a]) = none := by
            rw [gw, gj, fst_none (fun i hi => by have := j4 i hi; cases q : al (sjoin S (pw P k ++ [a]) i) with
              | none => rw [q] at this; cases this
              | some a => rfl)]
            rfl
          rw [j2, if_pos (nI_le (Nat.le_refl _) (by omega)), f_Ta_firstGap_J146, bnd_eq, show nI a + 1 = nI (a + 1) from nI_1 a]
          refine ih (a + 1) _ kn bi c (by omega) ⟨hc, Or.inl ⟨rfl, fun i hi2 => ?_⟩⟩
          rcases Nat.lt_or_ge i (P.length + (k * le + a)) with z | z
          · exact hF i z
          · have : i = P.length + (k * le + a) := by omega
            subst this
            rw [twf_e c, rix_e c]
            exact ⟨hg, j2, j3, j4⟩
        · obtain ⟨kn', bi', e1, e2, e3⟩ := fg_step hT hal hE hn0 hle h3 hsw hi hc hF
          rw [rix_e c, twf_e c] at e1
          rw [twf_e c] at e3
          have hpl := hT.2.2.1 _ (pw_mem hk) [] (List.mem_of_getElem? hT.2.2.2.2.2.2)
          rw [List.length_nil] at hpl
          rw [j2, if_neg (nI_ge (by omega) (by omega)), gIn_nI (by omega) (by omega), nI_clamp (by omega), hpv k hk, ← pw_eq hk, s_Ws_append (wle_ok (hT.1 _ (pw_mem hk)) h3) (by omega) (by omega), bd1_s, e1, bd3_s, f_Ta_firstGap_J146, bnd_eq, show nI a + 1 = nI (a + 1) from nI_1 a]
          refine ih (a + 1) _ kn' bi' c (by omega) ⟨e2, ?_⟩
          cases q : gw al S (pw P k ++ [a]) with
          | none => exact Or.inl ⟨rfl, by have := e3 q; rw [show P.length + (k * le + a) + 1 = P.length + (k * le + (a + 1)) by omega] at this; exact this⟩
          | some w =>
            obtain ⟨a1, a2⟩ := twf_ok hT hle hi
            rw [twf_e c] at a1 a2
            obtain ⟨b1, b2, -⟩ := gw_ok a1 hT.2.1 a2 q
            have := eX_small (wle_ok b1 h3) (by omega)
            exact Or.inr ⟨w, FL_gap hi hF (by rw [twf_e c]; exact q), rfl, wvX_some w (by omega)⟩
      · rw [if_neg hne, hK]
        exact ⟨x, kn, bi, rfl, hc, Or.inr ⟨w, hw, hx, hne⟩⟩
    · have : a = le := by omega
      subst this
      rw [if_pos (nI_le (Nat.le_refl _) (by omega)), hK]
      rw [show P.length + (k * a + a) = P.length + (k + 1) * a by rw [Nat.add_mul]; omega] at hO
      exact ⟨x, kn, bi, rfl, hO⟩
theorem s_Ta_fg_L57 {le n0 : Nat} {al : Wrd → Option Nat} {P S : List Wrd} {pv sw E : Nat → Int64} (hT : tok le P S) (hal : aok al) (hE : RQX al n0 E) (hn0 : n0 ≤ 300) (hle : 0 < le) (h3 : le ≤ 3) (hpv : rX P pv) (hsw : rX S sw) :
    ∀ (n k : Nat) (x : Int64) (kn bi : Nat → Int32), k ≤ P.length → P.length - k < n → fgO al P S le (P.length + k * le) x kn bi → ∃ x' kn' bi', itr (fun _ _ _ _ => none) (f_Ta_firstGap_L57 (nI le) (nI P.length) pv (nI S.length) sw (nI n0) E (fun x _ a b => some (x, a, b))) n x (nI k) kn bi = some (x', kn', bi') ∧ fgO al P S le (P.length * (1 + le)) x' kn' bi' := by
  have h40 := hT.2.2.2.1
  intro n
  induction n with
  | zero => intro k x _ _ _ h; omega
  | succ n ih =>
    intro k x kn bi hk hn hO
    rw [itr_s, f_Ta_firstGap_L57]
    rcases Nat.lt_or_ge k P.length with c | c
    · rw [if_neg (nI_ge c (by omega))]
      by_cases hx : x = -1
      · rw [if_pos hx]
        obtain ⟨x', kn', bi', e1, e2⟩ := s_Ta_fg_L80 hT hal hE hn0 hle h3 hpv hsw c (K := fun x2_1 x5 v_known_1 v_bits_1 => (bnd (nI k + 1) (fun x4_1 => (itr (fun _ _ _ _ => none) (f_Ta_firstGap_L57 (nI le) (nI P.length) pv (nI S.length) sw (nI n0) E (fun x _ a b => some (x, a, b))) n x2_1 x4_1 v_known_1 v_bits_1)))) (R := fun x2_1 v_known_1 v_bits_1 => itr (fun _ _ _ _ => none) (f_Ta_firstGap_L57 (nI le) (nI P.length) pv (nI S.length) sw (nI n0) E (fun x _ a b => some (x, a, b))) n x2_1 (nI k + 1) v_known_1 v_bits_1) (fun _ _ _ _ => rfl) FU 0 x kn bi (Nat.zero_le _) (by rw [FU_eq]; omega) hO
        rw [nI_0] at e1
        rw [e1, show nI k + 1 = nI (k + 1) from nI_1 k]
        exact ih (k + 1) x' kn' bi' c (by omega) e2
      · rw [if_neg hx]
        refine ⟨x, kn, bi, rfl, hO.1, ?_⟩
        rcases hO.2 with ⟨h, -⟩ | h
        · exact absurd h hx
        · exact Or.inr h
    · have : k = P.length := by omega
      subst this
      rw [if_pos (nI_le (Nat.le_refl _) (by omega))]
      rw [show P.length + P.length * le = P.length * (1 + le) by rw [Nat.mul_add, Nat.mul_one]] at hO
      exact ⟨x, kn, bi, rfl, hO⟩
/-- the class: the first word that was not asked, its number; or -1, and all rows are full -/
theorem s_Ta_firstGap {le n0 : Nat} {al : Wrd → Option Nat} {P S : List Wrd} {pv sw E : Nat → Int64} (hT : tok le P S) (hal : aok al) (hE : RQX al n0 E) (hn0 : n0 ≤ 300) (hle : 0 < le) (h3 : le ≤ 3) (hpv : rX P pv) (hsw : rX S sw) {kn bi : Nat → Int32} (hc : cch al P S le kn bi) :
    ∃ kn' bi', f_Ta_firstGap (nI le) (nI P.length) pv (nI S.length) sw kn bi (nI n0) E = some (wvX (gap al P S le), kn', bi') ∧ cch al P S le kn' bi' ∧ (gap al P S le = none → FLr al P S le (P.length * (1 + le)) kn' bi') := by
  rw [f_Ta_firstGap]
  obtain ⟨x', kn', bi', e1, e2⟩ := s_Ta_fg_L7 hT hal hE hn0 hle h3 hpv hsw (K := (fun x2 x4 v_known_1 v_bits_1 => (itr (fun _ _ _ _ => none) (f_Ta_firstGap_L57 (nI le) (nI P.length) pv (nI S.length) sw (nI n0) E (fun x2_1 x4_1 v_known_2 v_bits_2 => (some (x2_1, v_known_2, v_bits_2)))) FU x2 (0 : Int32) v_known_1 v_bits_1))) (R := fun x2 v_known_1 v_bits_1 => (itr (fun _ _ _ _ => none) (f_Ta_firstGap_L57 (nI le) (nI P.length) pv (nI S.length) sw (nI n0) E (fun x2_1 x4_1 v_known_2 v_bits_2 => (some (x2_1, v_known_2, v_bits_2)))) FU x2 (0 : Int32) v_known_1 v_bits_1)) (fun _ _ _ _ => rfl) FU 0 (-1) kn bi (Nat.zero_le _) (by rw [FU_eq]; have := hT.2.2.2.1; omega) ⟨hc, Or.inl ⟨rfl, fun i hi => absurd hi (Nat.not_lt_zero _)⟩⟩
  rw [nI_0] at e1
  rw [e1]
  obtain ⟨x2, kn2, bi2, e3, e4⟩ := s_Ta_fg_L57 hT hal hE hn0 hle h3 hpv hsw FU 0 x' kn' bi' (Nat.zero_le _) (by rw [FU_eq]; have := hT.2.2.2.1; omega) (by rw [Nat.zero_mul]; exact e2)
  rw [nI_0] at e3
  rw [e3]
  obtain ⟨hc2, ⟨rfl, hF⟩ | ⟨w, hw, hx, hne⟩⟩ := e4
  · have := gap_none (al := al) (P := P) (S := S) (le := le) (fun j hj => (hF j hj).1)
    rw [this]
    exact ⟨kn2, bi2, rfl, hc2, fun _ => hF⟩
  · rw [hw, hx]
    exact ⟨kn2, bi2, rfl, hc2, fun h => by cases h⟩

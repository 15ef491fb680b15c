/-! ===== a correction, on both sides ===== -/
/-- what a correction leaves on the reference's side -/
def CRm (s0 fo' : Int32) (u : Wrd) (m m' : Nat → Int32) : Prop := (0 ≤ s0 → m' 44 = nI u.length ∧ (∀ i (h : i < u.length), m' (345 + i) = nI u[i]) ∧ m' 42 = m 42 + 1 ∧ m' 43 = (if s0 = 0 then 1 else 0)) ∧ (¬ 0 ≤ s0 → m' 44 = m 44 ∧ (∀ x, 345 ≤ x → x < 361 → m' x = m x) ∧ m' 42 = m 42 ∧ m' 43 = m 43) ∧ m' 41 = fo' ∧ (∀ x, x ≤ 36 ∨ x = 40 ∨ 361 ≤ x → m' x = m x)
theorem nI_0le {a : Nat} (h : a < 1000) : (0 : Int32) ≤ nI a := nI_le (a := 0) (Nat.zero_le _) (by omega)
theorem nI_eq0 {a : Nat} (h : a < 1000) : (nI a = (0 : Int32)) ↔ a = 0 := nI_eq (b := 0) (by omega) (by decide)
/-- the end of using words M of kind c -/
theorem s_Mo_uses_J111 {le c : Nat} {P S M : List Wrd} {m v : Nat → Int32} {w more : Nat → Int64} {u : Wrd} (hT : tok le P S) (hM : tabM le P S m w) (h3 : le ≤ 3) (hc : c ≤ 1) (h17 : M.length ≤ 17) (hMf : wfit M) (hr : rMz M more) (h16 : u.length ≤ 16) (hv : pthR u v) :
    (¬ M.length = 0 → ¬ rm c P S M = true → f_Mo_uses_J111 (nI c) (nI u.length) (nI M.length) m w v more = some (-5, m, w, more, nI M.length)) ∧
    (M.length = 0 ∨ rm c P S M = true → f_Mo_uses_J111 (nI c) (nI u.length) (nI M.length) m w v more = f_Mo_uses_J129 (nI c) (nI u.length) (nI M.length) m w v more) := by
  rw [f_Mo_uses_J111, s_Mo_fit hT hM h3 hc h17 hMf hr, bd1_s]
  refine ⟨fun h1 h2 => ?_, fun h => ?_⟩
  · rw [if_neg (show ¬ nI M.length ≤ (0 : Int32) from nI_ge (a := 0) (by omega) (by omega)), if_neg h2, if_pos (show (0 : Int32) = 0 from rfl)]
  · by_cases z : M.length = 0
    · rw [if_pos (show nI M.length ≤ (0 : Int32) from nI_le (b := 0) (by omega) (by omega))]
    · rw [if_neg (show ¬ nI M.length ≤ (0 : Int32) from nI_ge (a := 0) (by omega) (by omega)), if_pos (h.resolve_left z), if_neg (show ¬ (1 : Int32) = 0 by decide)]
theorem CRm_of {le c : Nat} {P S M : List Wrd} {m m' : Nat → Int32} {w' : Nat → Int64} {u : Wrd} (hl : M.length ≤ 17) (h44 : m' 44 = nI u.length) (hlet : ∀ i (h : i < u.length), m' (345 + i) = nI u[i]) (h42 : m' 42 = m 42 + 1) (h43 : m' 43 = (if M.length = 0 then 1 else 0)) (h41 : m' 41 = (if M.length = 0 then m 41 else 0)) (hf : ∀ x, x < 345 ∨ 361 ≤ x → x ≠ 38 → x ≠ 39 → x ≠ 41 → x ≠ 42 → x ≠ 43 → x ≠ 44 → m' x = m x) : CRm (nI M.length) (if M.length = 0 then m 41 else 0) u m m' := by
  refine ⟨fun _ => ⟨h44, hlet, h42, ?_⟩, fun h => absurd (nI_0le (by omega)) h, h41, fun x hx => hf x (by omega) (by omega) (by omega) (by omega) (by omega) (by omega) (by omega)⟩
  rw [h43]
  simp only [nI_eq0 (show M.length < 1000 by omega)]
theorem s_corr_parts {le c : Nat} {P S : List Wrd} {pv sv w more : Nat → Int64} {m v : Nat → Int32} {u : Wrd} {mores : Int32} (hT : tok le P S) (hM : tabM le P S m w) (h3 : le ≤ 3) (hc : c ≤ 1) (hmo : m 35 = nI (2 * c)) (hu : wle le u) (h16 : u.length ≤ 16) (hv : pthR u v) (hpv : rX P pv) (hsv : rX S sv) :
    ∃ s0 P' S' pv' sv' fo' m' w' more' mores', f_Le_addParts (nI c) (lN (eX u)) (m 41) (nI P.length) (nI (lg P)) pv (nI S.length) (nI (lg S)) sv = some (s0, pv', nI P'.length, nI (lg P'), sv', nI S'.length, nI (lg S'), fo') ∧ f_Mo_uses (nI u.length) mores m w v more = some ((if 0 ≤ s0 then (if s0 = 0 then 7 else 5) else s0), m', w', more', mores') ∧ tok le P' S' ∧ tabM le P' S' m' w' ∧ rX P' pv' ∧ rX S' sv' ∧ CRm s0 fo' u m m' ∧ (∀ x, x < 304 → w' x = w x) ∧ (s0 = -5 ∨ ∃ k, k ≤ 17 ∧ s0 = nI k) ∧ (∃ X, P' = P ++ X) ∧ ∃ Y, S' = S ++ Y := by
  sorry

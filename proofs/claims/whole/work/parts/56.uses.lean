/-! ===== the reference uses a counterexample ===== -/
theorem s_Mo_uses_L147 {u : Wrd} {v m0 : Nat → Int32} (h16 : u.length ≤ 16) (hv : pthR u v) {K : Int32 → (Nat → Int32) → Option (Int32 × (Nat → Int32) × (Nat → Int64) × (Nat → Int64) × Int32)} :
    ∀ (n k : Nat) (m : Nat → Int32), k ≤ u.length → u.length - k < n → (∀ i (h : i < u.length), i < k → m (345 + i) = nI u[i]) → (∀ x, x < 345 ∨ 361 ≤ x → m x = m0 x) → ∃ m', (∀ i (h : i < u.length), m' (345 + i) = nI u[i]) ∧ (∀ x, x < 345 ∨ 361 ≤ x → m' x = m0 x) ∧ itr (fun _ _ => none) (f_Mo_uses_L147 (nI u.length) v K) n (nI k) m = K (nI u.length) m' := by
  intro n
  induction n with
  | zero => intro k _ _ h; omega
  | succ n ih =>
    intro k m hk hn h1 h2
    rw [itr_s, f_Mo_uses_L147]
    rcases Nat.lt_or_ge k u.length with z | z
    · rw [if_neg (nI_ge z (by omega)), gIn_nI (by omega) (by omega), nI_clamp (by omega), hv k z, show (345 : Int32) + nI k = nI (345 + k) from nI_add 345 _, gIn_nI (by omega) (by omega), bnd_eq, bnd_eq, nI_clamp (by omega), show nI k + 1 = nI (k + 1) from nI_1 k]
      refine ih (k + 1) _ z (by omega) (fun i hi hik => ?_) (fun x hx => by rw [pk_un (by omega)]; exact h2 x hx)
      rcases Nat.lt_or_ge i k with y | y
      · rw [pk_un (by omega)]
        exact h1 i hi y
      · have : i = k := by omega
        subst this
        rw [pk_us]
    · have : k = u.length := by omega
      subst this
      rw [if_pos (nI_le z (by omega))]
      exact ⟨m, fun i hi => h1 i hi hi, h2, rfl⟩
theorem s_Mo_uses_J129 {le c : Nat} {P S M : List Wrd} {m v : Nat → Int32} {w more : Nat → Int64} {u : Wrd} (hT : tok le P S) (hM : tabM le P S m w) (hc : c ≤ 1) (h17 : M.length ≤ 17) (hr : rMz M more) (hrm : M.length = 0 ∨ rm c P S M = true) (h16 : u.length ≤ 16) (hv : pthR u v) :
    ∃ m' w', f_Mo_uses_J129 (nI c) (nI u.length) (nI M.length) m w v more = some ((if M.length = 0 then 7 else 5), m', w', more, nI M.length) ∧ tabM le (adP c P M) (adS c S M) m' w' ∧ m' 44 = nI u.length ∧ (∀ i (h : i < u.length), m' (345 + i) = nI u[i]) ∧ m' 42 = m 42 + 1 ∧ m' 43 = (if M.length = 0 then 1 else 0) ∧ m' 41 = (if M.length = 0 then m 41 else 0) ∧ (∀ x, x < 345 ∨ 361 ≤ x → x ≠ 38 → x ≠ 39 → x ≠ 41 → x ≠ 42 → x ≠ 43 → x ≠ 44 → m' x = m x) ∧ ∀ x, x < 304 → w' x = w x := by
  have hs : (adP c P M).length ≤ 40 ∧ (adS c S M).length ≤ 16 := by
    rcases hrm with h | h
    · rw [List.length_eq_zero_iff.mp h, adP_nil, adS_nil]
      exact ⟨hT.2.2.2.1, hT.2.2.2.2.1⟩
    · exact ⟨(rm_40 h).1, (rm_40 h).2.1⟩
  obtain ⟨m1, w1, e1, e2, e3, e4, e5⟩ := s_Mo_adds hM hc h17 hr hs.1 hs.2
  obtain ⟨m2, g1, g2, g3⟩ := s_Mo_uses_L147 (m0 := upd m1 44 (nI u.length)) h16 hv (K := fun x2 v_m_3 => (bnd (upd v_m_3 42 ((v_m_3 42) + (1 : Int32))) (fun v_m_4 => (bnd (if nI M.length = 0 then (1 : Int32) else (0 : Int32)) (fun t => (bnd (upd v_m_4 43 t) (fun v_m_5 => (bnd (if nI M.length = 0 then (7 : Int32) else (5 : Int32)) (fun t_1 => (some (t_1, v_m_5, w1, more, nI M.length)))))))))) ) FU 0 (upd m1 44 (nI u.length)) (Nat.zero_le _) (by rw [FU_eq]; omega) (fun i _ hi => absurd hi (Nat.not_lt_zero _)) (fun _ _ => rfl)
  rw [nI_0] at g3
  have hz : (nI M.length = (0 : Int32)) = (M.length = 0) := propext ⟨fun h => (nI_eq (b := 0) (by omega) (by decide)).mp h, fun h => by rw [h]; rfl⟩
  rw [f_Mo_uses_J129, e1, bd2_s, bnd_eq, g3, bnd_eq, bnd_eq, bnd_eq, bnd_eq]
  obtain ⟨t1, t2, t3, t4, t5⟩ := e2
  simp only [hz]
  refine ⟨_, w1, rfl, ⟨?_, ?_, ?_, t4, t5⟩, ?_, fun i hi => ?_, ?_, ?_, ?_, fun x hx x1 x2 x3 x4 x5 x6 => ?_, e5⟩
  · rw [pk_un (by decide), pk_un (by decide), g2 1 (by omega), pk_un (by decide), t1]
  · rw [pk_un (by decide), pk_un (by decide), g2 38 (by omega), pk_un (by decide), t2]
  · rw [pk_un (by decide), pk_un (by decide), g2 39 (by omega), pk_un (by decide), t3]
  · rw [pk_un (by decide), pk_un (by decide), g2 44 (by omega), pk_us]
  · rw [pk_un (by omega), pk_un (by omega), g1 i hi]
  · rw [pk_un (by decide), pk_us, g2 42 (by omega), pk_un (by decide), e3 42 (by decide) (by decide) (by decide)]
  · rw [pk_us]
  · rw [pk_un (by decide), pk_un (by decide), g2 41 (by omega), pk_un (by decide), e4]
  · rw [pk_un x5, pk_un x4, g2 x hx, pk_un x6, e3 x x1 x2 x3]

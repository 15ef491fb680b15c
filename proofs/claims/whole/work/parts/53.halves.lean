/-! ===== the split, on both sides ===== -/
/-- both sides may ask -/
def ACx (le sz b n : Nat) (al : Wrd → Option Nat) (L : List Wrd) (tm tf : Nat → Nat) (E lv : Nat → Int64) (p g m : Nat → Int32) (w : Nat → Int64) : Prop :=
  aok al ∧ RQX al n E ∧ RQM al n m w ∧ m 36 = nI b ∧ n ≤ b ∧ b ≤ 300 ∧ lok L ∧ L.length ≤ 4 ∧ (∀ k (h : k < L.length), lv k = lN (eX L[k])) ∧ L2M L m w ∧ sz ≤ 8 ∧ rI 24 tm p ∧ rI 8 tf g ∧ rIo 2 24 tm m ∧ rIo 26 8 tf m ∧ mok sz le tm ∧ (∀ k, k < 8 → tf k ≤ 1) ∧ le ≤ 3
/-- what asking leaves alone -/
def frA (m m' : Nat → Int32) (w w' : Nat → Int64) : Prop := (∀ k, k ≠ 37 → ¬ (45 ≤ k ∧ k < 345) → m' k = m k) ∧ ∀ k, ¬ (4 ≤ k ∧ k < 304) → w' k = w k
theorem frA_refl (m : Nat → Int32) (w : Nat → Int64) : frA m m w w := ⟨fun _ _ _ => rfl, fun _ _ => rfl⟩
theorem frA_trans {m m' m'' : Nat → Int32} {w w' w'' : Nat → Int64} (h : frA m m' w w') (h' : frA m' m'' w' w'') : frA m m'' w w'' := ⟨fun k a b => by rw [h'.1 k a b, h.1 k a b], fun k a => by rw [h'.2 k a, h.2 k a]⟩
theorem frA_tab {le : Nat} {P S : List Wrd} {m m' : Nat → Int32} {w w' : Nat → Int64} (h : frA m m' w w') (hM : tabM le P S m w) : tabM le P S m' w' := by
  obtain ⟨h1, h2, h3, h4, h5⟩ := hM
  exact ⟨by rw [h.1 1 (by decide) (by omega), h1], by rw [h.1 38 (by decide) (by omega), h2], by rw [h.1 39 (by decide) (by omega), h3], fun k hk => by rw [h.2 _ (by omega), h4 k hk], fun k hk => by rw [h.2 _ (by omega), h5 k hk]⟩
theorem ask3 {le sz b n : Nat} {al : Wrd → Option Nat} {L : List Wrd} {tm tf : Nat → Nat} {E lv : Nat → Int64} {p g m : Nat → Int32} {w : Nat → Int64} (h : ACx le sz b n al L tm tf E lv p g m w) {u : Wrd} (hu : wle le u) (hul : u.length ≤ 16) :
    ∃ r al' n' E' m' w', f_Le_askAbout (lN (eX u)) (nI b) (nI n) E (nI L.length) p g lv = some (r, E', nI n') ∧ f_Mo_asks (lN (eM u)) m w = some (r, m', w') ∧ ACx le sz b n' al' L tm tf E' lv p g m' w' ∧ aleq al al' ∧ frA m m' w w' ∧ ((r = -4 ∧ al' = al) ∨ ∃ a, a ≤ 1 ∧ r = nI a ∧ al' u = some a) := by
  obtain ⟨h1, h2, h3, h4, h5, h6, h7, h8, h9, h10, h12, h13, h14, h15, h16, h17, h18, h19⟩ := h
  obtain ⟨r, al', n', E', m', w', e1, e2, e3, e4, e5, e6, e7, e8, e9, e10⟩ := ask2 h1 h2 h3 h4 h5 h6 h7 h8 h9 h10 h12 h13 h14 h15 h16 h17 h18 h19 hu hul
  refine ⟨r, al', n', E', m', w', e1, e2, ⟨e5, e3, e4, ?_, e7, h6, h7, h8, h9, ?_, h12, h13, h14, ?_, ?_, h17, h18, h19⟩, e6, ⟨e8, e9⟩, e10⟩
  · rw [e8 36 (by decide) (by omega), h4]
  · obtain ⟨L2, k1, k2, k3, k4, k5, k6⟩ := h10
    exact ⟨L2, k1, k2, k3, k4, by rw [e8 34 (by decide) (by omega), k5], fun k hk => by rw [e9 k (by omega), k6 k hk]⟩
  · intro k hk
    rw [e8 _ (by omega) (by omega), h15 k hk]
  · intro k hk
    rw [e8 _ (by omega) (by omega), h16 k hk]
/-- what may change under asking -/
theorem ACx_fr {le sz b n : Nat} {al : Wrd → Option Nat} {L : List Wrd} {tm tf : Nat → Nat} {E lv : Nat → Int64} {p g m m' : Nat → Int32} {w w' : Nat → Int64} (h : ACx le sz b n al L tm tf E lv p g m w) (hm : ∀ x, (2 ≤ x ∧ x ≤ 34) ∨ x = 36 ∨ x = 37 ∨ (45 ≤ x ∧ x < 345) → m' x = m x) (hw : ∀ x, x < 304 → w' x = w x) : ACx le sz b n al L tm tf E lv p g m' w' := by
  obtain ⟨h1, h2, h3, h4, h5, h6, h7, h8, h9, h10, h12, h13, h14, h15, h16, h17, h18, h19⟩ := h
  refine ⟨h1, h2, ?_, by rw [hm 36 (by omega), h4], h5, h6, h7, h8, h9, ?_, h12, h13, h14, ?_, ?_, h17, h18, h19⟩
  · obtain ⟨Q, q1, q2, q3, q4, q5, q6, q7⟩ := h3
    exact ⟨Q, q1, q2, q3, q4, by rw [hm 37 (by omega), q5], fun k hk => by rw [hw _ (by omega), q6 k hk], fun k hk => by rw [hm _ (by omega), q7 k hk]⟩
  · obtain ⟨L2, k1, k2, k3, k4, k5, k6⟩ := h10
    exact ⟨L2, k1, k2, k3, k4, by rw [hm 34 (by omega), k5], fun k hk => by rw [hw k (by omega), k6 k hk]⟩
  · intro k hk
    rw [hm _ (by omega), h15 k hk]
  · intro k hk
    rw [hm _ (by omega), h16 k hk]

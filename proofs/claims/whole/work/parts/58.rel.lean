/-! ===== the relation of the two sides ===== -/
theorem rv_ext {al al' : Wrd → Option Nat} (h : aleq al al') {S S' : List Wrd} {u : Wrd} : ∀ {j : Nat}, (∀ i, i < j → S'.getD i [] = S.getD i []) → (∀ i, i < j → (al (sjoin S u i)).isSome = true) → rv al' S' u j = rv al S u j
  | 0, _, _ => rfl
  | j + 1, hS, ha => by
    rw [rv, rv, rv_ext h (j := j) (fun i hi => hS i (by omega)) (fun i hi => ha i (by omega)), hS j (by omega)]
    have h1 := ha j (by omega)
    rw [sjoin] at h1
    cases e : al (u ++ S.getD j []) with
    | none => rw [e] at h1; cases h1
    | some a => rw [an, an, e, h _ _ e]
theorem getD_app {S Y : List Wrd} {i : Nat} (h : i < S.length) : (S ++ Y).getD i [] = S.getD i [] := by
  rw [List.getD_eq_getElem?_getD, List.getD_eq_getElem?_getD, List.getElem?_append_left h]
theorem rOK_grow {al al' : Wrd → Option Nat} (h : aleq al al') {S Y : List Wrd} {u : Wrd} {kn bi : Int32} (hr : rOK al S u kn bi) : rOK al' (S ++ Y) u kn bi := by
  obtain ⟨j, h1, h2, h3, h4⟩ := hr
  refine ⟨j, by rw [List.length_append]; omega, h2, by rw [h3, rv_ext h (fun i hi => getD_app (by omega)) h4], fun i hi => ?_⟩
  have := h4 i hi
  rw [sjoin] at this ⊢
  rw [getD_app (by omega)]
  cases e : al (u ++ S.getD i []) with
  | none => rw [e] at this; cases this
  | some a => rw [h _ _ e]; rfl
theorem pw_app {P X : List Wrd} {k : Nat} (h : k < P.length) : pw (P ++ X) k = pw P k := getD_app h
theorem cch_grow {al al' : Wrd → Option Nat} {P S X Y : List Wrd} {le : Nat} {kn bi : Nat → Int32} (hc : cch al P S le kn bi) (h : aleq al al') (h40 : (P ++ X).length ≤ 40) (h3 : le ≤ 3) : cch al' (P ++ X) (S ++ Y) le kn bi := by
  obtain ⟨c1, c2, c3⟩ := hc
  refine ⟨fun k hk => ?_, fun k a hk ha => ?_, fun r hr hl => c3 r hr (by rw [List.length_append] at hl; omega)⟩
  · rcases Nat.lt_or_ge k P.length with z | z
    · rw [pw_app z]; exact rOK_grow h (c1 k z)
    · obtain ⟨q1, q2⟩ := c3 (4 * k) (by omega) (by omega)
      exact ⟨0, Nat.zero_le _, q1, q2, fun i hi => absurd hi (Nat.not_lt_zero _)⟩
  · rcases Nat.lt_or_ge k P.length with z | z
    · rw [pw_app z]; exact rOK_grow h (c2 k a z ha)
    · obtain ⟨q1, q2⟩ := c3 (4 * k + 1 + a) (by omega) (by omega)
      exact ⟨0, Nat.zero_le _, q1, q2, fun i hi => absurd hi (Nat.not_lt_zero _)⟩
theorem aleq_refl (al : Wrd → Option Nat) : aleq al al := fun _ _ h => h
/-- the hypothesis -/
def RH (le : Nat) (P : List Wrd) (szh : Nat) (ml mf re : Nat → Nat) (hs hl : Int32) (hm hf rep m : Nat → Int32) : Prop :=
  hs = nI szh ∧ m 40 = nI szh ∧ szh ≤ 40 ∧ hl = nI le ∧ (0 < szh → mok szh le ml ∧ rI 120 ml hm ∧ rI 40 mf hf ∧ (∀ j, j < szh → mf j ≤ 1) ∧ (∀ j, j < szh → rep j = nI (re j) ∧ re j < P.length) ∧ re 0 = 0 ∧ rIm 361 szh le ml m ∧ rIo 481 szh mf m ∧ rIo 521 szh re m)
/-- the counterexample -/
def RC (ce : Int64) (m : Nat → Int32) : Prop := (ce = -1 ∧ m 44 = -1) ∨ ∃ u : Wrd, wok u ∧ u.length ≤ 16 ∧ ce = lN (eX u) ∧ m 44 = nI u.length ∧ ∀ i (h : i < u.length), m (345 + i) = nI u[i]
/-- the two worlds, with all that they are pictures of -/
def RA (sz le b n mo szh : Nat) (al : Wrd → Option Nat) (L : List Wrd) (tm tf ml mf re : Nat → Nat) (P S : List Wrd)
    (tS tL : Int32) (tM tF : Nat → Int32) (lc : Int32) (lv : Nat → Int64) (mode budget formed : Int32) (ce : Int64) (corr dec qn : Int32) (E : Nat → Int64) (tl pn pl : Int32) (pv : Nat → Int64) (sn sl : Int32) (sv : Nat → Int64) (kn bi : Nat → Int32) (hs hl : Int32) (hm hf rep m : Nat → Int32) (w : Nat → Int64) : Prop :=
  0 < le ∧ tS = nI sz ∧ tL = nI le ∧ m 0 = nI sz ∧ lc = nI L.length ∧ L.Nodup ∧ ACx le sz b n al L tm tf E lv tM tF m w ∧
  mode = nI mo ∧ m 35 = nI mo ∧ mo ≤ 2 ∧ budget = nI b ∧ qn = nI n ∧
  formed = m 41 ∧ (m 41 = 0 ∨ (m 41 = 1 ∧ 0 < szh)) ∧ RC ce m ∧ corr = m 42 ∧ dec = m 43 ∧ (m 43 = 0 ∨ m 43 = 1) ∧
  tl = nI le ∧ pn = nI P.length ∧ pl = nI (lg P) ∧ rX P pv ∧ sn = nI S.length ∧ sl = nI (lg S) ∧ rX S sv ∧ tok le P S ∧ tabM le P S m w ∧ cch al P S le kn bi ∧ RH le P szh ml mf re hs hl hm hf rep m
def RW (tS tL : Int32) (tM tF : Nat → Int32) (lc : Int32) (lv : Nat → Int64) (mode budget formed : Int32) (ce : Int64) (corr dec qn : Int32) (E : Nat → Int64) (tl pn pl : Int32) (pv : Nat → Int64) (sn sl : Int32) (sv : Nat → Int64) (kn bi : Nat → Int32) (hs hl : Int32) (hm hf rep m : Nat → Int32) (w : Nat → Int64) : Prop :=
  ∃ (sz le b n mo szh : Nat) (al : Wrd → Option Nat) (L : List Wrd) (tm tf ml mf re : Nat → Nat) (P S : List Wrd), RA sz le b n mo szh al L tm tf ml mf re P S tS tL tM tF lc lv mode budget formed ce corr dec qn E tl pn pl pv sn sl sv kn bi hs hl hm hf rep m w
/-- the hypothesis stays -/
theorem RH_fr {le szh : Nat} {P X : List Wrd} {ml mf re : Nat → Nat} {hs hl : Int32} {hm hf rep m m' : Nat → Int32} (h : RH le P szh ml mf re hs hl hm hf rep m) (hx : ∀ x, x = 40 ∨ 361 ≤ x → m' x = m x) : RH le (P ++ X) szh ml mf re hs hl hm hf rep m' := by
  obtain ⟨h1, h2, h3, h4, h5⟩ := h
  refine ⟨h1, by rw [hx 40 (by omega), h2], h3, h4, fun hz => ?_⟩
  obtain ⟨g1, g2, g3, g4, g5, g6, g7, g8, g9⟩ := h5 hz
  exact ⟨g1, g2, g3, g4, fun j hj => ⟨(g5 j hj).1, by rw [List.length_append]; have := (g5 j hj).2; omega⟩, g6, fun s a hs ha => by rw [hx _ (by omega), g7 s a hs ha], fun k hk => by rw [hx _ (by omega), g8 k hk], fun k hk => by rw [hx _ (by omega), g9 k hk]⟩
theorem RH_fr0 {le szh : Nat} {P : List Wrd} {ml mf re : Nat → Nat} {hs hl : Int32} {hm hf rep m m' : Nat → Int32} (h : RH le P szh ml mf re hs hl hm hf rep m) (hx : ∀ x, x = 40 ∨ 361 ≤ x → m' x = m x) : RH le P szh ml mf re hs hl hm hf rep m' := by
  have := RH_fr (X := []) h hx
  rwa [List.append_nil] at this
theorem RC_fr {ce : Int64} {m m' : Nat → Int32} (h : RC ce m) (hx : ∀ x, x = 44 ∨ (345 ≤ x ∧ x < 361) → m' x = m x) : RC ce m' := by
  rcases h with ⟨h1, h2⟩ | ⟨u, h1, h2, h3, h4, h5⟩
  · exact Or.inl ⟨h1, by rw [hx 44 (by omega), h2]⟩
  · exact Or.inr ⟨u, h1, h2, h3, by rw [hx 44 (by omega), h4], fun i hi => by rw [hx _ (by omega), h5 i hi]⟩

/-! ===== adding words to the table, on both sides ===== -/
def lgF (n : Nat) (w : Wrd) : Nat := max n w.length
/-- the longest length in a list -/
def lg (L : List Wrd) : Nat := L.foldl lgF 0
theorem lg_snoc (L : List Wrd) (u : Wrd) : lg (L ++ [u]) = max (lg L) u.length := by rw [lg, List.foldl_append]; rfl
theorem lgF_ge : ∀ (L : List Wrd) (n : Nat), n ≤ L.foldl lgF n ∧ ∀ u ∈ L, u.length ≤ L.foldl lgF n
  | [], n => ⟨Nat.le_refl _, fun u h => by cases h⟩
  | v :: L, n => by
    obtain ⟨h1, h2⟩ := lgF_ge L (lgF n v)
    have h3 : n ≤ lgF n v := Nat.le_max_left _ _
    have h4 : v.length ≤ lgF n v := Nat.le_max_right _ _
    rw [List.foldl_cons]
    refine ⟨by omega, fun u hu => ?_⟩
    rcases List.mem_cons.mp hu with rfl | h
    · omega
    · exact h2 u h
theorem lgF_le {b : Nat} : ∀ (L : List Wrd) (n : Nat), n ≤ b → (∀ u ∈ L, u.length ≤ b) → L.foldl lgF n ≤ b
  | [], n, h, _ => h
  | v :: L, n, h, h2 => by
    rw [List.foldl_cons]
    exact lgF_le L _ (Nat.max_le.mpr ⟨h, h2 v List.mem_cons_self⟩) (fun u hu => h2 u (List.mem_cons_of_mem _ hu))
theorem lg_mem {L : List Wrd} {u : Wrd} (h : u ∈ L) : u.length ≤ lg L := (lgF_ge L 0).2 u h
theorem lg_le {L : List Wrd} {b : Nat} (h : ∀ u ∈ L, u.length ≤ b) : lg L ≤ b := lgF_le L 0 (Nat.zero_le _) h
theorem lg_app (L M : List Wrd) : lg (L ++ M) = max (lg L) (lg M) := by
  apply Nat.le_antisymm
  · exact lg_le (fun u hu => by
      rcases List.mem_append.mp hu with h | h
      · have := lg_mem h; omega
      · have := lg_mem h; omega)
  · exact Nat.max_le.mpr ⟨lg_le (fun u hu => lg_mem (List.mem_append_left _ hu)), lg_le (fun u hu => lg_mem (List.mem_append_right _ hu))⟩
theorem tok_lg {le : Nat} {P S : List Wrd} (hT : tok le P S) : lg P + 1 + lg S ≤ 16 := by
  have h15 : ∀ p ∈ P, p.length ≤ 15 := fun p hp => by
    have := hT.2.2.1 p hp [] (List.mem_of_getElem? hT.2.2.2.2.2.2)
    omega
  have hs : lg S ≤ 15 := lg_le (fun s hs => (tok_s hT s hs).2)
  have hp : lg P ≤ 15 - lg S := lg_le (fun p hp => by
    have h1 := h15 p hp
    have : lg S ≤ 15 - p.length := lg_le (fun s hs => by have := hT.2.2.1 p hp s hs; omega)
    omega)
  omega
theorem tok_mk {le : Nat} {P S : List Wrd} (h1 : ∀ p ∈ P, wle le p) (h2 : ∀ s ∈ S, wle le s) (h3 : lg P + 1 + lg S ≤ 16) (h4 : P.length ≤ 40) (h5 : S.length ≤ 16) (h6 : P[0]? = some []) (h7 : S[0]? = some []) : tok le P S :=
  ⟨h1, h2, fun p hp s hs => by have := lg_mem hp; have := lg_mem hs; omega, h4, h5, h6, h7⟩
theorem at0_app {L M : List Wrd} {x : Wrd} (h : L[0]? = some x) : (L ++ M)[0]? = some x := by
  rw [List.getElem?_append_left (List.getElem?_eq_some_iff.mp h).1, h]
theorem tok_addP {le : Nat} {P S M : List Wrd} (hT : tok le P S) (hM : ∀ u ∈ M, wle le u) (h40 : P.length + M.length ≤ 40) (hl : max (lg P) (lg M) + 1 + lg S ≤ 16) : tok le (P ++ M) S :=
  tok_mk (fun p hp => by rcases List.mem_append.mp hp with h | h; exact hT.1 p h; exact hM p h) hT.2.1 (by rw [lg_app]; exact hl) (by rw [List.length_append]; exact h40) hT.2.2.2.2.1 (at0_app hT.2.2.2.2.2.1) hT.2.2.2.2.2.2
theorem tok_addS {le : Nat} {P S M : List Wrd} (hT : tok le P S) (hM : ∀ u ∈ M, wle le u) (h16 : S.length + M.length ≤ 16) (hl : max (lg S) (lg M) + 1 + lg P ≤ 16) : tok le P (S ++ M) :=
  tok_mk hT.1 (fun p hp => by rcases List.mem_append.mp hp with h | h; exact hT.2.1 p h; exact hM p h) (by rw [lg_app]; omega) hT.2.2.2.1 (by rw [List.length_append]; exact h16) hT.2.2.2.2.2.1 (at0_app hT.2.2.2.2.2.2)
/-- words that both sides write -/
def wfit (L : List Wrd) : Prop := ∀ u ∈ L, wok u ∧ u.length ≤ 16
theorem tok_wfP {le : Nat} {P S : List Wrd} (hT : tok le P S) (h3 : le ≤ 3) : wfit P := fun p hp => ⟨wle_ok (hT.1 p hp) h3, by have := lg_mem hp; have := tok_lg hT; omega⟩
theorem tok_wfS {le : Nat} {P S : List Wrd} (hT : tok le P S) (h3 : le ≤ 3) : wfit S := fun p hp => ⟨wle_ok (hT.2.1 p hp) h3, by have := (tok_s hT p hp).2; omega⟩
theorem s_WL_contains_loop {N : Nat} {L : List Wrd} {v : Nat → Int64} {u : Wrd} (hN : L.length ≤ N) (hN' : N < 1000) (hL : wfit L) (hu : wok u) (hu16 : u.length ≤ 16) (hv : rX L v) :
    ∀ (n k : Nat), k ≤ L.length → L.length - k < n → (∀ j (h : j < L.length), j < k → L[j] ≠ u) → itr (fun _ => none) (f_WL_contains_L2 N (nI L.length) v (lN (eX u)) (fun _ => some (0 : Int32))) n (nI k) = some (if u ∈ L then 1 else 0) := by
  have hb := eX_small hu (by omega)
  intro n
  induction n with
  | zero => intro k _ h; omega
  | succ n ih =>
    intro k hk hn hno
    rw [itr_s, f_WL_contains_L2]
    rcases Nat.lt_or_ge k L.length with c | c
    · obtain ⟨q1, q2⟩ := hL _ (List.getElem_mem c)
      have hb2 := eX_small q1 (by omega)
      rw [if_neg (nI_ge c (by omega)), gIn_nI (by omega) (by omega), nI_clamp (by omega), hv k c]
      by_cases e : L[k] = u
      · rw [if_pos (by rw [e]), if_pos (by rw [← e]; exact List.getElem_mem c)]
      · rw [if_neg (fun q => e (eX_inj q1 hu (lN_inj (by omega) (by omega) q))), bnd_eq, show nI k + 1 = nI (k + 1) from nI_1 k]
        refine ih (k + 1) c (by omega) (fun j hj hjk => ?_)
        rcases Nat.lt_or_ge j k with z | z
        · exact hno j hj z
        · have : j = k := by omega
          subst this; exact e
    · rw [if_pos (nI_le c (by omega)), if_neg]
      intro hm
      obtain ⟨j, h1, h2⟩ := List.mem_iff_getElem.mp hm
      exact hno j h1 (by omega) h2
theorem s_WL_contains {N : Nat} {L : List Wrd} {v : Nat → Int64} {u : Wrd} (hN : L.length ≤ N) (hN' : N < 1000) (hL : wfit L) (hu : wok u) (hu16 : u.length ≤ 16) (hv : rX L v) : f_WL_contains N (lN (eX u)) (nI L.length) v = some (if u ∈ L then 1 else 0) :=
  s_WL_contains_loop hN hN' hL hu hu16 hv FU 0 (Nat.zero_le _) (by rw [FU_eq]; omega) (fun j _ h => absurd h (Nat.not_lt_zero _))
theorem s_Mo_isWord_loop {b : Nat} {L : List Wrd} {w : Nat → Int64} {u : Wrd} (hN : b + L.length ≤ 360) (hL : wfit L) (hu : wok u) (hu16 : u.length ≤ 16) (hv : rMo b L w) :
    ∀ (n k : Nat), k ≤ L.length → L.length - k < n → (∀ j (h : j < L.length), j < k → L[j] ≠ u) → ∃ r, itr (fun _ => none) (f_Mo_isWord_L3 w (nI b) (nI L.length) (lN (eM u)) (fun _ => some (-1 : Int32))) n (nI k) = some r ∧ (r = (-1 : Int32) ↔ u ∉ L) := by
  have hb := eM_small hu (by omega)
  intro n
  induction n with
  | zero => intro k _ h; omega
  | succ n ih =>
    intro k hk hn hno
    rw [itr_s, f_Mo_isWord_L3]
    rcases Nat.lt_or_ge k L.length with c | c
    · obtain ⟨q1, q2⟩ := hL _ (List.getElem_mem c)
      have hb2 := eM_small q1 (by omega)
      rw [if_neg (nI_ge c (by omega)), nI_add, gIn_nI (by omega) (by omega), nI_clamp (by omega), hv k c]
      by_cases e : L[k] = u
      · rw [if_pos (by rw [e])]
        refine ⟨nI k, rfl, ?_⟩
        rw [show (-1 : Int32) = mI 1 from rfl, nm_eq (by omega) (by omega) (by omega)]
        exact ⟨False.elim, fun h => h (by rw [← e]; exact List.getElem_mem c)⟩
      · rw [if_neg (fun q => e (eM_inj q1 hu (lN_inj (by omega) (by omega) q))), bnd_eq, show nI k + 1 = nI (k + 1) from nI_1 k]
        refine ih (k + 1) c (by omega) (fun j hj hjk => ?_)
        rcases Nat.lt_or_ge j k with z | z
        · exact hno j hj z
        · have : j = k := by omega
          subst this; exact e
    · rw [if_pos (nI_le c (by omega))]
      refine ⟨-1, rfl, fun _ hm => ?_, fun _ => rfl⟩
      obtain ⟨j, h1, h2⟩ := List.mem_iff_getElem.mp hm
      exact hno j h1 (by omega) h2
theorem s_Mo_isWord {b : Nat} {L : List Wrd} {w : Nat → Int64} {u : Wrd} (hN : b + L.length ≤ 360) (hL : wfit L) (hu : wok u) (hu16 : u.length ≤ 16) (hv : rMo b L w) : ∃ r, f_Mo_isWord (nI b) (nI L.length) (lN (eM u)) w = some r ∧ (r = (-1 : Int32) ↔ u ∉ L) :=
  s_Mo_isWord_loop hN hL hu hu16 hv FU 0 (Nat.zero_le _) (by rw [FU_eq]; omega) (fun j _ h => absurd h (Nat.not_lt_zero _))
/-- the words that the reference is about to add -/
def rMz (M : List Wrd) (more : Nat → Int64) : Prop := ∀ k (h : k < M.length), more k = lN (eM M[k])
def wnt (L M : List Wrd) (u : Wrd) : List Wrd := if u ∈ L then M else M ++ [u]
theorem rMz_snoc {M : List Wrd} {more : Nat → Int64} (h : rMz M more) (u : Wrd) : rMz (M ++ [u]) (vp_updL more M.length (lN (eM u))) := by
  intro k hk
  rw [List.length_append, List.length_singleton] at hk
  rcases Nat.lt_or_ge k M.length with z | z
  · rw [List.getElem_append_left z]
    exact (if_neg (by omega)).trans (h k z)
  · have : k = M.length := by omega
    subst this
    rw [List.getElem_append_right (Nat.le_refl _)]
    simp [vp_updL]
theorem s_Mo_wants {le : Nat} {P S M : List Wrd} {m : Nat → Int32} {w more : Nat → Int64} {u : Wrd} (hT : tok le P S) (hM : tabM le P S m w) (h3 : le ≤ 3) (hu : wok u) (hu16 : u.length ≤ 16) (hM17 : M.length < 17) (hr : rMz M more) (c : Nat) (hc : c ≤ 1) :
    ∃ more', f_Mo_wants (lN (eM u)) (nI c) (nI M.length) m w more = some (more', nI (wnt (if c = 0 then P else S) M u).length) ∧ rMz (wnt (if c = 0 then P else S) M u) more' := by
  have key : ∀ {b : Nat} {L : List Wrd}, b + L.length ≤ 360 → wfit L → rMo b L w → ∃ more', (bd1 (f_Mo_isWord (nI b) (nI L.length) (lN (eM u)) w) (fun r => (if r = (-1 : Int32) then (gIn (nI M.length) 17 (bnd (vp_updL more (nI M.length).toNatClampNeg (lN (eM u))) (fun v_more_1 => (bnd (nI M.length + (1 : Int32)) (fun v_mores_1 => (some (v_more_1, v_mores_1))))))) else (some (more, nI M.length))))) = some (more', nI (wnt L M u).length) ∧ rMz (wnt L M u) more' := by
    intro b L h1 h2 h4
    obtain ⟨r, e1, e2⟩ := s_Mo_isWord h1 h2 hu hu16 h4
    rw [e1, bd1_s]
    by_cases z : u ∈ L
    · rw [if_neg (fun q => (e2.mp q) z), wnt, if_pos z]
      exact ⟨more, rfl, hr⟩
    · rw [if_pos (e2.mpr z), gIn_nI hM17 (by omega), bnd_eq, bnd_eq, nI_clamp (by omega), wnt, if_neg z, show nI M.length + (1 : Int32) = nI (M.length + 1) from nI_1 _, List.length_append]
      exact ⟨_, rfl, rMz_snoc hr u⟩
  rw [f_Mo_wants]
  rcases (show c = 0 ∨ c = 1 by omega) with rfl | rfl
  · rw [if_pos (show nI 0 = (0 : Int32) from rfl), if_pos (show nI 0 = (0 : Int32) from rfl), bnd_eq, bnd_eq, hM.2.1, if_pos rfl]
    exact key (b := 304) (by have := hT.2.2.2.1; omega) (tok_wfP hT h3) hM.2.2.2.1
  · rw [if_neg (show ¬ nI 1 = (0 : Int32) by decide), if_neg (show ¬ nI 1 = (0 : Int32) by decide), bnd_eq, bnd_eq, hM.2.2.1, if_neg (by decide)]
    exact key (b := 344) (by have := hT.2.2.2.2.1; omega) (tok_wfS hT h3) hM.2.2.2.2

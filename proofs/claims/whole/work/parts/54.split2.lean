/-! ===== the joint loop of the split ===== -/
theorem s_split_loop {le sz szh b : Nat} {P S L : List Wrd} {tm tf ml re : Nat → Nat} {lv pv sv : Nat → Int64} {p g mv rv' v : Nat → Int32} {u : Wrd} {fo : Int32} (hT : tok le P S) (h3 : le ≤ 3) (hsz : szh ≤ 40) (hmv : rI 120 ml mv) (hml : mok szh le ml) (hrX : ∀ j, j < szh → rv' j = nI (re j) ∧ re j < P.length) (hpv : rX P pv) (hu : wle le u) (h16 : u.length ≤ 16) (hv : pthR u v) {a0 : Nat} (ha0 : a0 ≤ 1)
    {Kc : Int32 → Int32 → Int32 → (Nat → Int64) → Int32 → Option (Int32 × (Nat → Int64) × Int32 × (Nat → Int64) × Int32 × Int32 × (Nat → Int64) × Int32 × Int32 × Int32)} {Kr : Int32 → Int32 → (Nat → Int32) → (Nat → Int64) → Option (Int32 × (Nat → Int32) × (Nat → Int64))} :
    ∀ (d lo hi it nc nr n : Nat) (al : Wrd → Option Nat) (E : Nat → Int64) (m : Nat → Int32) (w : Nat → Int64), hi - lo ≤ d → d < nc → d < nr → lo ≤ hi → hi ≤ u.length → (hi - lo) + it ≤ 16 → ACx le sz b n al L tm tf E lv p g m w → tabM le P S m w → rIm 361 szh le ml m → (∀ j, j < szh → m (521 + j) = nI (re j)) →
      ∃ n' al' E' m' w', ACx le sz b n' al' L tm tf E' lv p g m' w' ∧ aleq al al' ∧ frA m m' w w' ∧
        ((∃ lo' hi' it', hi' ≤ u.length ∧ itr (fun _ _ _ _ _ => none) (f_Le_addSplit_L30 (nI b) fo (nI P.length) (nI (lg P)) pv (nI S.length) (nI (lg S)) sv mv rv' (nI L.length) p g lv (lN (eX u)) (nI a0) Kc) nc (nI lo) (nI hi) (nI it) E (nI n) = Kc (nI lo') (nI hi') it' E' (nI n') ∧ itr (fun _ _ _ _ => none) (f_Mo_halves_L13 (nI u.length) v (nI a0) Kr) nr (nI lo) (nI hi) m w = Kr (nI lo') (nI hi') m' w') ∨
         (∃ r, (r = -4 ∨ r = -5) ∧ itr (fun _ _ _ _ _ => none) (f_Le_addSplit_L30 (nI b) fo (nI P.length) (nI (lg P)) pv (nI S.length) (nI (lg S)) sv mv rv' (nI L.length) p g lv (lN (eX u)) (nI a0) Kc) nc (nI lo) (nI hi) (nI it) E (nI n) = some (r, E', nI n', pv, nI P.length, nI (lg P), sv, nI S.length, nI (lg S), fo) ∧ itr (fun _ _ _ _ => none) (f_Mo_halves_L13 (nI u.length) v (nI a0) Kr) nr (nI lo) (nI hi) m w = some (r, m', w'))) := by
  intro d
  induction d with
  | zero =>
    intro lo hi it nc nr n al E m w h1 h2 h2' hlh hhu hit hA hM hI hJ
    obtain ⟨nc, rfl⟩ : ∃ k, nc = k + 1 := ⟨nc - 1, by omega⟩
    obtain ⟨nr, rfl⟩ : ∃ k, nr = k + 1 := ⟨nr - 1, by omega⟩
    rw [itr_s, itr_s, f_Le_addSplit_L30, f_Mo_halves_L13, pk_sub hlh, if_pos (show nI (hi - lo) ≤ (1 : Int32) from nI_le (b := 1) (by omega) (by omega)), if_neg (show ¬ nI a0 < (0 : Int32) from Int32.not_lt.mpr (nI_le (a := 0) (Nat.zero_le _) (by omega)))]
    refine ⟨n, al, E, m, w, hA, fun _ _ h => h, frA_refl m w, Or.inl ⟨lo, hi, nI it, hhu, ?_, ?_⟩⟩
    · split <;> rfl
    · rw [if_pos (show nI (hi - lo) ≤ (1 : Int32) from nI_le (b := 1) (by omega) (by omega))]
  | succ d ih =>
    intro lo hi it nc nr n al E m w h1 h2 h2' hlh hhu hit hA hM hI hJ
    obtain ⟨nc, rfl⟩ : ∃ k, nc = k + 1 := ⟨nc - 1, by omega⟩
    obtain ⟨nr, rfl⟩ : ∃ k, nr = k + 1 := ⟨nr - 1, by omega⟩
    rw [itr_s, itr_s, f_Le_addSplit_L30, f_Mo_halves_L13, pk_sub hlh, if_neg (show ¬ nI a0 < (0 : Int32) from Int32.not_lt.mpr (nI_le (a := 0) (Nat.zero_le _) (by omega)))]
    rcases Nat.lt_or_ge 1 (hi - lo) with z | z
    · have hm1 : nI lo + nI hi = nI (lo + hi) := nI_add lo hi
      have hm2 : nI (lo + hi) / (2 : Int32) = nI ((lo + hi) / 2) := pk_div (d := 2) (by omega) (by decide) (by decide)
      rw [if_neg (show ¬ (16 : Int32) ≤ nI it from nI_ge (b := 16) (by omega) (by omega)), if_neg (show ¬ nI (hi - lo) ≤ (1 : Int32) from nI_ge (a := 1) z (by omega)), if_neg (show ¬ nI (hi - lo) ≤ (1 : Int32) from nI_ge (a := 1) z (by omega)), hm1, hm2, bnd_eq, bnd_eq, s_Le_question hT h3 hsz hmv hml hrX hpv hu h16 (by omega), bd1_s, s_Mo_question hT hM h3 hsz hI hml (fun j hj => ⟨hJ j hj, (hrX j hj).2⟩) hu h16 hv (by omega)]
      cases e : qw ml re P u ((lo + hi) / 2) with
      | none =>
        rw [oE_n, bd3_s, if_pos (show wvX none = -1 from rfl), f_Le_addSplit_J85, if_neg (show ¬ (0 : Int32) ≤ -5 by decide), if_neg (show ¬ (0 : Int32) ≤ -5 by decide)]
        exact ⟨n, al, E, m, w, hA, fun _ _ h => h, frA_refl m w, Or.inr ⟨-5, Or.inr rfl, rfl, rfl⟩⟩
      | some q =>
        have hq : wle le q ∧ q.length ≤ 16 := by
          rw [qw] at e
          by_cases y : (qv ml re P u ((lo + hi) / 2)).length ≤ 16
          · rw [if_pos y] at e
            cases e
            have hs : rn ml 0 (u.take ((lo + hi) / 2)) < szh := rn_lt hml (fun a ha => hu a (List.mem_of_mem_take ha)) hml.1
            exact ⟨wle_app.mpr ⟨hT.1 _ (pw_mem (hrX _ hs).2), fun a ha => hu a (List.mem_of_mem_drop ha)⟩, y⟩
          · rw [if_neg y] at e; cases e
        have hb := eX_small (wle_ok hq.1 h3) (by have := hq.2; omega)
        obtain ⟨r, al1, n1, E1, m1, w1, c1, c2, c3, c4, c5, c6⟩ := ask3 hA hq.1 hq.2
        rw [oE_s, if_neg (wvX_some q (by omega)), show wvX (some q) = lN (eX q) from rfl, c1, bd3_s, c2, bd3_s, bd3_s, f_Le_addSplit_J85]
        rcases c6 with ⟨rfl, rfl⟩ | ⟨a, a1, rfl, -⟩
        · rw [if_neg (show ¬ (0 : Int32) ≤ -4 by decide), if_neg (show ¬ (0 : Int32) ≤ -4 by decide)]
          exact ⟨n1, _, E1, m1, w1, c3, c4, c5, Or.inr ⟨-4, Or.inl rfl, rfl, rfl⟩⟩
        · have hge : (0 : Int32) ≤ nI a := nI_le (a := 0) (Nat.zero_le _) (by omega)
          have fI : rIm 361 szh le ml m1 := fun s x hs hx => by rw [c5.1 _ (by omega) (by omega), hI s x hs hx]
          have fJ : ∀ j, j < szh → m1 (521 + j) = nI (re j) := fun j hj => by rw [c5.1 _ (by omega) (by omega), hJ j hj]
          rw [if_pos hge, if_pos hge, bnd_eq, bnd_eq, f_Le_addSplit_J113, f_Le_addSplit_J113, bnd_eq, bnd_eq, show nI it + 1 = nI (it + 1) from nI_1 it]
          by_cases y : nI a = nI a0
          · rw [if_pos y, if_pos y, if_pos y]
            obtain ⟨n2, al2, E2, m2, w2, d1, d2, d3, d4⟩ := ih ((lo + hi) / 2) hi (it + 1) nc nr n1 al1 E1 m1 w1 (by omega) (by omega) (by omega) (by omega) hhu (by omega) c3 (frA_tab c5 hM) fI fJ
            exact ⟨n2, al2, E2, m2, w2, d1, fun x a h => d2 x a (c4 x a h), frA_trans c5 d3, d4⟩
          · rw [if_neg y, if_neg y, if_neg y]
            obtain ⟨n2, al2, E2, m2, w2, d1, d2, d3, d4⟩ := ih lo ((lo + hi) / 2) (it + 1) nc nr n1 al1 E1 m1 w1 (by omega) (by omega) (by omega) (by omega) (by omega) (by omega) c3 (frA_tab c5 hM) fI fJ
            exact ⟨n2, al2, E2, m2, w2, d1, fun x a h => d2 x a (c4 x a h), frA_trans c5 d3, d4⟩
    · rw [if_pos (show nI (hi - lo) ≤ (1 : Int32) from nI_le (b := 1) z (by omega))]
      refine ⟨n, al, E, m, w, hA, fun _ _ h => h, frA_refl m w, Or.inl ⟨lo, hi, nI it, hhu, ?_, ?_⟩⟩
      · split <;> rfl
      · rw [if_pos (show nI (hi - lo) ≤ (1 : Int32) from nI_le (b := 1) z (by omega))]

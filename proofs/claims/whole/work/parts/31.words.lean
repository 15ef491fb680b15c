/-! ===== words: a list of letters; the class's number eX (first letter lowest, a 1 above the last), the reference's eM ===== -/
def wok (w : List Nat) : Prop := ∀ a ∈ w, a < 3
def eX : List Nat → Nat
  | [] => 1
  | a :: w => a + 4 * eX w
def eMf (n : Nat) (a : Nat) : Nat := 4 * n + a + 1
def eM (w : List Nat) : Nat := w.foldl eMf 0
theorem wok_nil : wok [] := fun a h => by cases h
theorem wok_cons {a : Nat} {w : List Nat} : wok (a :: w) ↔ a < 3 ∧ wok w := List.forall_mem_cons
theorem wok_app {u v : List Nat} : wok (u ++ v) ↔ wok u ∧ wok v := List.forall_mem_append
theorem wok_one {a : Nat} : wok [a] ↔ a < 3 := by rw [wok_cons]; exact ⟨fun h => h.1, fun h => ⟨h, wok_nil⟩⟩
theorem wok_take {w : List Nat} (h : wok w) (k : Nat) : wok (w.take k) := fun a ha => h a (List.mem_of_mem_take ha)
theorem wok_drop {w : List Nat} (h : wok w) (k : Nat) : wok (w.drop k) := fun a ha => h a (List.mem_of_mem_drop ha)
theorem eX_lb : ∀ w : List Nat, 4 ^ w.length ≤ eX w
  | [] => Nat.le_refl 1
  | a :: w => by
    have := eX_lb w
    rw [List.length_cons, Nat.pow_succ, eX]
    omega
theorem eX_ub : ∀ {w : List Nat}, wok w → eX w < 2 * 4 ^ w.length
  | [], _ => by decide
  | a :: w, h => by
    have h1 := eX_ub (wok_cons.mp h).2
    have h2 := (wok_cons.mp h).1
    rw [List.length_cons, Nat.pow_succ, eX]
    omega
theorem p4_pos (n : Nat) : 0 < 4 ^ n := Nat.pow_pos (by decide)
theorem eX_app (u v : List Nat) : eX (u ++ v) + 4 ^ u.length = eX u + 4 ^ u.length * eX v := by
  induction u with
  | nil => simp only [List.nil_append, List.length_nil, Nat.pow_zero, eX, Nat.one_mul]; omega
  | cons a u ih =>
    rw [List.cons_append, eX, eX, List.length_cons, Nat.pow_succ]
    have e : 4 ^ u.length * 4 * eX v = 4 * (4 ^ u.length * eX v) := by rw [Nat.mul_comm (4 ^ u.length) 4, Nat.mul_assoc]
    rw [e]
    omega
theorem eX_drop : ∀ {w : List Nat} (k : Nat), wok w → k ≤ w.length → eX w / 4 ^ k = eX (w.drop k)
  | w, 0, _, _ => by simp
  | [], k + 1, _, h => by simp at h
  | a :: w, k + 1, hw, h => by
    have ha := (wok_cons.mp hw).1
    have ih := eX_drop k (wok_cons.mp hw).2 (by simpa using h)
    rw [List.drop_succ_cons, ← ih, eX, Nat.pow_succ, Nat.mul_comm (4 ^ k) 4, ← Nat.div_div_eq_div_mul]
    congr 1
    omega
theorem eX_mod4 {w : List Nat} (hw : wok w) (k : Nat) (hk : k < w.length) : eX w / 4 ^ k % 4 = w[k] := by
  rw [eX_drop k hw (by omega), List.drop_eq_getElem_cons hk, eX]
  have : w[k] < 3 := hw _ (List.getElem_mem hk)
  omega
theorem eX_big {w : List Nat} (hw : wok w) (k : Nat) (hk : w.length < k) : eX w / 4 ^ k = 0 := by
  have h1 := eX_ub hw
  have h2 : 4 ^ (w.length + 1) ≤ 4 ^ k := Nat.pow_le_pow_right (by decide) hk
  rw [Nat.pow_succ] at h2
  exact Nat.div_eq_of_lt (by omega)
theorem eX_take : ∀ {w : List Nat} (k : Nat), wok w → k ≤ w.length → eX w % 4 ^ k + 4 ^ k = eX (w.take k)
  | w, 0, _, _ => by simp [eX, Nat.mod_one]
  | [], k + 1, _, h => by simp at h
  | a :: w, k + 1, hw, h => by
    have ha := (wok_cons.mp hw).1
    have ih := eX_take k (wok_cons.mp hw).2 (by simpa using h)
    rw [List.take_succ_cons, eX, eX, ← ih, Nat.pow_succ, Nat.mul_comm (4 ^ k) 4]
    have e : (a + 4 * eX w) % (4 * 4 ^ k) = a + 4 * (eX w % 4 ^ k) := by
      rw [Nat.mod_mul]
      have h1 : (a + 4 * eX w) % 4 = a := by omega
      have h2 : (a + 4 * eX w) / 4 = eX w := by omega
      rw [h1, h2]
    rw [e]
    omega
theorem eX_inj : ∀ {u v : List Nat}, wok u → wok v → eX u = eX v → u = v
  | [], [], _, _, _ => rfl
  | [], b :: v, _, hv, h => by
    have h1 := eX_lb v
    have h2 := p4_pos v.length
    rw [eX, eX] at h
    omega
  | a :: u, [], hu, _, h => by
    have h1 := eX_lb u
    have h2 := p4_pos u.length
    rw [eX, eX] at h
    omega
  | a :: u, b :: v, hu, hv, h => by
    have ha := (wok_cons.mp hu).1
    have hb := (wok_cons.mp hv).1
    rw [eX, eX] at h
    rw [show a = b by omega, eX_inj (wok_cons.mp hu).2 (wok_cons.mp hv).2 (by omega)]
theorem eM_snoc (w : List Nat) (a : Nat) : eM (w ++ [a]) = 4 * eM w + a + 1 := by simp [eM, eMf]
theorem eM_app (u v : List Nat) : eM (u ++ v) = eM u * 4 ^ v.length + eM v := by
  have key : ∀ (v : List Nat) (n : Nat), v.foldl eMf n = n * 4 ^ v.length + v.foldl eMf 0 := by
    intro v
    induction v with
    | nil => intro n; simp
    | cons a v ih =>
      intro n
      rw [List.foldl_cons, List.foldl_cons, ih, ih (eMf 0 a), eMf, eMf, List.length_cons, Nat.pow_succ]
      have e : (4 * n + a + 1) * 4 ^ v.length = n * (4 ^ v.length * 4) + (4 * 0 + a + 1) * 4 ^ v.length := by
        rw [Nat.mul_comm (4 ^ v.length) 4, ← Nat.mul_assoc, Nat.mul_comm n 4, ← Nat.add_mul]
        congr 1
        omega
      omega
  rw [eM, List.foldl_append, key]
  rfl
theorem eM_nil : eM [] = 0 := rfl
theorem snoc_ind {P : List Nat → Prop} (h0 : P []) (hs : ∀ w a, P w → P (w ++ [a])) : ∀ w, P w := by
  intro w
  have : ∀ n (w : List Nat), w.length = n → P w := by
    intro n
    induction n with
    | zero => intro w hw; rw [List.length_eq_zero_iff.mp hw]; exact h0
    | succ n ih =>
      intro w hw
      have hne : w ≠ [] := by intro e; rw [e] at hw; cases hw
      rw [← List.dropLast_concat_getLast hne]
      exact hs _ _ (ih _ (by rw [List.length_dropLast, hw]; rfl))
  exact this _ w rfl
theorem eM_ub : ∀ {w : List Nat}, wok w → eM w < 4 ^ w.length := by
  intro w
  refine snoc_ind (P := fun w => wok w → eM w < 4 ^ w.length) (fun _ => by decide) (fun w a ih h => ?_) w
  have h1 := ih (wok_app.mp h).1
  have h2 := wok_one.mp (wok_app.mp h).2
  rw [eM_snoc, List.length_append, List.length_singleton, Nat.pow_succ]
  omega
/-- the reference's number, cut behind: the first letters -/
theorem eM_cut {w : List Nat} (hw : wok w) (k : Nat) (hk : k ≤ w.length) : eM w / 4 ^ (w.length - k) = eM (w.take k) := by
  have e : w = w.take k ++ w.drop k := (List.take_append_drop k w).symm
  have hl : (w.drop k).length = w.length - k := List.length_drop
  conv => lhs; rw [e]
  rw [eM_app, List.length_append, List.length_take, List.length_drop, show min k w.length + (w.length - k) - k = w.length - k by omega, Nat.mul_comm, Nat.mul_add_div (p4_pos _)]
  have := eM_ub (wok_drop hw k)
  rw [hl] at this
  rw [Nat.div_eq_of_lt this]
  rfl
theorem eM_lb {w : List Nat} (h : w ≠ []) : 0 < eM w := by
  rw [← List.dropLast_concat_getLast h, eM_snoc]
  omega
theorem eM_mod4 {w : List Nat} (hw : wok w) (k : Nat) (hk : k < w.length) : eM w / 4 ^ (w.length - 1 - k) % 4 = w[k] + 1 := by
  rw [show w.length - 1 - k = w.length - (k + 1) by omega, eM_cut hw (k + 1) (by omega), List.take_succ_eq_append_getElem hk, eM_snoc]
  have : w[k] < 3 := hw _ (List.getElem_mem hk)
  omega
theorem eM_inj : ∀ {u v : List Nat}, wok u → wok v → eM u = eM v → u = v := by
  intro u
  refine snoc_ind (P := fun u => ∀ {v : List Nat}, wok u → wok v → eM u = eM v → u = v) ?_ ?_ u
  · intro v _ hv h
    by_cases hn : v = []
    · exact hn.symm
    · have := eM_lb hn
      rw [← h, eM_nil] at this
      omega
  · intro u a ih v hu hv h
    by_cases hn : v = []
    · subst hn
      rw [eM_snoc, eM_nil] at h
      omega
    · rw [← List.dropLast_concat_getLast hn] at h hv ⊢
      have ha := wok_one.mp (wok_app.mp hu).2
      have hb := wok_one.mp (wok_app.mp hv).2
      rw [eM_snoc, eM_snoc] at h
      rw [ih (wok_app.mp hu).1 (wok_app.mp hv).1 (by omega), show a = v.getLast hn by omega]
theorem p4_16 {n : Nat} (h : n ≤ 16) : 4 ^ n ≤ 4294967296 := by
  have := Nat.pow_le_pow_right (n := 4) (by decide) h
  exact this
theorem p4_33 {n : Nat} (h : n ≤ 17) : 4 ^ n ≤ 17179869184 := by
  have := Nat.pow_le_pow_right (n := 4) (by decide) h
  exact this
theorem eX_small {w : List Nat} (hw : wok w) (h : w.length ≤ 17) : eX w < 34359738368 := by
  have := eX_ub hw
  have := p4_33 h
  omega
theorem eM_small {w : List Nat} (hw : wok w) (h : w.length ≤ 17) : eM w < 17179869184 := by
  have := eM_ub hw
  have := p4_33 h
  omega
theorem two_four (k : Nat) : 2 ^ (2 * k) = 4 ^ k := by rw [Nat.pow_mul]
/-! the class's functions on words -/
theorem s_Ws_lengthOf_loop {w : List Nat} (hw : wok w) (hl : w.length ≤ 16) : ∀ (n k : Nat), k ≤ w.length → w.length - k < n → itr (fun _ _ => none) (f_Ws_lengthOf_L6 (fun x2 _ => some x2)) n (nI k) (lN (eX w / 4 ^ (k + 1))) = some (nI w.length) := by
  intro n
  induction n with
  | zero => intro k _ h; omega
  | succ n ih =>
    intro k hk h
    rw [itr_s, f_Ws_lengthOf_L6]
    have hs : eX w / 4 ^ (k + 1) < 34359738368 := Nat.lt_of_le_of_lt (Nat.div_le_self _ _) (eX_small hw (by omega))
    rcases Nat.lt_or_ge k w.length with hlt | hge
    · have hpos : 0 < eX w / 4 ^ (k + 1) := by
        rw [eX_drop (k + 1) hw hlt]
        exact Nat.lt_of_lt_of_le (p4_pos _) (eX_lb _)
      rw [if_pos ((lN_pos (by omega)).mpr hpos), if_neg (by rw [fl, nI_leI (by omega) (by omega)]; omega)]
      simp only [bnd]
      rw [show nI k + 1 = nI (k + 1) from nI_1 k, lN_shr2 (by omega), Nat.div_div_eq_div_mul, ← Nat.pow_succ]
      exact ih (k + 1) hlt (by omega)
    · have : k = w.length := by omega
      subst this
      rw [eX_big hw _ (Nat.lt_succ_self _), if_neg (by rw [lN_pos (by omega)]; omega)]
theorem s_Ws_lengthOf {w : List Nat} (hw : wok w) (hl : w.length ≤ 16) : f_Ws_lengthOf (lN (eX w)) = some (nI w.length) := by
  rw [f_Ws_lengthOf]
  simp only [bnd]
  rw [lN_shr2 (by have := eX_small hw (by omega); omega)]
  have := s_Ws_lengthOf_loop hw hl FU 0 (Nat.zero_le _) (by rw [FU_eq]; omega)
  exact this
theorem s_Ws_letterAt {w : List Nat} (hw : wok w) (hl : w.length ≤ 16) {k : Nat} (hk : k < w.length) : f_Ws_letterAt (lN (eX w)) (nI k) = some (nI w[k]) := by
  have h1 := eX_small hw (by omega)
  rw [f_Ws_letterAt, fl, pk_mul, lN_shrK (by omega) (by omega), two_four, lN_and3 (Nat.lt_of_le_of_lt (Nat.div_le_self _ _) (by omega)), lN_i, eX_mod4 hw k hk]
theorem s_Ws_single {a : Nat} (ha : a < 3) : f_Ws_single (nI a) = some (lN (eX [a])) := by
  rcases (show a = 0 ∨ a = 1 ∨ a = 2 by omega) with rfl | rfl | rfl <;> decide +kernel
theorem p2_lt {k : Nat} (h : k ≤ 16) : 2 ^ (2 * k) < 2 ^ 33 := Nat.pow_lt_pow_right (by decide) (by omega)
theorem s_Ws_join {u v : List Nat} (hu : wok u) (hv : wok v) (hl : u.length + v.length ≤ 17) (hu16 : u.length ≤ 16) : f_Ws_join (lN (eX u)) (lN (eX v)) = some (lN (eX (u ++ v))) := by
  rw [f_Ws_join, s_Ws_lengthOf hu hu16, bd1_s]
  simp only [bnd]
  have h1 := eX_lb u
  have h2 := eX_ub hu
  have h3 := eX_app u v
  have h4 := p2_lt hu16
  have h5 := eX_small (wok_app.mpr ⟨hu, hv⟩) (by rw [List.length_append]; omega)
  have h6 := eX_small hv (by omega)
  rw [fl, pk_mul, flL, wb_shl 1 (by omega), wb_shl _ (by omega), Nat.one_mul, two_four] at *
  have h7 : lN (eX u) ^^^ lN (4 ^ u.length) = lN (eX u - 4 ^ u.length) := by
    rw [← two_four] at h1 h2 ⊢
    exact wb_xor (by omega) h1 (by rw [Nat.pow_succ]; omega)
  rw [h7, g_or' (k := 2 * u.length) (two_four _) (by omega) (by rw [Nat.mul_comm (eX v)]; omega)]
  congr 2
  rw [Nat.mul_comm (eX v)]
  omega
theorem s_Ws_append {u : List Nat} {a : Nat} (hu : wok u) (ha : a < 3) (hl : u.length ≤ 16) : f_Ws_append (lN (eX u)) (nI a) = some (lN (eX (u ++ [a]))) := by
  rw [f_Ws_append, s_Ws_single ha, bd1_s, s_Ws_join hu (wok_one.mpr ha) (by simpa using hl) hl, bd1_s]
theorem s_Ws_tailFrom {w : List Nat} (hw : wok w) (hl : w.length ≤ 16) {k : Nat} (hk : k ≤ w.length) : f_Ws_tailFrom (lN (eX w)) (nI k) = some (lN (eX (w.drop k))) := by
  have h1 := eX_small hw (by omega)
  rw [f_Ws_tailFrom, fl, pk_mul, lN_shrK (by omega) (by omega), two_four, eX_drop k hw hk]
theorem s_Ws_head {w : List Nat} (hw : wok w) (hl : w.length ≤ 16) {k : Nat} (hk : k ≤ w.length) : f_Ws_head (lN (eX w)) (nI k) = some (lN (eX (w.take k))) := by
  have h1 := eX_small hw (by omega)
  have h4 := p2_lt (k := k) (by omega)
  have h5 : 0 < 2 ^ (2 * k) := Nat.pow_pos (by decide)
  rw [f_Ws_head, fl, pk_mul]
  simp only [bnd]
  rw [flL, wb_shl 1 (by omega), Nat.one_mul, lN_sub (by omega), wb_mask (by omega) (by omega)]
  have h6 : eX w % 2 ^ (2 * k) < 2 ^ (2 * k) := Nat.mod_lt _ h5
  have h7 := g_or' (k := 2 * k) (a := eX w % 2 ^ (2 * k)) (b := 1) rfl h6 (by omega)
  rw [Nat.one_mul] at h7
  rw [h7, two_four, eX_take k hw hk]
/-! the reference's functions on words -/
theorem s_Mo_lengthOf_loop {w : List Nat} (hw : wok w) (hl : w.length ≤ 17) : ∀ (n k : Nat), k ≤ w.length → w.length - k < n → itr (fun _ _ => none) (f_Mo_lengthOf_L4 (fun x2 _ => some x2)) n (nI k) (lN (eM w / 4 ^ k)) = some (nI w.length) := by
  intro n
  induction n with
  | zero => intro k _ h; omega
  | succ n ih =>
    intro k hk h
    rw [itr_s, f_Mo_lengthOf_L4]
    have hs : eM w / 4 ^ k < 34359738368 := Nat.lt_of_le_of_lt (Nat.div_le_self _ _) (by have := eM_small hw hl; omega)
    rcases Nat.lt_or_ge k w.length with hlt | hge
    · have hpos : 0 < eM w / 4 ^ k := by
        have := eM_cut hw (w.length - k) (by omega)
        rw [show w.length - (w.length - k) = k by omega] at this
        rw [this]
        refine eM_lb ?_
        intro e
        have := congrArg List.length e
        rw [List.length_take, List.length_nil] at this
        omega
      rw [if_pos ((lN_pos (by omega)).mpr hpos)]
      simp only [bnd]
      rw [show nI k + 1 = nI (k + 1) from nI_1 k, lN_shr2 (by omega), Nat.div_div_eq_div_mul, ← Nat.pow_succ]
      exact ih (k + 1) hlt (by omega)
    · have : k = w.length := by omega
      subst this
      rw [Nat.div_eq_of_lt (eM_ub hw), if_neg (by rw [lN_pos (by omega)]; omega)]
theorem s_Mo_lengthOf {w : List Nat} (hw : wok w) (hl : w.length ≤ 17) : f_Mo_lengthOf (lN (eM w)) = some (nI w.length) := by
  have := s_Mo_lengthOf_loop hw hl FU 0 (Nat.zero_le _) (by rw [FU_eq]; omega)
  rw [Nat.pow_zero, Nat.div_one] at this
  exact this
theorem s_Mo_longer {w : List Nat} {a : Nat} : f_Mo_longer (lN (eM w)) (nI a) = some (lN (eM (w ++ [a]))) ∨ ¬ a < 3 := by
  by_cases ha : a < 3
  · left
    rw [f_Mo_longer, nI_l (by omega), flL, flL, lN_mul, lN_add, lN_add, eM_snoc]
  · exact Or.inr ha
theorem s_Mo_longer' {w : List Nat} {a : Nat} (ha : a < 3) : f_Mo_longer (lN (eM w)) (nI a) = some (lN (eM (w ++ [a]))) := s_Mo_longer.resolve_right (fun h => h ha)
theorem s_Mo_letterOf {w : List Nat} (hw : wok w) (hl : w.length ≤ 17) {k : Nat} (hk : k < w.length) : f_Mo_letterOf (lN (eM w)) (nI k) = some (nI w[k]) := by
  have h1 := eM_small hw hl
  rw [f_Mo_letterOf, s_Mo_lengthOf hw hl, bd1_s, fl, fl, pk_sub (by omega), pk_sub (by omega), pk_mul, lN_shrK (by omega) (by omega), two_four, lN_and3 (Nat.lt_of_le_of_lt (Nat.div_le_self _ _) (by omega)), lN_i, eM_mod4 hw k hk, pk_sub (by omega)]
  rfl
theorem s_Mo_joined {u v : List Nat} (hu : wok u) (hv : wok v) (hl : u.length + v.length ≤ 17) : f_Mo_joined (lN (eM u)) (lN (eM v)) = some (lN (eM (u ++ v))) := by
  have h1 := eM_ub hv
  have h5 := eM_small (wok_app.mpr ⟨hu, hv⟩) (by rw [List.length_append]; omega)
  rw [eM_app] at h5
  rw [f_Mo_joined, s_Mo_lengthOf hv (by omega), bd1_s, fl, pk_mul, wb_shl _ (by omega), two_four, g_or (k := 2 * v.length) (two_four _) h1 (by omega), eM_app]
/-- a letter, or the length: what both answer -/
def wlol (w : List Nat) (i : Int32) : Int32 := if i = -1 then nI w.length else if nI w.length ≤ i then -1 else nI (w.getD i.toNatClampNeg 0)
theorem s_Ws_letterOrLength {w : List Nat} (hw : wok w) (hl : w.length ≤ 16) {i : Int32} (hi : ¬ i < -1) : f_Ws_letterOrLength (lN (eX w)) i = some (wlol w i) := by
  rw [f_Ws_letterOrLength, s_Ws_lengthOf hw hl, bd1_s, wlol]
  by_cases h1 : i = -1
  · rw [if_pos h1, if_pos h1]
  · rw [if_neg h1, if_neg h1]
    by_cases h2 : nI w.length ≤ i
    · rw [if_pos h2, if_pos h2]
    · rw [if_neg h2, if_neg h2]
      have h3 : 0 ≤ i := by
        rw [fa_lt] at hi
        rw [fa_eq] at h1
        rw [fa_le]
        have e1 : (-1 : Int32).toInt = -1 := by decide
        have e0 : (0 : Int32).toInt = 0 := by decide
        omega
      obtain ⟨k, hk, rfl⟩ := nI_of (x := i) (Int32.not_lt.mpr h3)
      rw [nI_leI (by omega) hk] at h2
      rw [s_Ws_letterAt hw hl (by omega), bd1_s, nI_clamp hk, List.getD_eq_getElem?_getD, List.getElem?_eq_getElem (by omega)]
      rfl
theorem s_Mo_letterOrLength {w : List Nat} (hw : wok w) (hl : w.length ≤ 17) {i : Int32} (hi : ¬ i < -1) : f_Mo_letterOrLength (lN (eM w)) i = some (wlol w i) := by
  rw [f_Mo_letterOrLength, s_Mo_lengthOf hw hl, bd1_s, bd1_s, wlol]
  by_cases h1 : i = -1
  · rw [if_pos h1, if_pos h1]
  · rw [if_neg h1, if_neg h1]
    by_cases h2 : nI w.length ≤ i
    · rw [if_pos h2, if_pos h2]
    · rw [if_neg h2, if_neg h2]
      have h3 : 0 ≤ i := by
        rw [fa_lt] at hi
        rw [fa_eq] at h1
        rw [fa_le]
        have e1 : (-1 : Int32).toInt = -1 := by decide
        have e0 : (0 : Int32).toInt = 0 := by decide
        omega
      obtain ⟨k, hk, rfl⟩ := nI_of (x := i) (Int32.not_lt.mpr h3)
      rw [nI_leI (by omega) hk] at h2
      rw [s_Mo_letterOf hw hl (by omega), bd1_s, nI_clamp hk, List.getD_eq_getElem?_getD, List.getElem?_eq_getElem (by omega)]
      rfl

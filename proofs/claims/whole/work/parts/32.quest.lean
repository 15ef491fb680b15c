/-! ===== what was asked: a sorted row of words with answers, on both sides; lk is what it answers ===== -/
abbrev Wrd : Type := List Nat
def qok (Q : List (Wrd × Nat)) : Prop := ∀ q ∈ Q, wok q.1 ∧ q.1.length ≤ 16 ∧ q.2 ≤ 1
def srt (e : Wrd → Nat) (Q : List (Wrd × Nat)) : Prop := ∀ i j (hi : i < Q.length) (hj : j < Q.length), i < j → e Q[i].1 < e Q[j].1
def lk (Q : List (Wrd × Nat)) (u : Wrd) : Option Nat := (Q.find? (fun q => q.1 == u)).map (fun q => q.2)
def isPl (e : Wrd → Nat) (Q : List (Wrd × Nat)) (u : Wrd) (p : Nat) : Prop := p ≤ Q.length ∧ (∀ k (h : k < Q.length), k < p → e Q[k].1 < e u) ∧ (∀ k (h : k < Q.length), p ≤ k → e u ≤ e Q[k].1)
def ov (o : Option Nat) : Int32 := match o with | none => -1 | some a => nI a
def ins (Q : List (Wrd × Nat)) (p : Nat) (x : Wrd × Nat) : List (Wrd × Nat) := Q.take p ++ x :: Q.drop p
theorem ins_len {Q : List (Wrd × Nat)} {p : Nat} {x : Wrd × Nat} (hp : p ≤ Q.length) : (ins Q p x).length = Q.length + 1 := by
  simp only [ins, List.length_append, List.length_cons, List.length_take, List.length_drop]; omega
theorem ins_lt {Q : List (Wrd × Nat)} {p : Nat} {x : Wrd × Nat} (hp : p ≤ Q.length) {k : Nat} (hk : k < p) : (ins Q p x)[k]? = Q[k]? := by
  rw [ins, List.getElem?_append_left (by rw [List.length_take]; omega), List.getElem?_take_of_lt hk]
theorem ins_eq {Q : List (Wrd × Nat)} {p : Nat} {x : Wrd × Nat} (hp : p ≤ Q.length) : (ins Q p x)[p]? = some x := by
  rw [ins, List.getElem?_append_right (by rw [List.length_take]; omega), List.length_take, show p - min p Q.length = 0 by omega]; rfl
theorem ins_gt {Q : List (Wrd × Nat)} {p : Nat} {x : Wrd × Nat} (hp : p ≤ Q.length) {k : Nat} (hk : p < k) : (ins Q p x)[k]? = Q[k - 1]? := by
  rw [ins, List.getElem?_append_right (by rw [List.length_take]; omega), List.length_take, show k - min p Q.length = (k - 1 - p) + 1 by omega, List.getElem?_cons_succ, List.getElem?_drop]
  congr 1; omega
theorem ins_mem {Q : List (Wrd × Nat)} {p : Nat} {x q : Wrd × Nat} : q ∈ ins Q p x ↔ q = x ∨ q ∈ Q := by
  rw [ins, List.mem_append, List.mem_cons]
  constructor
  · rintro (h | h | h)
    · exact Or.inr (List.mem_of_mem_take h)
    · exact Or.inl h
    · exact Or.inr (List.mem_of_mem_drop h)
  · rintro (h | h)
    · exact Or.inr (Or.inl h)
    · rw [← List.take_append_drop p Q, List.mem_append] at h
      exact h.elim Or.inl (fun h => Or.inr (Or.inr h))
theorem lk_none {Q : List (Wrd × Nat)} {u : Wrd} : lk Q u = none ↔ ∀ q ∈ Q, q.1 ≠ u := by
  simp only [lk, Option.map_eq_none_iff, List.find?_eq_none, beq_iff_eq, ne_eq]
theorem lk_some {Q : List (Wrd × Nat)} {u : Wrd} {a : Nat} (h : lk Q u = some a) : (u, a) ∈ Q := by
  simp only [lk, Option.map_eq_some_iff] at h
  obtain ⟨q, h1, h2⟩ := h
  have h3 := List.find?_some h1
  have h4 := List.mem_of_find?_eq_some h1
  simp only [beq_iff_eq] at h3
  rw [← h3, ← h2]
  exact h4
theorem lk_at {e : Wrd → Nat} {Q : List (Wrd × Nat)} (hs : srt e Q) {k : Nat} (hk : k < Q.length) : lk Q Q[k].1 = some Q[k].2 := by
  cases h : lk Q Q[k].1 with
  | none => exact absurd rfl (lk_none.mp h _ (List.getElem_mem hk))
  | some a =>
    obtain ⟨j, hj, ej⟩ := List.mem_iff_getElem.mp (lk_some h)
    have : j = k := by
      rcases Nat.lt_trichotomy j k with q | q | q
      · have := hs j k hj hk q; rw [ej] at this; exact absurd this (Nat.lt_irrefl _)
      · exact q
      · have := hs k j hk hj q; rw [ej] at this; exact absurd this (Nat.lt_irrefl _)
    subst this
    rw [ej]
theorem lk_ins {Q : List (Wrd × Nat)} {p : Nat} {u : Wrd} {a : Nat} (hu : lk Q u = none) (v : Wrd) : lk (ins Q p (u, a)) v = if v = u then some a else lk Q v := by
  have h0 := lk_none.mp hu
  by_cases hv : v = u
  · subst hv
    rw [if_pos rfl, lk, ins, List.find?_append]
    have : (Q.take p).find? (fun q => q.1 == v) = none := by
      rw [List.find?_eq_none]
      intro q hq
      simpa using h0 q (List.mem_of_mem_take hq)
    rw [this]
    simp
  · rw [if_neg hv, lk, lk, ins, List.find?_append]
    conv => rhs; rw [← List.take_append_drop p Q, List.find?_append]
    rw [List.find?_cons_of_neg (by simpa using fun h => hv h.symm)]
theorem srt_ins {e : Wrd → Nat} {Q : List (Wrd × Nat)} (hs : srt e Q) {u : Wrd} {p a : Nat} (hp : isPl e Q u p) (hne : ∀ q ∈ Q, e q.1 ≠ e u) : srt e (ins Q p (u, a)) := by
  obtain ⟨h1, h2, h3⟩ := hp
  have get : ∀ k (hk : k < (ins Q p (u, a)).length), (k < p ∧ ∃ h : k < Q.length, (ins Q p (u, a))[k] = Q[k]) ∨ (k = p ∧ (ins Q p (u, a))[k] = (u, a)) ∨ (p < k ∧ ∃ h : k - 1 < Q.length, (ins Q p (u, a))[k] = Q[k - 1]) := by
    intro k hk
    have hk2 := hk
    rw [ins_len h1] at hk2
    rcases Nat.lt_trichotomy k p with q | q | q
    · refine Or.inl ⟨q, by omega, ?_⟩
      have := ins_lt (x := (u, a)) h1 q
      rw [List.getElem?_eq_getElem hk, List.getElem?_eq_getElem (by omega)] at this
      exact Option.some.inj this
    · subst q
      refine Or.inr (Or.inl ⟨rfl, ?_⟩)
      have := ins_eq (x := (u, a)) h1
      rw [List.getElem?_eq_getElem hk] at this
      exact Option.some.inj this
    · refine Or.inr (Or.inr ⟨q, by omega, ?_⟩)
      have := ins_gt (x := (u, a)) h1 q
      rw [List.getElem?_eq_getElem hk, List.getElem?_eq_getElem (by omega)] at this
      exact Option.some.inj this
  intro i j hi hj hij
  rcases get i hi with ⟨a1, b1, c1⟩ | ⟨a1, c1⟩ | ⟨a1, b1, c1⟩ <;> rcases get j hj with ⟨a2, b2, c2⟩ | ⟨a2, c2⟩ | ⟨a2, b2, c2⟩ <;> rw [c1, c2]
  · exact hs i j b1 b2 hij
  · exact h2 i b1 a1
  · rcases Nat.lt_or_ge i (j - 1) with z | z
    · exact hs i (j - 1) b1 b2 z
    · omega
  · omega
  · omega
  · have h5 := h3 (j - 1) b2 (by omega)
    have h6 := hne Q[j - 1] (List.getElem_mem b2)
    show e u < _
    omega
  · omega
  · omega
  · exact hs (i - 1) (j - 1) b1 b2 (by omega)
/-- what stands at the place, if the word is there -/
theorem pl_at {e : Wrd → Nat} {Q : List (Wrd × Nat)} (hs : srt e Q) {u : Wrd} {p : Nat} (hp : isPl e Q u p) (hinj : ∀ q ∈ Q, e q.1 = e u → q.1 = u) : lk Q u = if h : p < Q.length then (if e Q[p].1 = e u then some Q[p].2 else none) else none := by
  obtain ⟨h1, h2, h3⟩ := hp
  by_cases h : p < Q.length
  · rw [dif_pos h]
    by_cases h4 : e Q[p].1 = e u
    · rw [if_pos h4, ← hinj _ (List.getElem_mem h) h4]
      exact lk_at hs h
    · rw [if_neg h4, lk_none]
      intro q hq hqu
      obtain ⟨j, hj, ej⟩ := List.mem_iff_getElem.mp hq
      rcases Nat.lt_trichotomy j p with z | z | z
      · have := h2 j hj z; rw [ej, hqu] at this; omega
      · subst z; rw [ej, hqu] at h4; exact h4 rfl
      · have a1 := hs p j h hj z
        have a2 := h3 p h (Nat.le_refl _)
        rw [ej, hqu] at a1
        omega
  · rw [dif_neg h, lk_none]
    intro q hq hqu
    obtain ⟨j, hj, ej⟩ := List.mem_iff_getElem.mp hq
    have := h2 j hj (by omega)
    rw [ej, hqu] at this
    omega
/-! the class's row -/
def RQX (al : Wrd → Option Nat) (n : Nat) (E : Nat → Int64) : Prop := ∃ Q : List (Wrd × Nat), qok Q ∧ srt eX Q ∧ Q.length = n ∧ (∀ v, lk Q v = al v) ∧ ∀ k (h : k < Q.length), E k = lN (2 * eX Q[k].1 + Q[k].2)
theorem s_Qu_placeOf_loop {Q : List (Wrd × Nat)} {E : Nat → Int64} (hq : qok Q) (hs : srt eX Q) (hE : ∀ k (h : k < Q.length), E k = lN (2 * eX Q[k].1 + Q[k].2)) (hn : Q.length ≤ 300) {u : Wrd} (hu : wok u) (hul : u.length ≤ 16) :
    ∀ (n lo hi r : Nat), lo ≤ hi → hi ≤ Q.length → r ≤ 32 → hi - lo < 2 ^ (32 - r) → 32 - r < n → (∀ k (h : k < Q.length), k < lo → eX Q[k].1 < eX u) → (∀ k (h : k < Q.length), hi ≤ k → eX u ≤ eX Q[k].1) →
      ∃ p, isPl eX Q u p ∧ itr (fun _ _ _ => none) (f_Qu_placeOf_L11 E (lN (eX u)) (fun x3 _ _ => some x3)) n (nI lo) (nI hi) (nI r) = some (nI p) := by
  intro n
  induction n with
  | zero => intro lo hi r _ _ _ _ h; omega
  | succ n ih =>
    intro lo hi r h1 h2 h3 h4 h5 h6 h7
    rw [itr_s, f_Qu_placeOf_L11]
    have done : ∀ (hl : hi ≤ lo), ∃ p, isPl eX Q u p ∧ some (nI lo) = some (nI p) := fun hl => ⟨lo, ⟨by omega, h6, fun k hk hkl => h7 k hk (by omega)⟩, rfl⟩
    by_cases c1 : 32 ≤ r
    · rw [fl, if_pos (nI_le c1 (by omega))]
      have : r = 32 := by omega
      subst this
      exact done (by omega)
    · rw [fl, if_neg (nI_ge (by omega) (by omega))]
      by_cases c2 : hi ≤ lo
      · rw [if_pos (nI_le c2 (by omega))]
        exact done c2
      · rw [if_neg (nI_ge (by omega) (by omega))]
        simp only [bnd]
        rw [nI_add, fl, pk_div (by omega) (by omega) (by omega), gIn_nI (by omega) (by omega), nI_clamp (by omega)]
        have hm : (lo + hi) / 2 < Q.length := by omega
        have hpw : 2 ^ (32 - r) = 2 * 2 ^ (32 - (r + 1)) := by
          rw [show 32 - r = (32 - (r + 1)) + 1 by omega, Nat.pow_succ]; omega
        obtain ⟨q1, q2, q3⟩ := hq _ (List.getElem_mem hm)
        have q4 := eX_small q1 (by omega)
        have q5 := eX_small hu (by omega)
        rw [hE _ hm, lN_shr1 (by omega), show (2 * eX Q[(lo + hi) / 2].1 + Q[(lo + hi) / 2].2) / 2 = eX Q[(lo + hi) / 2].1 by omega]
        by_cases c3 : eX Q[(lo + hi) / 2].1 < eX u
        · rw [if_pos ((pk_lLT (by omega) (by omega)).mpr c3), f_Qu_placeOf_J58]
          simp only [bnd]
          rw [fl, nI_add, nI_add]
          refine ih ((lo + hi) / 2 + 1) hi (r + 1) (by omega) h2 (by omega) (by omega) (by omega) (fun k hk hkl => ?_) h7
          rcases Nat.lt_or_ge k ((lo + hi) / 2) with z | z
          · exact Nat.lt_trans (hs k _ hk hm z) c3
          · have : k = (lo + hi) / 2 := by omega
            subst this; exact c3
        · rw [if_neg (fun h => c3 ((pk_lLT (by omega) (by omega)).mp h)), f_Qu_placeOf_J58]
          simp only [bnd]
          rw [show nI r + 1 = nI (r + 1) from nI_1 r]
          refine ih lo ((lo + hi) / 2) (r + 1) (by omega) (by omega) (by omega) (by omega) (by omega) h6 (fun k hk hkl => ?_)
          rcases Nat.lt_or_ge ((lo + hi) / 2) k with z | z
          · have := hs _ k hm hk z; omega
          · have : k = (lo + hi) / 2 := by omega
            subst this; omega
theorem s_Qu_placeOf {Q : List (Wrd × Nat)} {E : Nat → Int64} (hq : qok Q) (hs : srt eX Q) (hE : ∀ k (h : k < Q.length), E k = lN (2 * eX Q[k].1 + Q[k].2)) (hn : Q.length ≤ 300) {u : Wrd} (hu : wok u) (hul : u.length ≤ 16) :
    ∃ p, isPl eX Q u p ∧ f_Qu_placeOf (lN (eX u)) (nI Q.length) E = some (nI p) := by
  have hw : Q.length - 0 < 2 ^ (32 - 0) := by
    have : (2 : Nat) ^ (32 - 0) = 4294967296 := by decide
    omega
  obtain ⟨p, h1, h2⟩ := s_Qu_placeOf_loop hq hs hE hn hu hul FU 0 Q.length 0 (Nat.zero_le _) (Nat.le_refl _) (by omega) hw (by rw [FU_eq]; omega) (fun k _ h => by omega) (fun k _ h => by omega)
  exact ⟨p, h1, h2⟩
theorem qinjX {Q : List (Wrd × Nat)} (hq : qok Q) {u : Wrd} (hu : wok u) : ∀ q ∈ Q, eX q.1 = eX u → q.1 = u := fun q h e => eX_inj (hq q h).1 hu e
theorem s_Qu_answerTo {al : Wrd → Option Nat} {n : Nat} {E : Nat → Int64} (hR : RQX al n E) (hn : n ≤ 300) {u : Wrd} (hu : wok u) (hul : u.length ≤ 16) : f_Qu_answerTo (lN (eX u)) (nI n) E = some (ov (al u)) := by
  obtain ⟨Q, hq, hs, rfl, hal, hE⟩ := hR
  obtain ⟨p, hp, hf⟩ := s_Qu_placeOf hq hs hE hn hu hul
  rw [f_Qu_answerTo, hf, bd1_s, ← hal, pl_at hs hp (qinjX hq hu)]
  have hpl := hp.1
  by_cases c1 : p < Q.length
  · obtain ⟨q1, q2, q3⟩ := hq _ (List.getElem_mem c1)
    have q4 := eX_small q1 (by omega)
    have q5 := eX_small hu (by omega)
    rw [if_neg (nI_ge c1 (by omega)), gIn_nI (by omega) (by omega), nI_clamp (by omega), dif_pos c1, hE _ c1, lN_shr1 (by omega), show (2 * eX Q[p].1 + Q[p].2) / 2 = eX Q[p].1 by omega]
    by_cases c2 : eX Q[p].1 = eX u
    · rw [if_pos (by rw [c2]), if_pos c2, f_Qu_answerTo_J32, if_neg (by decide), gIn_nI (by omega) (by omega), nI_clamp (by omega), hE _ c1, wb_a1 (by omega), lN_i, show (2 * eX Q[p].1 + Q[p].2) % 2 = Q[p].2 by omega]
      rfl
    · rw [if_neg (fun h => c2 (lN_inj (by omega) (by omega) h)), if_neg c2, f_Qu_answerTo_J31, f_Qu_answerTo_J32, if_pos rfl]
      rfl
  · rw [if_pos (nI_le (by omega) (by omega)), dif_neg c1, f_Qu_answerTo_J31, f_Qu_answerTo_J32, if_pos rfl]
    rfl
theorem RQX_nil {E : Nat → Int64} : RQX (fun _ => none) 0 E := ⟨[], (fun q h => by cases h), (fun i j hi => absurd hi (Nat.not_lt_zero _)), rfl, (fun v => rfl), (fun k h => absurd h (Nat.not_lt_zero _))⟩
theorem s_Qu_note {al : Wrd → Option Nat} {n : Nat} {E : Nat → Int64} (hR : RQX al n E) (hn : n < 300) {u : Wrd} (hu : wok u) (hul : u.length ≤ 16) (hnew : al u = none) {a : Nat} (ha : a ≤ 1) :
    ∃ E', f_Qu_note (lN (eX u)) (nI a) (nI n) E = some (E', nI (n + 1)) ∧ RQX (fun v => if v = u then some a else al v) (n + 1) E' := by
  obtain ⟨Q, hq, hs, rfl, hal, hE⟩ := hR
  obtain ⟨p, hp, hf⟩ := s_Qu_placeOf hq hs hE (by omega) hu hul
  have q5 := eX_small hu (by omega)
  have hpl := hp.1
  rw [f_Qu_note, hf, bd1_s, fl, if_neg (nI_ge hn (by omega)), fl, nI_add, pk_sub hpl, gCp_nI (by omega) (by omega) (by omega) (by omega)]
  simp only [bnd]
  rw [gIn_nI (by omega) (by omega), nI_add, nI_clamp (by omega), nI_clamp (by omega), nI_clamp (by omega), nI_l (by omega), lN_shl1 (by omega)]
  have hor : lN (eX u * 2) ||| lN a = lN (2 * eX u + a) := by
    have := g_or (k := 1) (p := 2) (a := a) (b := eX u) rfl (by omega) (by omega)
    rw [this]; congr 1; omega
  rw [hor]
  refine ⟨_, rfl, ins Q p (u, a), ?_, ?_, ins_len hpl, fun v => ?_, fun k hk => ?_⟩
  · intro q h
    rcases ins_mem.mp h with rfl | h
    · exact ⟨hu, hul, ha⟩
    · exact hq q h
  · refine srt_ins hs hp (fun q h e => ?_)
    exact lk_none.mp ((hal u).trans hnew) q h (qinjX hq hu q h e)
  · rw [lk_ins ((hal u).trans hnew), hal]
  · have hk2 := hk
    rw [ins_len hpl] at hk2
    rcases Nat.lt_trichotomy k p with z | z | z
    · have h1 := ins_lt (x := (u, a)) hpl z
      rw [List.getElem?_eq_getElem hk, List.getElem?_eq_getElem (by omega)] at h1
      rw [Option.some.inj h1, pk_uLn (by omega), pk_cpy_out (by omega)]
      exact hE k (by omega)
    · subst z
      have h1 := ins_eq (x := (u, a)) hpl
      rw [List.getElem?_eq_getElem hk] at h1
      rw [Option.some.inj h1, pk_uLs]
    · have h1 := ins_gt (x := (u, a)) hpl z
      rw [List.getElem?_eq_getElem hk, List.getElem?_eq_getElem (by omega)] at h1
      rw [Option.some.inj h1, pk_uLn (by omega), pk_cpy_in (by omega) (by omega), show p + (k - (p + 1)) = k - 1 by omega]
      exact hE (k - 1) (by omega)

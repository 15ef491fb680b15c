/-! ===== the search for the least difference: both sides walk the same pairs in the same order ===== -/
theorem s_Ar_fill_loop {N : Nat} (hN : N < 5000) {x : Int32} {f : Nat → Int32} : ∀ (n k : Nat), k ≤ N → N - k < n → itr (fun _ _ => none) (f_Ar_fill_L5 N x (nI N) (fun _ v => some v)) n (nI k) (fun j => if j < k then x else f j) = some (fun j => if j < N then x else f j) := by
  intro n
  induction n with
  | zero => intro k _ h; omega
  | succ n ih =>
    intro k hk h
    rw [itr_s, f_Ar_fill_L5]
    rcases Nat.lt_or_ge k N with c | c
    · rw [if_neg (nI_ge c (by omega)), gIn_nI c (by omega)]
      simp only [bnd]
      rw [nI_clamp (by omega), show nI k + 1 = nI (k + 1) from nI_1 k, ← ih (k + 1) c (by omega)]
      refine congrArg _ (funext fun j => ?_)
      simp only [upd]
      by_cases e : j = k
      · rw [if_pos e, if_pos (by omega)]
      · rw [if_neg e]
        by_cases c2 : j < k
        · rw [if_pos c2, if_pos (by omega)]
        · rw [if_neg c2, if_neg (by omega)]
    · have : k = N := by omega
      subst this
      rw [if_pos (nI_le (Nat.le_refl _) (by omega))]
theorem s_Ar_fill {N : Nat} (hN : N < 2000) {x : Int32} {f : Nat → Int32} : f_Ar_fill N x f = some (fun j => if j < N then x else f j) := by
  have := s_Ar_fill_loop (N := N) (by omega) (x := x) (f := f) FU 0 (Nat.zero_le _) (by rw [FU_eq]; omega)
  have e : (fun j => if j < 0 then x else f j) = f := funext fun j => if_neg (Nat.not_lt_zero _)
  rw [e] at this
  exact this
abbrev BE : Type := Nat × Nat × Nat
def meetA (B : List BE) (pr k a : Nat) : List BE := if pr ∈ B.map Prod.fst then B else B ++ [(pr, k, a)]
def bexp (ml mr : Nat → Nat) (k o t : Nat) : Nat → Nat → List BE → List BE
  | 0, _, B => B
  | r + 1, a, B => bexp ml mr k o t r (a + 1) (meetA B (8 * ml (3 * o + a) + mr (3 * t + a)) k a)
def bfs (fl fr ml mr : Nat → Nat) (le : Nat) : Nat → Nat → List BE → Option Nat × List BE
  | 0, _, B => (none, B)
  | n + 1, k, B => match B[k]? with
    | none => (none, B)
    | some q => if fl (q.1 / 8) = fr (q.1 % 8) then bfs fl fr ml mr le n (k + 1) (bexp ml mr k (q.1 / 8) (q.1 % 8) le 0 B) else (some k, B)
def pth (B : List BE) : Nat → Nat → Wrd
  | 0, _ => []
  | n + 1, k => match k with
    | 0 => []
    | k + 1 => match B[k + 1]? with
      | none => []
      | some q => pth B n q.2.1 ++ [q.2.2]
def BInv (szl szr le : Nat) (B : List BE) : Prop := 0 < B.length ∧ (∀ q ∈ B, q.1 / 8 < szl ∧ q.1 % 8 < szr) ∧ (B.map Prod.fst).Nodup ∧ ∀ i (h : i < B.length), 0 < i → B[i].2.1 < i ∧ B[i].2.2 < le
def RS (B : List BE) (seen queue origin arrival : Nat → Int32) : Prop := (∀ v, v < 320 → seen v = if v ∈ B.map Prod.fst then 1 else 0) ∧ (∀ k (h : k < B.length), queue k = nI B[k].1) ∧ (∀ k (h : k < B.length), 0 < k → origin k = nI B[k].2.1 ∧ arrival k = nI B[k].2.2) ∧ origin 0 = -1
theorem nd_le {l : List Nat} {n : Nat} (h : l.Nodup) (hb : ∀ x ∈ l, x < n) : l.length ≤ n := by
  refine fb_holes n l.length (fun i => l.getD i 0) (fun i hi => ?_) (fun i j hij hj => ?_)
  · rw [List.getD_eq_getElem?_getD, List.getElem?_eq_getElem hi]
    exact hb _ (List.getElem_mem hi)
  · rw [List.getD_eq_getElem?_getD, List.getD_eq_getElem?_getD, List.getElem?_eq_getElem hj, List.getElem?_eq_getElem (Nat.lt_trans hij hj)]
    exact List.pairwise_iff_getElem.mp h i j _ hj hij
theorem BInv_lt {szl szr le : Nat} {B : List BE} (h : BInv szl szr le B) (h1 : szl ≤ 40) : ∀ x ∈ B.map Prod.fst, x < 320 := by
  intro x hx
  obtain ⟨q, hq, rfl⟩ := List.mem_map.mp hx
  have := h.2.1 q hq
  omega
theorem BInv_len {szl szr le : Nat} {B : List BE} (h : BInv szl szr le B) (h1 : szl ≤ 40) : B.length ≤ 320 := by
  have := nd_le h.2.2.1 (BInv_lt h h1)
  simpa using this
theorem BInv_room {szl szr le : Nat} {B : List BE} (h : BInv szl szr le B) (h1 : szl ≤ 40) {pr : Nat} (hp : pr < 320) (hn : pr ∉ B.map Prod.fst) : B.length < 320 := by
  have := nd_le (l := pr :: B.map Prod.fst) (n := 320) (List.nodup_cons.mpr ⟨hn, h.2.2.1⟩) (fun x hx => by
    rcases List.mem_cons.mp hx with rfl | hx
    · exact hp
    · exact BInv_lt h h1 x hx)
  simp only [List.length_cons, List.length_map] at this
  omega
theorem BInv_meet {szl szr le : Nat} {B : List BE} (h : BInv szl szr le B) {o t k a : Nat} (ho : o < szl) (ht : t < szr) (h8 : szr ≤ 8) (hk : k < B.length) (ha : a < le) : BInv szl szr le (meetA B (8 * o + t) k a) ∧ B.length ≤ (meetA B (8 * o + t) k a).length := by
  rw [meetA]
  by_cases c : 8 * o + t ∈ B.map Prod.fst
  · rw [if_pos c]; exact ⟨h, Nat.le_refl _⟩
  · rw [if_neg c]
    refine ⟨⟨by simp, fun q hq => ?_, ?_, fun i hi hi0 => ?_⟩, by simp⟩
    · rcases List.mem_append.mp hq with hq | hq
      · exact h.2.1 q hq
      · rw [List.mem_singleton.mp hq]
        show (8 * o + t) / 8 < szl ∧ (8 * o + t) % 8 < szr
        omega
    · rw [List.map_append, List.nodup_append]
      refine ⟨h.2.2.1, by simp, fun x hx y hy => ?_⟩
      simp only [List.map_cons, List.map_nil, List.mem_singleton] at hy
      rw [hy]
      intro e
      rw [e] at hx
      exact c hx
    · rcases Nat.lt_or_ge i B.length with z | z
      · rw [List.getElem_append_left z]; exact h.2.2.2 i z hi0
      · have : i = B.length := by rw [List.length_append, List.length_singleton] at hi; omega
        subst this
        rw [List.getElem_append_right (Nat.le_refl _)]
        simp only [Nat.sub_self, List.getElem_cons_zero]
        exact ⟨hk, ha⟩
/-- one pair is met: the same in both -/
theorem s_Se_meet {szl szr le : Nat} {B : List BE} {seen queue origin arrival : Nat → Int32} (h : BInv szl szr le B) (h1 : szl ≤ 40) (hR : RS B seen queue origin arrival) {o t k a : Nat} (ho : o < szl) (ht : t < szr) (h8 : szr ≤ 8) :
    ∃ s' q' o' a', f_Se_meet (nI o) (nI t) (nI k) (nI a) (nI B.length) seen queue origin arrival = some (s', q', o', a', nI (meetA B (8 * o + t) k a).length) ∧ RS (meetA B (8 * o + t) k a) s' q' o' a' := by
  have hp : 8 * o + t < 320 := by omega
  rw [f_Se_meet]
  simp only [bnd]
  rw [show nI o * (8 : Int32) = nI (o * 8) from pk_mul o 8, nI_add, gIn_nI (by omega) (by omega), nI_clamp (by omega), show o * 8 + t = 8 * o + t by omega, hR.1 _ hp]
  by_cases c : 8 * o + t ∈ B.map Prod.fst
  · rw [if_pos c, if_neg (by decide)]
    refine ⟨seen, queue, origin, arrival, ?_, ?_⟩
    · rw [meetA, if_pos c]
    · rw [meetA, if_pos c]; exact hR
  · have hl := BInv_room h h1 hp c
    rw [if_neg c, if_pos rfl, show (320 : Int32) = nI 320 from rfl, if_neg (nI_ge hl (by omega)), gIn_nI (by omega) (by omega), gIn_nI hl (by omega), gIn_nI hl (by omega), gIn_nI hl (by omega), nI_clamp (by omega), show nI B.length + 1 = nI (B.length + 1) from nI_1 _, meetA, if_neg c]
    refine ⟨_, _, _, _, by rw [List.length_append, List.length_singleton], ?_, ?_, ?_, ?_⟩
    · intro v hv
      rw [List.map_append]
      by_cases e : v = 8 * o + t
      · subst e
        rw [pk_us, if_pos (by simp)]
      · rw [pk_un e, hR.1 v hv]
        by_cases c2 : v ∈ B.map Prod.fst
        · rw [if_pos c2, if_pos (List.mem_append_left _ c2)]
        · rw [if_neg c2, if_neg]
          intro hm
          rcases List.mem_append.mp hm with hm | hm
          · exact c2 hm
          · simp at hm; exact e hm
    · intro i hi
      rcases Nat.lt_or_ge i B.length with z | z
      · rw [List.getElem_append_left z, pk_un (by omega)]; exact hR.2.1 i z
      · have : i = B.length := by rw [List.length_append, List.length_singleton] at hi; omega
        subst this
        rw [List.getElem_append_right (Nat.le_refl _), pk_us]
        simp
    · intro i hi hi0
      rcases Nat.lt_or_ge i B.length with z | z
      · rw [List.getElem_append_left z, pk_un (by omega), pk_un (by omega)]; exact hR.2.2.1 i z hi0
      · have : i = B.length := by rw [List.length_append, List.length_singleton] at hi; omega
        subst this
        rw [List.getElem_append_right (Nat.le_refl _), pk_us, pk_us]
        simp
    · have := h.1
      rw [pk_un (by omega)]
      exact hR.2.2.2
theorem bexp_inv {szl szr le : Nat} (h8 : szr ≤ 8) {ml mr : Nat → Nat} (hl : mok szl le ml) (hr : mok szr le mr) {k o t : Nat} (ho : o < szl) (ht : t < szr) : ∀ (r a : Nat) (B : List BE), a + r = le → k < B.length → BInv szl szr le B → BInv szl szr le (bexp ml mr k o t r a B) ∧ B.length ≤ (bexp ml mr k o t r a B).length
  | 0, a, B, _, _, h => ⟨h, Nat.le_refl _⟩
  | r + 1, a, B, har, hk, h => by
    have h1 := BInv_meet (a := a) h (hl.2 o a ho (by omega)) (hr.2 t a ht (by omega)) h8 hk (by omega)
    have h2 := bexp_inv h8 hl hr ho ht r (a + 1) _ (by omega) (Nat.lt_of_lt_of_le hk h1.2) h1.1
    exact ⟨h2.1, Nat.le_trans h1.2 h2.2⟩
theorem s_Se_fd_inner {N1 N3 szl szr le : Nat} {ml mr : Nat → Nat} {v1 v3 : Nat → Int32} (h1 : szl ≤ 40) (h8 : szr ≤ 8) (hN1 : 3 * szl ≤ N1) (hN1' : N1 < 1000) (hN3 : 3 * szr ≤ N3) (hN3' : N3 < 1000) (hv1 : rI N1 ml v1) (hv3 : rI N3 mr v3) (hle : le ≤ 3) (hl : mok szl le ml) (hr : mok szr le mr)
    {k o t : Nat} (ho : o < szl) (ht : t < szr) {K : Int32 → (Nat → Int32) → (Nat → Int32) → (Nat → Int32) → (Nat → Int32) → Int32 → Option (Int32 × (Nat → Int32) × (Nat → Int32) × (Nat → Int32) × (Nat → Int32) × (Nat → Int32) × Int32 × Int32)} :
    ∀ (n r a : Nat) (B : List BE) (s q og ar : Nat → Int32), a + r = le → r < n → k < B.length → BInv szl szr le B → RS B s q og ar → ∃ s' q' og' ar', itr (fun _ _ _ _ _ _ => none) (f_Se_findsDifference_L99 N1 N3 v1 (nI le) v3 (nI k) (nI o) (nI t) K) n (nI a) s q og ar (nI B.length) = K (nI le) s' q' og' ar' (nI (bexp ml mr k o t r a B).length) ∧ RS (bexp ml mr k o t r a B) s' q' og' ar' := by
  intro n
  induction n with
  | zero => intro r a B s q og ar _ h; omega
  | succ n ih =>
    intro r a B s q og ar har hrn hk hB hR
    rw [itr_s, f_Se_findsDifference_L99]
    cases r with
    | zero =>
      have : a = le := by omega
      subst this
      rw [if_pos (nI_le (Nat.le_refl _) (by omega))]
      exact ⟨s, q, og, ar, rfl, hR⟩
    | succ r =>
      have b1 := hl.2 o a ho (by omega)
      have b3 := hr.2 t a ht (by omega)
      rw [if_neg (nI_ge (by omega) (by omega)), f_Au_next, f_Au_next, show nI o * (3 : Int32) = nI (o * 3) from pk_mul o 3, show nI t * (3 : Int32) = nI (t * 3) from pk_mul t 3, nI_add, nI_add, gIn_nI (by omega) (by omega), gIn_nI (by omega) (by omega), bd1_s, bd1_s, nI_clamp (by omega), nI_clamp (by omega), hv1 _ (by omega), hv3 _ (by omega), Nat.mul_comm o 3, Nat.mul_comm t 3]
      obtain ⟨s', q', og', ar', e1, hR'⟩ := s_Se_meet (k := k) (a := a) hB h1 hR b1 b3 h8
      rw [e1, bd5_s]
      simp only [bnd]
      rw [show nI a + 1 = nI (a + 1) from nI_1 a]
      have hm := BInv_meet hB b1 b3 h8 hk (show a < le by omega)
      exact ih r (a + 1) _ s' q' og' ar' (by omega) (by omega) (Nat.lt_of_lt_of_le hk hm.2) hm.1 hR'
/-- what the end of the search says -/
theorem bfs_inv {szl szr le : Nat} (h8 : szr ≤ 8) {fl fr ml mr : Nat → Nat} (hl : mok szl le ml) (hr : mok szr le mr) : ∀ (n k : Nat) (B : List BE), BInv szl szr le B → BInv szl szr le (bfs fl fr ml mr le n k B).2 ∧ ∀ j, (bfs fl fr ml mr le n k B).1 = some j → j < (bfs fl fr ml mr le n k B).2.length
  | 0, k, B, h => ⟨h, fun j e => by cases e⟩
  | n + 1, k, B, h => by
    rw [bfs]
    cases e : B[k]? with
    | none => exact ⟨h, fun j e => by cases e⟩
    | some q =>
      simp only
      have hk := (List.getElem?_eq_some_iff.mp e).1
      have hq := h.2.1 q (List.mem_of_getElem? e)
      by_cases c : fl (q.1 / 8) = fr (q.1 % 8)
      · rw [if_pos c]
        exact bfs_inv h8 hl hr n (k + 1) _ (bexp_inv h8 hl hr hq.1 hq.2 le 0 B (by omega) hk h).1
      · rw [if_neg c]
        exact ⟨h, fun j e => by cases e; exact hk⟩
theorem s_Se_fd_outer {N1 N1f N3 N3f szl szr le : Nat} {fl fr ml mr : Nat → Nat} {v1 g1 v3 g3 lt : Nat → Int32} (h1 : szl ≤ 40) (h8 : szr ≤ 8) (hN1 : 3 * szl ≤ N1) (hN1' : N1 < 1000) (hf1 : szl ≤ N1f) (hf1' : N1f < 1000) (hN3 : 3 * szr ≤ N3) (hN3' : N3 < 1000) (hf3 : szr ≤ N3f) (hf3' : N3f < 1000) (hv1 : rI N1 ml v1) (hg1 : rI N1f fl g1) (hv3 : rI N3 mr v3) (hg3 : rI N3f fr g3) (hle : le ≤ 3) (hl : mok szl le ml) (hr : mok szr le mr)
    (hb1 : ∀ k, k < szl → fl k ≤ 1) (hb3 : ∀ k, k < szr → fr k ≤ 1)
    {K : Int32 → (Nat → Int32) → (Nat → Int32) → (Nat → Int32) → (Nat → Int32) → Int32 → Option (Int32 × (Nat → Int32) × (Nat → Int32) × (Nat → Int32) × (Nat → Int32) × (Nat → Int32) × Int32 × Int32)} :
    ∀ (n k : Nat) (B : List BE) (s q og ar : Nat → Int32), k ≤ B.length → 320 < n + k → BInv szl szr le B → RS B s q og ar → ∃ s' q' og' ar', RS (bfs fl fr ml mr le n k B).2 s' q' og' ar' ∧
      itr (fun _ _ _ _ _ _ => none) (f_Se_findsDifference_L30 N1 N1f N3 N3f lt v1 g1 (nI le) v3 g3 K) n (nI k) s q og ar (nI B.length) = match (bfs fl fr ml mr le n k B).1 with
        | none => K (nI (bfs fl fr ml mr le n k B).2.length) s' q' og' ar' (nI (bfs fl fr ml mr le n k B).2.length)
        | some j => bd2 (f_Se_traceBack (nI j) og' ar' lt) (fun l' n' => some ((1 : Int32), s', q', og', ar', l', n', nI (bfs fl fr ml mr le n k B).2.length)) := by
  intro n
  induction n with
  | zero => intro k B s q og ar hk h hB; have := BInv_len hB h1; omega
  | succ n ih =>
    intro k B s q og ar hk h hB hR
    have hlen := BInv_len hB h1
    rw [itr_s, f_Se_findsDifference_L30, bfs]
    cases e : B[k]? with
    | none =>
      have : B.length ≤ k := List.getElem?_eq_none_iff.mp e
      have : k = B.length := by omega
      subst this
      simp only
      rw [if_pos (nI_le (Nat.le_refl _) (by omega))]
      exact ⟨s, q, og, ar, hR, rfl⟩
    | some z =>
      obtain ⟨hkl, ez⟩ := List.getElem?_eq_some_iff.mp e
      have hq := hB.2.1 z (List.mem_of_getElem? e)
      simp only
      have hz : q k = nI z.1 := by rw [hR.2.1 k hkl, ez]
      have hz2 : z.1 < 320 := by omega
      rw [if_neg (nI_ge hkl (by omega)), show (320 : Int32) = nI 320 from rfl, if_neg (nI_ge (by omega) (by omega)), gIn_nI (by omega) (by omega)]
      simp only [bnd]
      rw [gIn_nI (by omega) (by omega), nI_clamp (by omega), hz, show nI z.1 / (8 : Int32) = nI (z.1 / 8) from pk_div (d := 8) (by omega) (by omega) (by omega), show nI z.1 - nI (z.1 / 8) * (8 : Int32) = nI (z.1 % 8) by rw [show nI (z.1 / 8) * (8 : Int32) = nI (z.1 / 8 * 8) from pk_mul _ 8, pk_sub (by omega)]; congr 1; omega]
      rw [gIn_nI (by omega) (by omega), gIn_nI (by omega) (by omega), nI_clamp (by omega), nI_clamp (by omega), hg1 _ (by omega), hg3 _ (by omega)]
      have hx1 := hb1 _ hq.1
      have hx3 := hb3 _ hq.2
      by_cases c : fl (z.1 / 8) = fr (z.1 % 8)
      · rw [if_pos c, if_pos (by rw [c])]
        obtain ⟨s', q', og', ar', e1, hR'⟩ := s_Se_fd_inner (K := fun x8 v_seen_1 v_queue_1 v_origin_1 v_arrival_1 v_queued_1 => (itr (fun _ _ _ _ _ _ => none) (f_Se_findsDifference_L30 N1 N1f N3 N3f lt v1 g1 (nI le) v3 g3 K) n (nI k + 1) v_seen_1 v_queue_1 v_origin_1 v_arrival_1 v_queued_1)) h1 h8 hN1 hN1' hN3 hN3' hv1 hv3 hle hl hr hq.1 hq.2 FU le 0 B s q og ar (by omega) (by rw [FU_eq]; omega) hkl hB hR
        rw [nI_0] at e1
        rw [e1, show nI k + 1 = nI (k + 1) from nI_1 k]
        have hm := bexp_inv h8 hl hr hq.1 hq.2 le 0 B (by omega) hkl hB
        exact ih (k + 1) _ s' q' og' ar' (by omega) (by omega) hm.1 hR'
      · rw [if_neg c, if_neg (fun q => c ((nI_eq (by omega) (by omega)).mp q))]
        exact ⟨s, q, og, ar, hR, rfl⟩

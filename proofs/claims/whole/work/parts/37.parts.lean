/-! ===== the reference's search ===== -/
theorem s_Mo_parts_L3 {K : Int32 → (Nat → Int32) → Option (Int32 × (Nat → Int32) × (Nat → Int32) × (Nat → Int32) × (Nat → Int32) × (Nat → Int32) × Int32)} {f : Nat → Int32} : ∀ (n k : Nat), k ≤ 320 → 320 - k < n → itr (fun _ _ => none) (f_Mo_parts_L3 K) n (nI k) (fun j => if j < k then 0 else f j) = K (nI 320) (fun j => if j < 320 then 0 else f j) := by
  intro n
  induction n with
  | zero => intro k _ h; omega
  | succ n ih =>
    intro k hk h
    rw [itr_s, f_Mo_parts_L3, show (320 : Int32) = nI 320 from rfl]
    rcases Nat.lt_or_ge k 320 with c | c
    · rw [if_neg (nI_ge c (by omega)), gIn_nI c (by omega)]
      simp only [bnd]
      rw [nI_clamp (by omega), show nI k + 1 = nI (k + 1) from nI_1 k, ← ih (k + 1) c (by omega)]
      refine congrArg _ (funext fun j => ?_)
      simp only [upd]
      by_cases e : j = k
      · rw [if_pos e, if_pos (by omega)]
      · rw [if_neg e]
        by_cases c2 : j < k
        · rw [if_pos c2, if_pos (by omega)]
        · rw [if_neg c2, if_neg (by omega)]
    · have : k = 320 := by omega
      subst this
      rw [if_pos (nI_le (Nat.le_refl _) (by omega))]
/-- a hypothesis's moves in the reference: the letters that are in use only -/
def rIm (b sz le : Nat) (f : Nat → Nat) (m : Nat → Int32) : Prop := ∀ s a, s < sz → a < le → m (b + (3 * s + a)) = nI (f (3 * s + a))
def bM (h : Nat) : Nat := if h = 0 then 2 else 361
def bF (h : Nat) : Nat := if h = 0 then 26 else 481
theorem s_Mo_parts_meet {szl szr le : Nat} {B : List BE} {m sn qu og ar : Nat → Int32} (hB : BInv szl szr le B) (h1 : szl ≤ 40) (hR : RS B sn qu og ar) {mr : Nat → Nat} (hm3 : rIo 2 24 mr m) {o t k a : Nat} (ho : o < szl) (ht : t < szr) (h8 : szr ≤ 8) (ha : a < 3) (hmr : mr (3 * t + a) < szr)
    {rec : Int32 → Int32 → (Nat → Int32) → (Nat → Int32) → (Nat → Int32) → (Nat → Int32) → Option (Int32 × (Nat → Int32) × (Nat → Int32) × (Nat → Int32) × (Nat → Int32) × (Nat → Int32) × Int32)} :
    ∃ sn' qu' og' ar', f_Mo_parts_J198 rec (nI B.length) (nI k) (nI t) (nI a) 8 (nI o) m qu og ar sn = rec (nI (meetA B (8 * o + mr (3 * t + a)) k a).length) (nI (a + 1)) qu' og' ar' sn' ∧ RS (meetA B (8 * o + mr (3 * t + a)) k a) sn' qu' og' ar' := by
  have hp : 8 * o + mr (3 * t + a) < 320 := by omega
  rw [f_Mo_parts_J198, show (2 : Int32) + (3 : Int32) * nI t = nI (2 + 3 * t) by rw [show (3 : Int32) * nI t = nI (3 * t) from pk_mul 3 t]; exact nI_add 2 _, nI_add, gIn_nI (by omega) (by omega), nI_clamp (by omega), Nat.add_assoc, hm3 _ (by omega)]
  simp only [bnd]
  rw [show (8 : Int32) * nI o = nI (8 * o) from pk_mul 8 o, nI_add, gIn_nI (by omega) (by omega), nI_clamp (by omega), hR.1 _ hp]
  by_cases c : 8 * o + mr (3 * t + a) ∈ B.map Prod.fst
  · rw [if_pos c, if_neg (by decide), f_Mo_parts_J264]
    simp only [bnd]
    refine ⟨sn, qu, og, ar, ?_, ?_⟩
    · rw [meetA, if_pos c, show nI a + 1 = nI (a + 1) from nI_1 a]
    · rw [meetA, if_pos c]; exact hR
  · have hl := BInv_room hB h1 hp c
    rw [if_neg c, if_pos rfl, gIn_nI (by omega) (by omega), gIn_nI hl (by omega), gIn_nI hl (by omega), gIn_nI hl (by omega), nI_clamp (by omega), show nI B.length + 1 = nI (B.length + 1) from nI_1 _, f_Mo_parts_J264, meetA, if_neg c]
    simp only [bnd]
    refine ⟨_, _, _, _, by rw [List.length_append, List.length_singleton, show nI a + 1 = nI (a + 1) from nI_1 a], ?_, ?_, ?_, ?_⟩
    · intro v hv
      rw [List.map_append]
      by_cases e : v = 8 * o + mr (3 * t + a)
      · subst e
        rw [pk_us, if_pos (by simp)]
      · rw [pk_un e, hR.1 v hv]
        by_cases c2 : v ∈ B.map Prod.fst
        · rw [if_pos c2, if_pos (List.mem_append_left _ c2)]
        · rw [if_neg c2, if_neg]
          intro hm
          rcases List.mem_append.mp hm with hm | hm
          · exact c2 hm
          · simp at hm; exact e hm
    · intro i hi
      rcases Nat.lt_or_ge i B.length with z | z
      · rw [List.getElem_append_left z, pk_un (by omega)]; exact hR.2.1 i z
      · have : i = B.length := by rw [List.length_append, List.length_singleton] at hi; omega
        subst this
        rw [List.getElem_append_right (Nat.le_refl _), pk_us]
        simp
    · intro i hi hi0
      rcases Nat.lt_or_ge i B.length with z | z
      · rw [List.getElem_append_left z, pk_un (by omega), pk_un (by omega)]; exact hR.2.2.1 i z hi0
      · have : i = B.length := by rw [List.length_append, List.length_singleton] at hi; omega
        subst this
        rw [List.getElem_append_right (Nat.le_refl _), pk_us, pk_us]
        simp
    · have := hB.1
      rw [pk_un (by omega)]
      exact hR.2.2.2
theorem s_Mo_parts_inner {h szl szr le : Nat} {ml mr : Nat → Nat} {m : Nat → Int32} (h1 : szl ≤ 40) (h8 : szr ≤ 8) (hh : h ≤ 1) (hlm : m 1 = nI le) (hm1 : rIm (bM h) szl le ml m) (hs1 : h = 0 → szl ≤ 8) (hm3 : rIo 2 24 mr m) (hle : le ≤ 3) (hl : mok szl le ml) (hr : mok szr le mr)
    {k o t : Nat} (ho : o < szl) (ht : t < szr) {K : Int32 → Int32 → (Nat → Int32) → (Nat → Int32) → (Nat → Int32) → (Nat → Int32) → Option (Int32 × (Nat → Int32) × (Nat → Int32) × (Nat → Int32) × (Nat → Int32) × (Nat → Int32) × Int32)} :
    ∀ (n r a : Nat) (B : List BE) (sn qu og ar : Nat → Int32), a + r = le → r < n → k < B.length → BInv szl szr le B → RS B sn qu og ar → ∃ sn' qu' og' ar', itr (fun _ _ _ _ _ _ => none) (f_Mo_parts_L148 m (nI h) (nI k) (nI o) (nI t) K) n (nI B.length) (nI a) qu og ar sn = K (nI (bexp ml mr k o t r a B).length) (nI le) qu' og' ar' sn' ∧ RS (bexp ml mr k o t r a B) sn' qu' og' ar' := by
  intro n
  induction n with
  | zero => intro r a B sn qu og ar _ h; omega
  | succ n ih =>
    intro r a B sn qu og ar har hrn hk hB hR
    rw [itr_s, f_Mo_parts_L148, hlm]
    cases r with
    | zero =>
      have : a = le := by omega
      subst this
      rw [if_pos (nI_le (Nat.le_refl _) (by omega))]
      exact ⟨sn, qu, og, ar, rfl, hR⟩
    | succ r =>
      have b1 := hl.2 o a ho (by omega)
      have b3 := hr.2 t a ht (by omega)
      have hm := BInv_meet (a := a) hB b1 b3 h8 hk (by omega)
      have e3 : (3 : Int32) * nI o = nI (3 * o) := pk_mul 3 o
      rw [if_neg (nI_ge (by omega) (by omega)), e3, show (2 : Int32) + nI (3 * o) = nI (2 + 3 * o) from nI_add 2 _, show (361 : Int32) + nI (3 * o) = nI (361 + 3 * o) from nI_add 361 _, nI_add, nI_add]
      have key : (if nI h = 0 then gIn (nI (2 + 3 * o + a)) 561 (f_Mo_parts_J198 (itr (fun _ _ _ _ _ _ => none) (f_Mo_parts_L148 m (nI h) (nI k) (nI o) (nI t) K) n) (nI B.length) (nI k) (nI t) (nI a) 8 (m (nI (2 + 3 * o + a)).toNatClampNeg) m qu og ar sn) else gIn (nI (361 + 3 * o + a)) 561 (f_Mo_parts_J198 (itr (fun _ _ _ _ _ _ => none) (f_Mo_parts_L148 m (nI h) (nI k) (nI o) (nI t) K) n) (nI B.length) (nI k) (nI t) (nI a) 8 (m (nI (361 + 3 * o + a)).toNatClampNeg) m qu og ar sn)) = f_Mo_parts_J198 (itr (fun _ _ _ _ _ _ => none) (f_Mo_parts_L148 m (nI h) (nI k) (nI o) (nI t) K) n) (nI B.length) (nI k) (nI t) (nI a) 8 (nI (ml (3 * o + a))) m qu og ar sn := by
        by_cases c : h = 0
        · subst c
          have := hs1 rfl
          have h2 := hm1 o a (by omega) (by omega)
          rw [bM, if_pos rfl] at h2
          rw [if_pos nI_0, gIn_nI (by omega) (by omega), nI_clamp (by omega), Nat.add_assoc, h2]
        · have h2 := hm1 o a (by omega) (by omega)
          rw [bM, if_neg c] at h2
          rw [if_neg (nI_ne0 (by omega) (by omega)), gIn_nI (by omega) (by omega), nI_clamp (by omega), Nat.add_assoc, h2]
      rw [key]
      obtain ⟨sn', qu', og', ar', e1, hR'⟩ := s_Mo_parts_meet (k := k) (a := a) (rec := itr (fun _ _ _ _ _ _ => none) (f_Mo_parts_L148 m (nI h) (nI k) (nI o) (nI t) K) n) hB h1 hR hm3 b1 ht h8 (by omega) b3
      rw [e1]
      exact ih r (a + 1) _ sn' qu' og' ar' (by omega) (by omega) (Nat.lt_of_lt_of_le hk hm.2) hm.1 hR'
theorem s_Mo_parts_outer {h szl szr le : Nat} {fl fr ml mr : Nat → Nat} {m pa : Nat → Int32} (h1 : szl ≤ 40) (h8 : szr ≤ 8) (hh : h ≤ 1) (hlm : m 1 = nI le) (hm1 : rIm (bM h) szl le ml m) (hf1 : rIo (bF h) szl fl m) (hs1 : h = 0 → szl ≤ 8) (hm3 : rIo 2 24 mr m) (hf3 : rIo 26 8 fr m) (hle : le ≤ 3) (hl : mok szl le ml) (hr : mok szr le mr)
    (hb1 : ∀ k, k < szl → fl k ≤ 1) (hb3 : ∀ k, k < szr → fr k ≤ 1) {K : Int32 → Int32 → (Nat → Int32) → (Nat → Int32) → (Nat → Int32) → (Nat → Int32) → Option (Int32 × (Nat → Int32) × (Nat → Int32) × (Nat → Int32) × (Nat → Int32) × (Nat → Int32) × Int32)} :
    ∀ (n k : Nat) (B : List BE) (sn qu og ar : Nat → Int32), k ≤ B.length → 320 < n + k → BInv szl szr le B → RS B sn qu og ar → ∃ sn' qu' og' ar', RS (bfs fl fr ml mr le n k B).2 sn' qu' og' ar' ∧
      itr (fun _ _ _ _ _ _ => none) (f_Mo_parts_L62 m pa (nI h) K) n (nI B.length) (nI k) qu og ar sn = match (bfs fl fr ml mr le n k B).1 with
        | none => K (nI (bfs fl fr ml mr le n k B).2.length) (nI (bfs fl fr ml mr le n k B).2.length) qu' og' ar' sn'
        | some j => bd3 (f_Mo_goesBack (nI j) og' ar' pa) (fun r l' n' => gB r (some (r, qu', og', ar', sn', l', n'))) := by
  intro n
  induction n with
  | zero => intro k B sn qu og ar hk h hB; have := BInv_len hB h1; omega
  | succ n ih =>
    intro k B sn qu og ar hk h3 hB hR
    have hlen := BInv_len hB h1
    rw [itr_s, f_Mo_parts_L62, bfs]
    cases e : B[k]? with
    | none =>
      have : B.length ≤ k := List.getElem?_eq_none_iff.mp e
      have : k = B.length := by omega
      subst this
      simp only
      rw [if_pos (nI_le (Nat.le_refl _) (by omega))]
      exact ⟨sn, qu, og, ar, hR, rfl⟩
    | some z =>
      obtain ⟨hkl, ez⟩ := List.getElem?_eq_some_iff.mp e
      have hq := hB.2.1 z (List.mem_of_getElem? e)
      simp only
      have hz : qu k = nI z.1 := by rw [hR.2.1 k hkl, ez]
      have hz2 : z.1 < 320 := by omega
      rw [if_neg (nI_ge hkl (by omega)), gIn_nI (by omega) (by omega)]
      simp only [bnd]
      rw [gIn_nI (by omega) (by omega), nI_clamp (by omega), hz, show nI z.1 / (8 : Int32) = nI (z.1 / 8) from pk_div (d := 8) (by omega) (by omega) (by omega), show nI z.1 - nI (z.1 / 8) * (8 : Int32) = nI (z.1 % 8) by rw [show nI (z.1 / 8) * (8 : Int32) = nI (z.1 / 8 * 8) from pk_mul _ 8, pk_sub (by omega)]; congr 1; omega]
      rw [show (26 : Int32) + nI (z.1 / 8) = nI (26 + z.1 / 8) from nI_add 26 _, show (481 : Int32) + nI (z.1 / 8) = nI (481 + z.1 / 8) from nI_add 481 _]
      have key : (if nI h = 0 then gIn (nI (26 + z.1 / 8)) 561 (f_Mo_parts_J121 (itr (fun _ _ _ _ _ _ => none) (f_Mo_parts_L62 m pa (nI h) K) n) (nI h) (nI B.length) (nI k) (nI (z.1 / 8)) (nI (z.1 % 8)) (m (nI (26 + z.1 / 8)).toNatClampNeg) m qu og ar sn pa) else gIn (nI (481 + z.1 / 8)) 561 (f_Mo_parts_J121 (itr (fun _ _ _ _ _ _ => none) (f_Mo_parts_L62 m pa (nI h) K) n) (nI h) (nI B.length) (nI k) (nI (z.1 / 8)) (nI (z.1 % 8)) (m (nI (481 + z.1 / 8)).toNatClampNeg) m qu og ar sn pa)) = f_Mo_parts_J121 (itr (fun _ _ _ _ _ _ => none) (f_Mo_parts_L62 m pa (nI h) K) n) (nI h) (nI B.length) (nI k) (nI (z.1 / 8)) (nI (z.1 % 8)) (nI (fl (z.1 / 8))) m qu og ar sn pa := by
        by_cases c : h = 0
        · subst c
          have := hs1 rfl
          have h2 := hf1 (z.1 / 8) (by omega)
          rw [bF, if_pos rfl] at h2
          rw [if_pos nI_0, gIn_nI (by omega) (by omega), nI_clamp (by omega), h2]
        · have h2 := hf1 (z.1 / 8) (by omega)
          rw [bF, if_neg c] at h2
          rw [if_neg (nI_ne0 (by omega) (by omega)), gIn_nI (by omega) (by omega), nI_clamp (by omega), h2]
      rw [key, f_Mo_parts_J121, show (26 : Int32) + nI (z.1 % 8) = nI (26 + z.1 % 8) from nI_add 26 _, gIn_nI (by omega) (by omega), nI_clamp (by omega), hf3 _ (by omega)]
      have hx1 := hb1 _ hq.1
      have hx3 := hb3 _ hq.2
      by_cases c : fl (z.1 / 8) = fr (z.1 % 8)
      · rw [if_pos c, if_pos (by rw [c])]
        simp only [bnd]
        obtain ⟨sn', qu', og', ar', e1, hR'⟩ := s_Mo_parts_inner (K := fun x4_1 x9 v_queue_1 v_parent_1 v_by_1 v_seen_1 => (itr (fun _ _ _ _ _ _ => none) (f_Mo_parts_L62 m pa (nI h) K) n x4_1 (nI k + 1) v_queue_1 v_parent_1 v_by_1 v_seen_1)) h1 h8 hh hlm hm1 hs1 hm3 hle hl hr hq.1 hq.2 FU le 0 B sn qu og ar (by omega) (by rw [FU_eq]; omega) hkl hB hR
        rw [nI_0] at e1
        rw [e1, show nI k + 1 = nI (k + 1) from nI_1 k]
        have hm := bexp_inv h8 hl hr hq.1 hq.2 le 0 B (by omega) hkl hB
        exact ih (k + 1) _ sn' qu' og' ar' (by omega) (by omega) hm.1 hR'
      · rw [if_neg c, if_neg (fun q => c ((nI_eq (by omega) (by omega)).mp q))]
        exact ⟨sn, qu, og, ar, hR, rfl⟩
theorem s_Mo_parts {h szl szr le : Nat} {fl fr ml mr : Nat → Nat} {m pa sn qu og ar : Nat → Int32} {st : Int32} (h1 : szl ≤ 40) (h8 : szr ≤ 8) (hh : h ≤ 1) (hlm : m 1 = nI le) (hm1 : rIm (bM h) szl le ml m) (hf1 : rIo (bF h) szl fl m) (hs1 : h = 0 → szl ≤ 8) (hm3 : rIo 2 24 mr m) (hf3 : rIo 26 8 fr m) (hle : le ≤ 3) (hl : mok szl le ml) (hr : mok szr le mr)
    (hb1 : ∀ k, k < szl → fl k ≤ 1) (hb3 : ∀ k, k < szr → fr k ≤ 1) {p q : Nat} (hp : p < szl) (hq : q < szr) :
    ∃ qu' og' ar' sn' st', f_Mo_parts (nI p) (nI q) (nI h) st m qu og ar sn pa = some (difI (dif fl fr ml mr le p q), qu', og', ar', sn', difL pa (dif fl fr ml mr le p q), st') ∧ ∀ w, dif fl fr ml mr le p q = some w → st' = nI w.length := by
  have hB := BInv_one (le := le) hp hq h8
  have hF := FU_eq
  rw [f_Mo_parts, dif]
  generalize FU = N at hF ⊢
  have h0 := fun K => s_Mo_parts_L3 (K := K) (f := sn) N 0 (Nat.zero_le _) (by omega)
  have e0 : (fun j => if j < 0 then (0 : Int32) else sn j) = sn := funext fun j => if_neg (Nat.not_lt_zero _)
  rw [e0, nI_0] at h0
  rw [h0]
  rw [bnd_eq, bnd_eq, pk_us, show (8 : Int32) * nI p = nI (8 * p) from pk_mul 8 p, nI_add, gIn_nI (by omega) (by omega), bnd_eq, nI_clamp (by omega)]
  have hR : RS [(8 * p + q, 0, 0)] (upd (fun j => if j < 320 then 0 else sn j) (8 * p + q) 1) (upd qu 0 (nI (8 * p + q))) (upd og 0 (-1)) ar := by
    refine ⟨fun v hv => ?_, fun k hk => ?_, fun k hk h0 => ?_, rfl⟩
    · by_cases e : v = 8 * p + q
      · rw [e, pk_us, if_pos (by simp)]
      · rw [pk_un e, if_pos hv, if_neg (by simpa using e)]
    · have : k = 0 := by simp at hk; exact hk
      subst this
      rfl
    · simp at hk; omega
  obtain ⟨s2, q2, o2, a2, hR2, e2⟩ := s_Mo_parts_outer (pa := pa) (K := fun x4_1 x5 v_queue_2 v_parent_2 v_by_1 v_seen_3 => (some ((0 : Int32), v_queue_2, v_parent_2, v_by_1, v_seen_3, pa, st))) h1 h8 hh hlm hm1 hf1 hs1 hm3 hf3 hle hl hr hb1 hb3 N 0 _ _ _ _ _ (Nat.zero_le _) (by omega) hB hR
  rw [nI_0, List.length_singleton] at e2
  rw [show (1 : Int32) = nI 1 from rfl] at e2 ⊢
  rw [e2]
  have hinv := bfs_inv (fl := fl) (fr := fr) h8 hl hr N 0 _ hB
  generalize bfs fl fr ml mr le N 0 [(8 * p + q, 0, 0)] = BB at hinv hR2
  obtain ⟨oj, BB⟩ := BB
  cases oj with
  | none => exact ⟨_, _, _, _, _, rfl, fun w hw => by cases hw⟩
  | some j =>
    simp only
    rw [s_Mo_goesBack hinv.1 (BInv_len hinv.1 h1) hR2 (hinv.2 j rfl) pa, bd3_s, gB_1]
    exact ⟨_, _, _, _, _, rfl, fun w hw => by cases hw; rfl⟩
/-- a letter of the difference, or its length: both answer so -/
def dlol (o : Option Wrd) (i : Int32) : Int32 := match o with | none => -1 | some w => wlol w i
theorem neg1_lt {i : Int32} (hi : ¬ i < -1) (h1 : ¬ i = -1) : 0 ≤ i := by
  rw [fa_lt] at hi
  rw [fa_eq] at h1
  rw [fa_le]
  have e1 : (-1 : Int32).toInt = -1 := by decide
  have e0 : (0 : Int32).toInt = 0 := by decide
  omega
theorem wri_at {f : Nat → Int32} {w : Wrd} {k : Nat} (hk : k < w.length) : wri f w k = nI (w.getD k 0) := by rw [wri, if_pos hk]
theorem s_Se_letterOrLength {o : Option Wrd} (ho : ∀ w, o = some w → w.length < 320) {lt : Nat → Int32} {i : Int32} (hi : ¬ i < -1) : f_Se_letterOrLength i (difN o) (difL lt o) = some (dlol o i) := by
  rw [f_Se_letterOrLength]
  by_cases h1 : i = -1
  · rw [if_pos h1]
    cases o with
    | none => rfl
    | some w => rw [dlol, wlol, if_pos h1]; rfl
  · rw [if_neg h1]
    obtain ⟨k, hk, rfl⟩ := nI_of (x := i) (Int32.not_lt.mpr (neg1_lt hi h1))
    cases o with
    | none =>
      rw [difN, if_pos]
      · rfl
      · rw [show (-1 : Int32) = mI 1 from rfl, nm_le2 hk (by omega) (by omega)]; trivial
    | some w =>
      have hl := ho w rfl
      rw [difN, dlol, wlol, if_neg h1]
      by_cases h2 : nI w.length ≤ nI k
      · rw [if_pos h2, if_pos h2]
      · rw [if_neg h2, if_neg h2]
        rw [nI_leI (by omega) hk] at h2
        rw [gIn_nI (by omega) (by omega), nI_clamp hk, difL, wri_at (by omega)]
theorem s_Mo_pathPart {w : Wrd} (hl : w.length < 320) {pa : Nat → Int32} {i : Int32} (hi : ¬ i < -1) : f_Mo_pathPart i (nI w.length) (wri pa w) = some (wlol w i) := by
  rw [f_Mo_pathPart, wlol]
  by_cases h1 : i = -1
  · rw [if_pos h1, if_pos h1]
  · rw [if_neg h1, if_neg h1]
    obtain ⟨k, hk, rfl⟩ := nI_of (x := i) (Int32.not_lt.mpr (neg1_lt hi h1))
    by_cases h2 : nI w.length ≤ nI k
    · rw [if_pos h2, if_pos h2]
    · rw [if_neg h2, if_neg h2]
      rw [nI_leI (by omega) hk] at h2
      rw [gIn_nI (by omega) (by omega), nI_clamp hk, wri_at (by omega)]

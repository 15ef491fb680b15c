/-! ===== going back: the word of a difference ===== -/
theorem pth_0 (B : List BE) (n : Nat) : pth B n 0 = [] := by cases n <;> rfl
theorem pth_s {B : List BE} {n k : Nat} (hk : k + 1 < B.length) : pth B (n + 1) (k + 1) = pth B n B[k + 1].2.1 ++ [B[k + 1].2.2] := by
  rw [pth]
  simp only [List.getElem?_eq_getElem hk]
theorem pth_ok {szl szr le : Nat} {B : List BE} (h : BInv szl szr le B) : ∀ (n k : Nat), k ≤ n → k < B.length → (pth B n k).length ≤ k ∧ wle le (pth B n k)
  | 0, k, _, _ => ⟨Nat.zero_le _, wle_nil⟩
  | n + 1, 0, _, _ => ⟨Nat.le_refl _, wle_nil⟩
  | n + 1, k + 1, hn, hk => by
    obtain ⟨h1, h2⟩ := h.2.2.2 (k + 1) hk (by omega)
    obtain ⟨a1, a2⟩ := pth_ok h n B[k + 1].2.1 (by omega) (by omega)
    rw [pth_s hk]
    refine ⟨by rw [List.length_append, List.length_singleton]; omega, wle_app.mpr ⟨a2, wle_one.mpr h2⟩⟩
theorem pth_fuel {szl szr le : Nat} {B : List BE} (h : BInv szl szr le B) : ∀ (n m k : Nat), k ≤ n → k ≤ m → k < B.length → pth B n k = pth B m k
  | n, m, 0, _, _, _ => by rw [pth_0, pth_0]
  | 0, m, k + 1, hn, _, _ => by omega
  | n + 1, 0, k + 1, _, hm, _ => by omega
  | n + 1, m + 1, k + 1, hn, hm, hk => by
    obtain ⟨h1, h2⟩ := h.2.2.2 (k + 1) hk (by omega)
    rw [pth_s hk, pth_s hk, pth_fuel h n m B[k + 1].2.1 (by omega) (by omega) (by omega)]
/-- the letters of a word written into a row -/
def wri (f : Nat → Int32) (w : Wrd) : Nat → Int32 := fun i => if i < w.length then nI (w.getD i 0) else f i
theorem wri_nil (f : Nat → Int32) : wri f [] = f := by funext i; rw [wri, if_neg (by simp)]
theorem wri_snoc (f : Nat → Int32) (w : Wrd) (a : Nat) : wri (upd f w.length (nI a)) w = wri f (w ++ [a]) := by
  funext i
  simp only [wri, upd, List.length_append, List.length_singleton]
  rcases Nat.lt_trichotomy i w.length with z | z | z
  · rw [if_pos z, if_pos (by omega)]
    congr 1
    rw [List.getD_eq_getElem?_getD, List.getD_eq_getElem?_getD, List.getElem?_append_left z]
  · subst z
    rw [if_neg (by omega), if_pos rfl, if_pos (by omega)]
    congr 1
    rw [List.getD_eq_getElem?_getD, List.getElem?_append_right (Nat.le_refl _)]
    simp
  · rw [if_neg (by omega), if_neg (by omega), if_neg (by omega)]
theorem s_Se_tb_L7 {szl szr le : Nat} {B : List BE} (hB : BInv szl szr le B) (hlen : B.length ≤ 320) {s q og ar : Nat → Int32} (hR : RS B s q og ar) {K : Int32 → Int32 → Option ((Nat → Int32) × Int32)} :
    ∀ (n k len : Nat), k < B.length → k < n → len + k < 320 → itr (fun _ _ => none) (f_Se_traceBack_L7 og K) n (nI k) (nI len) = K (nI 0) (nI (len + (pth B k k).length)) := by
  intro n
  induction n with
  | zero => intro k len _ h; omega
  | succ n ih =>
    intro k len hk hn hs
    rw [itr_s, f_Se_traceBack_L7]
    cases k with
    | zero => rw [if_pos (by decide), pth_0]; rfl
    | succ k =>
      obtain ⟨h1, h2⟩ := hB.2.2.2 (k + 1) hk (by omega)
      rw [if_neg (nI_nle (by omega) (by omega)), show (320 : Int32) = nI 320 from rfl, if_neg (nI_ge (by omega) (by omega))]
      simp only [bnd]
      rw [gIn_nI (by omega) (by omega), nI_clamp (by omega), (hR.2.2.1 (k + 1) hk (by omega)).1, show nI len + 1 = nI (len + 1) from nI_1 len, ih _ (len + 1) (by omega) (by omega) (by omega), pth_s hk, pth_fuel hB k B[k + 1].2.1 _ (by omega) (Nat.le_refl _) (by omega), List.length_append, List.length_singleton]
      congr 2
      omega
theorem s_Se_tb_L50 {szl szr le : Nat} {B : List BE} (hB : BInv szl szr le B) (hlen : B.length ≤ 320) {s q og ar : Nat → Int32} (hR : RS B s q og ar) {K : Int32 → Int32 → (Nat → Int32) → Option ((Nat → Int32) × Int32)} {R : (Nat → Int32) → Option ((Nat → Int32) × Int32)} (hK : ∀ a b l, K a b l = R l) :
    ∀ (n k : Nat) (lt : Nat → Int32), k < B.length → k < n → itr (fun _ _ _ => none) (f_Se_traceBack_L50 og ar K) n (nI k) (nI (pth B k k).length - 1) lt = R (wri lt (pth B k k)) := by
  intro n
  induction n with
  | zero => intro k lt _ h; omega
  | succ n ih =>
    intro k lt hk hn
    rw [itr_s, f_Se_traceBack_L50]
    cases k with
    | zero => rw [pth_0, if_pos (by decide), hK, wri_nil]
    | succ k =>
      obtain ⟨h1, h2⟩ := hB.2.2.2 (k + 1) hk (by omega)
      have hl := (pth_ok hB k B[k + 1].2.1 (by omega) (by omega)).1
      rw [pth_s hk, pth_fuel hB k B[k + 1].2.1 _ (by omega) (Nat.le_refl _) (by omega)] at *
      rw [List.length_append, List.length_singleton, show nI ((pth B B[k + 1].2.1 B[k + 1].2.1).length + 1) - 1 = nI (pth B B[k + 1].2.1 B[k + 1].2.1).length from nI_pred _, if_neg (nI_pos (by omega)), gIn_nI (by omega) (by omega), gIn_nI (by omega) (by omega)]
      simp only [bnd]
      rw [gIn_nI (by omega) (by omega), nI_clamp (by omega), nI_clamp (by omega), (hR.2.2.1 (k + 1) hk (by omega)).1, (hR.2.2.1 (k + 1) hk (by omega)).2, ← wri_snoc, ← Int32.sub_eq_add_neg]
      exact ih B[k + 1].2.1 _ (by omega) (by omega)
theorem s_Se_traceBack {szl szr le : Nat} {B : List BE} (hB : BInv szl szr le B) (hlen : B.length ≤ 320) {s q og ar : Nat → Int32} (hR : RS B s q og ar) {k : Nat} (hk : k < B.length) (lt : Nat → Int32) : f_Se_traceBack (nI k) og ar lt = some (wri lt (pth B k k), nI (pth B k k).length) := by
  rw [f_Se_traceBack]
  have h1 := fun K => s_Se_tb_L7 hB hlen hR (K := K) FU k 0 hk (by rw [FU_eq]; omega) (by omega)
  rw [nI_0] at h1
  rw [h1, Nat.zero_add]
  simp only [bnd]
  exact s_Se_tb_L50 hB hlen hR (R := fun l => some (l, nI (pth B k k).length)) (fun _ _ _ => rfl) FU k lt hk (by rw [FU_eq]; omega)
theorem s_Mo_gb_L7 {szl szr le : Nat} {B : List BE} (hB : BInv szl szr le B) (hlen : B.length ≤ 320) {s q og ar : Nat → Int32} (hR : RS B s q og ar) {K : Int32 → Int32 → Option (Int32 × (Nat → Int32) × Int32)} :
    ∀ (n k len : Nat), k < B.length → k < n → itr (fun _ _ => none) (f_Mo_goesBack_L7 og K) n (nI k) (nI len) = K (nI 0) (nI (len + (pth B k k).length)) := by
  intro n
  induction n with
  | zero => intro k len _ h; omega
  | succ n ih =>
    intro k len hk hn
    rw [itr_s, f_Mo_goesBack_L7, gIn_nI (by omega) (by omega), nI_clamp (by omega)]
    cases k with
    | zero => rw [if_pos hR.2.2.2, pth_0]; rfl
    | succ k =>
      obtain ⟨h1, h2⟩ := hB.2.2.2 (k + 1) hk (by omega)
      rw [(hR.2.2.1 (k + 1) hk (by omega)).1, if_neg (by rw [show (-1 : Int32) = mI 1 from rfl, nm_eq (by omega) (by omega) (by omega)]; exact id)]
      simp only [bnd]
      rw [gIn_nI (by omega) (by omega), show nI len + 1 = nI (len + 1) from nI_1 len, ih _ (len + 1) (by omega) (by omega), pth_s hk, pth_fuel hB k B[k + 1].2.1 _ (by omega) (Nat.le_refl _) (by omega), List.length_append, List.length_singleton]
      congr 2
      omega
theorem s_Mo_gb_L44 {szl szr le : Nat} {B : List BE} (hB : BInv szl szr le B) (hlen : B.length ≤ 320) {s q og ar : Nat → Int32} (hR : RS B s q og ar) {K : Int32 → Int32 → (Nat → Int32) → Option (Int32 × (Nat → Int32) × Int32)} {R : (Nat → Int32) → Option (Int32 × (Nat → Int32) × Int32)} (hK : ∀ a b l, K a b l = R l) :
    ∀ (n k : Nat) (lt : Nat → Int32), k < B.length → k < n → itr (fun _ _ _ => none) (f_Mo_goesBack_L44 og ar K) n (nI (pth B k k).length) (nI k) lt = R (wri lt (pth B k k)) := by
  intro n
  induction n with
  | zero => intro k lt _ h; omega
  | succ n ih =>
    intro k lt hk hn
    rw [itr_s, f_Mo_goesBack_L44, gIn_nI (by omega) (by omega), nI_clamp (by omega)]
    cases k with
    | zero => rw [if_pos hR.2.2.2, hK, pth_0, wri_nil]
    | succ k =>
      obtain ⟨h1, h2⟩ := hB.2.2.2 (k + 1) hk (by omega)
      have hl := (pth_ok hB k B[k + 1].2.1 (by omega) (by omega)).1
      rw [(hR.2.2.1 (k + 1) hk (by omega)).1, if_neg (by rw [show (-1 : Int32) = mI 1 from rfl, nm_eq (by omega) (by omega) (by omega)]; exact id)]
      rw [pth_s hk, pth_fuel hB k B[k + 1].2.1 _ (by omega) (Nat.le_refl _) (by omega)] at *
      simp only [bnd]
      rw [List.length_append, List.length_singleton, show nI ((pth B B[k + 1].2.1 B[k + 1].2.1).length + 1) + -1 = nI (pth B B[k + 1].2.1 B[k + 1].2.1).length from pk_m1 _, gIn_nI (by omega) (by omega), gIn_nI (by omega) (by omega), gIn_nI (by omega) (by omega), nI_clamp (by omega), (hR.2.2.1 (k + 1) hk (by omega)).2, ← wri_snoc]
      exact ih B[k + 1].2.1 _ (by omega) (by omega)
theorem s_Mo_goesBack {szl szr le : Nat} {B : List BE} (hB : BInv szl szr le B) (hlen : B.length ≤ 320) {s q og ar : Nat → Int32} (hR : RS B s q og ar) {k : Nat} (hk : k < B.length) (lt : Nat → Int32) : f_Mo_goesBack (nI k) og ar lt = some (1, wri lt (pth B k k), nI (pth B k k).length) := by
  rw [f_Mo_goesBack]
  have h1 := fun K => s_Mo_gb_L7 hB hlen hR (K := K) FU k 0 hk (by rw [FU_eq]; omega)
  rw [nI_0] at h1
  rw [h1, Nat.zero_add]
  exact s_Mo_gb_L44 hB hlen hR (R := fun l => some ((1 : Int32), l, nI (pth B k k).length)) (fun _ _ _ => rfl) FU k lt hk (by rw [FU_eq]; omega)
/-- the least word by which two machines part, if there is one -/
def dif (fl fr ml mr : Nat → Nat) (le p q : Nat) : Option Wrd := ((bfs fl fr ml mr le FU 0 [(8 * p + q, 0, 0)]).1).map (fun k => pth (bfs fl fr ml mr le FU 0 [(8 * p + q, 0, 0)]).2 k k)
theorem BInv_one {szl szr le p q : Nat} (hp : p < szl) (hq : q < szr) (h8 : szr ≤ 8) : BInv szl szr le [(8 * p + q, 0, 0)] := by
  refine ⟨by simp, fun x hx => ?_, by simp, fun i hi h0 => by simp at hi; omega⟩
  rw [List.mem_singleton.mp hx]
  show (8 * p + q) / 8 < szl ∧ (8 * p + q) % 8 < szr
  omega
theorem dif_ok {szl szr le p q : Nat} {fl fr ml mr : Nat → Nat} (h1 : szl ≤ 40) (h8 : szr ≤ 8) (hl : mok szl le ml) (hr : mok szr le mr) (hp : p < szl) (hq : q < szr) {w : Wrd} (h : dif fl fr ml mr le p q = some w) : wle le w ∧ w.length < 320 := by
  rw [dif, Option.map_eq_some_iff] at h
  obtain ⟨k, hk, rfl⟩ := h
  have hb := bfs_inv (fl := fl) (fr := fr) h8 hl hr FU 0 _ (BInv_one (le := le) hp hq h8)
  have hk2 := hb.2 k hk
  have := BInv_len hb.1 h1
  obtain ⟨a, b⟩ := pth_ok hb.1 k k (Nat.le_refl _) hk2
  exact ⟨b, by omega⟩
def difI (o : Option Wrd) : Int32 := match o with | none => 0 | some _ => 1
def difN (o : Option Wrd) : Int32 := match o with | none => -1 | some w => nI w.length
def difL (lt : Nat → Int32) (o : Option Wrd) : Nat → Int32 := match o with | none => lt | some w => wri lt w
theorem s_Se_findsDifference {N1 N1f N3 N3f szl szr le : Nat} {fl fr ml mr : Nat → Nat} {v1 g1 v3 g3 lt sn qu og ar : Nat → Int32} (h1 : szl ≤ 40) (h8 : szr ≤ 8) (hN1 : 3 * szl ≤ N1) (hN1' : N1 < 1000) (hf1 : szl ≤ N1f) (hf1' : N1f < 1000) (hN3 : 3 * szr ≤ N3) (hN3' : N3 < 1000) (hf3 : szr ≤ N3f) (hf3' : N3f < 1000) (hv1 : rI N1 ml v1) (hg1 : rI N1f fl g1) (hv3 : rI N3 mr v3) (hg3 : rI N3f fr g3) (hle : le ≤ 3) (hl : mok szl le ml) (hr : mok szr le mr)
    (hb1 : ∀ k, k < szl → fl k ≤ 1) (hb3 : ∀ k, k < szr → fr k ≤ 1) {p q : Nat} (hp : p < szl) (hq : q < szr) :
    ∃ sn' qu' og' ar' n', f_Se_findsDifference N1 N1f N3 N3f (nI p) (nI q) sn qu og ar lt v1 g1 (nI le) v3 g3 = some (difI (dif fl fr ml mr le p q), sn', qu', og', ar', difL lt (dif fl fr ml mr le p q), difN (dif fl fr ml mr le p q), n') := by
  have hB := BInv_one (le := le) hp hq h8
  rw [f_Se_findsDifference, s_Ar_fill (by omega), bd1_s]
  have hmeet : ∃ s' q' o' a', f_Se_meet (nI p) (nI q) (-1) (-1) 0 (fun j => if j < 320 then 0 else sn j) qu og ar = some (s', q', o', a', nI 1) ∧ RS [(8 * p + q, 0, 0)] s' q' o' a' := by
    rw [f_Se_meet]
    simp only [bnd]
    rw [show nI p * (8 : Int32) = nI (p * 8) from pk_mul p 8, nI_add, gIn_nI (by omega) (by omega), nI_clamp (by omega), if_pos (show p * 8 + q < 320 by omega), if_pos rfl, if_neg (by decide), gIn_nI (by omega) (by omega), show gIn (α := (Nat → Int32) × (Nat → Int32) × (Nat → Int32) × (Nat → Int32) × Int32) (0 : Int32) 320 = fun k => k from funext fun k => gIn_nI (a := 0) (by omega) (by omega), show p * 8 + q = 8 * p + q by omega]
    refine ⟨_, _, _, _, rfl, fun v hv => ?_, fun k hk => ?_, fun k hk h0 => ?_, ?_⟩
    · by_cases e : v = 8 * p + q
      · rw [e, pk_us, if_pos (by simp)]
      · rw [pk_un e, if_pos hv, if_neg (by simpa using e)]
    · have : k = 0 := by simp at hk; exact hk
      subst this
      rfl
    · simp at hk; omega
    · rfl
  obtain ⟨s', q', o', a', e1, hR⟩ := hmeet
  rw [e1, bd5_s]
  obtain ⟨s2, q2, o2, a2, hR2, e2⟩ := s_Se_fd_outer (lt := lt) (K := fun x5 v_seen_3 v_queue_2 v_origin_2 v_arrival_2 v_queued_2 => (some ((0 : Int32), v_seen_3, v_queue_2, v_origin_2, v_arrival_2, lt, (-1 : Int32), v_queued_2))) h1 h8 hN1 hN1' hf1 hf1' hN3 hN3' hf3 hf3' hv1 hg1 hv3 hg3 hle hl hr hb1 hb3 FU 0 _ s' q' o' a' (Nat.zero_le _) (by rw [FU_eq]; omega) hB hR
  rw [nI_0, List.length_singleton] at e2
  rw [e2]
  have hinv := bfs_inv (fl := fl) (fr := fr) h8 hl hr FU 0 _ hB
  cases e3 : (bfs fl fr ml mr le FU 0 [(8 * p + q, 0, 0)]).1 with
  | none =>
    have hd : dif fl fr ml mr le p q = none := by rw [dif, e3]; rfl
    rw [hd]
    exact ⟨_, _, _, _, _, rfl⟩
  | some j =>
    have hd : dif fl fr ml mr le p q = some (pth (bfs fl fr ml mr le FU 0 [(8 * p + q, 0, 0)]).2 j j) := by rw [dif, e3]; rfl
    rw [hd]
    simp only
    rw [s_Se_traceBack hinv.1 (BInv_len hinv.1 h1) hR2 (hinv.2 j e3) lt, bd2_s]
    exact ⟨_, _, _, _, _, rfl⟩
theorem fd_alias (N Nf : Nat) (x2 x4 : Int32) (sn qu og ar lt : Nat → Int32) (le : Int32) (v g : Nat → Int32) : f_Se_findsDifference_a N Nf x2 x4 sn qu og ar lt le v g = f_Se_findsDifference N Nf N Nf x2 x4 sn qu og ar lt v g le v g := rfl

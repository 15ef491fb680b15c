/-! ===== the machine, the lies, the answers of the teacher ===== -/
def rn (mv : Nat → Nat) (s : Nat) (w : Wrd) : Nat := w.foldl (fun s a => mv (3 * s + a)) s
def mok (sz le : Nat) (mv : Nat → Nat) : Prop := 0 < sz ∧ ∀ s a, s < sz → a < le → mv (3 * s + a) < sz
def wle (le : Nat) (w : Wrd) : Prop := ∀ a ∈ w, a < le
theorem wle_ok {le : Nat} {w : Wrd} (h : wle le w) (hl : le ≤ 3) : wok w := fun a ha => Nat.lt_of_lt_of_le (h a ha) hl
theorem wle_nil {le : Nat} : wle le [] := fun a h => by cases h
theorem wle_app {le : Nat} {u v : Wrd} : wle le (u ++ v) ↔ wle le u ∧ wle le v := List.forall_mem_append
theorem wle_one {le a : Nat} : wle le [a] ↔ a < le := by
  constructor
  · intro h; exact h a (List.mem_singleton.mpr rfl)
  · intro h b hb; rw [List.mem_singleton.mp hb]; exact h
theorem wle_take {le : Nat} {w : Wrd} (h : wle le w) (k : Nat) : wle le (w.take k) := fun a ha => h a (List.mem_of_mem_take ha)
theorem wle_drop {le : Nat} {w : Wrd} (h : wle le w) (k : Nat) : wle le (w.drop k) := fun a ha => h a (List.mem_of_mem_drop ha)
theorem rn_lt {sz le : Nat} {mv : Nat → Nat} (hm : mok sz le mv) : ∀ {w : Wrd} {s : Nat}, wle le w → s < sz → rn mv s w < sz
  | [], s, _, hs => hs
  | a :: w, s, hw, hs => rn_lt hm (w := w) (fun b hb => hw b (List.mem_cons_of_mem _ hb)) (hm.2 s a hs (hw a List.mem_cons_self))
theorem rn_snoc (mv : Nat → Nat) (s : Nat) (w : Wrd) (a : Nat) : rn mv s (w ++ [a]) = mv (3 * rn mv s w + a) := by simp [rn]
def rI (n : Nat) (f : Nat → Nat) (v : Nat → Int32) : Prop := ∀ k, k < n → v k = nI (f k)
theorem s_Au_follow_loop {N sz le : Nat} {mv : Nat → Nat} {v : Nat → Int32} (hN : 3 * sz ≤ N) (hN2 : N < 1000) (hv : rI N mv v) (hm : mok sz le mv) (hle : le ≤ 3) {w : Wrd} (hw : wle le w) (hl : w.length ≤ 16) {j : Nat} (hj : j ≤ w.length) :
    ∀ (n k : Nat), k ≤ j → j - k < n → itr (fun _ _ _ => none) (f_Au_follow_L9 N v (nI j) (fun x4 _ _ => some x4)) n (nI (rn mv 0 (w.take k))) (lN (eX w / 4 ^ k)) (nI k) = some (nI (rn mv 0 (w.take j))) := by
  intro n
  induction n with
  | zero => intro k _ h; omega
  | succ n ih =>
    intro k hk h
    have hok := wle_ok hw hle
    rw [itr_s, f_Au_follow_L9]
    rcases Nat.lt_or_ge k j with c | c
    · have hs : eX w / 4 ^ k < 34359738368 := Nat.lt_of_le_of_lt (Nat.div_le_self _ _) (eX_small hok (by omega))
      have hst : rn mv 0 (w.take k) < sz := rn_lt hm (wle_take hw k) hm.1
      have hlt : w[k] < le := hw _ (List.getElem_mem (by omega))
      rw [if_neg (nI_ge c (by omega)), fl, pk_mul, lN_and3 (by omega), lN_i, eX_mod4 hok k (by omega), nI_add, gIn_nI (by omega) (by omega)]
      simp only [bnd]
      rw [nI_clamp (by omega), hv _ (by omega), lN_shr2 (by omega), show nI k + 1 = nI (k + 1) from nI_1 k, Nat.div_div_eq_div_mul, ← Nat.pow_succ, Nat.mul_comm _ 3, ← rn_snoc mv 0 (w.take k) w[k]]
      have := ih (k + 1) c (by omega)
      rw [List.take_succ_eq_append_getElem (by omega)] at this
      exact this
    · have : k = j := by omega
      subst this
      rw [if_pos (nI_le (Nat.le_refl _) (by omega))]
theorem s_Au_follow {N sz le : Nat} {mv : Nat → Nat} {v : Nat → Int32} (hN : 3 * sz ≤ N) (hN2 : N < 1000) (hv : rI N mv v) (hm : mok sz le mv) (hle : le ≤ 3) {w : Wrd} (hw : wle le w) (hl : w.length ≤ 16) {j : Nat} (hj : j ≤ w.length) :
    f_Au_follow N (lN (eX w)) (nI j) v = some (nI (rn mv 0 (w.take j))) := by
  have := s_Au_follow_loop hN hN2 hv hm hle hw hl hj FU 0 (Nat.zero_le _) (by rw [FU_eq]; omega)
  rw [Nat.pow_zero, Nat.div_one] at this
  exact this
theorem s_Au_verdict {N M sz le : Nat} {mv fi : Nat → Nat} {v g : Nat → Int32} (hN : 3 * sz ≤ N) (hN2 : N < 1000) (hM : sz ≤ M) (hM2 : M < 1000) (hv : rI N mv v) (hg : rI M fi g) (hm : mok sz le mv) (hle : le ≤ 3) {w : Wrd} (hw : wle le w) (hl : w.length ≤ 16) :
    f_Au_verdict N M (lN (eX w)) v g = some (nI (fi (rn mv 0 w))) := by
  have hst : rn mv 0 w < sz := rn_lt hm hw hm.1
  rw [f_Au_verdict, s_Ws_lengthOf (wle_ok hw hle) hl, bd1_s, s_Au_follow hN hN2 hv hm hle hw hl (Nat.le_refl _), bd1_s, List.take_length, gIn_nI (by omega) (by omega), nI_clamp (by omega), hg _ (by omega)]
/-- the reference's machine, in the row m from b on (moves) and c on (final states) -/
def rIo (b n : Nat) (f : Nat → Nat) (m : Nat → Int32) : Prop := ∀ k, k < n → m (b + k) = nI (f k)
theorem s_Mo_truth_loop {sz le : Nat} {mv : Nat → Nat} {m : Nat → Int32} {K : Int32 → Int32 → Option Int32} (hsz : sz ≤ 8) (hv : rIo 2 24 mv m) (hm : mok sz le mv) (hle : le ≤ 3) {w : Wrd} (hw : wle le w) (hl : w.length ≤ 17) :
    ∀ (n k : Nat), k ≤ w.length → w.length - k < n → itr (fun _ _ => none) (f_Mo_truth_L11 m (lN (eM w)) (nI w.length) K) n (nI (rn mv 0 (w.take k))) (nI k) = K (nI (rn mv 0 w)) (nI w.length) := by
  intro n
  induction n with
  | zero => intro k _ h; omega
  | succ n ih =>
    intro k hk h
    have hok := wle_ok hw hle
    rw [itr_s, f_Mo_truth_L11]
    rcases Nat.lt_or_ge k w.length with c | c
    · have hst : rn mv 0 (w.take k) < sz := rn_lt hm (wle_take hw k) hm.1
      have hlt : w[k] < le := hw _ (List.getElem_mem (by omega))
      rw [if_neg (nI_ge c (by omega)), s_Mo_letterOf hok hl c, bd1_s, fl, fl, pk_mul, nI_add, nI_add, gIn_nI (by omega) (by omega)]
      simp only [bnd]
      rw [nI_clamp (by omega), Nat.add_assoc, hv _ (by omega), show nI k + 1 = nI (k + 1) from nI_1 k, ← rn_snoc mv 0 (w.take k) w[k]]
      have := ih (k + 1) c (by omega)
      rw [List.take_succ_eq_append_getElem (by omega)] at this
      exact this
    · have : k = w.length := by omega
      subst this
      rw [if_pos (nI_le (Nat.le_refl _) (by omega)), List.take_length]
theorem s_Mo_truth {sz le : Nat} {mv fi : Nat → Nat} {m : Nat → Int32} (hsz : sz ≤ 8) (hv : rIo 2 24 mv m) (hf : rIo 26 8 fi m) (hm : mok sz le mv) (hle : le ≤ 3) {w : Wrd} (hw : wle le w) (hl : w.length ≤ 17) :
    f_Mo_truth (lN (eM w)) m = some (nI (fi (rn mv 0 w))) := by
  have hst : rn mv 0 w < sz := rn_lt hm hw hm.1
  rw [f_Mo_truth, s_Mo_lengthOf (wle_ok hw hle) hl, bd1_s]
  have := s_Mo_truth_loop (K := fun x3 x5 => (gIn ((26 : Int32) + x3) 561 (some (m ((26 : Int32) + x3).toNatClampNeg)))) hsz hv hm hle hw hl FU 0 (Nat.zero_le _) (by rw [FU_eq]; omega)
  refine this.trans ?_
  rw [fl, nI_add, gIn_nI (by omega) (by omega), nI_clamp (by omega), hf _ (by omega)]
/-! lies -/
def lok (L : List Wrd) : Prop := ∀ w ∈ L, wok w ∧ w.length ≤ 16
def fndN (L : List Wrd) (u : Wrd) : Int32 := if u ∈ L then nI (L.idxOf u) else -1
theorem idx_first {L : List Wrd} {u : Wrd} {k : Nat} (hk : k < L.length) (h : L[k] = u) (hn : ∀ j (hj : j < L.length), j < k → L[j] ≠ u) : L.idxOf u = k := by
  have hm : u ∈ L := h ▸ List.getElem_mem hk
  have h1 := List.idxOf_lt_length_of_mem hm
  have h2 : L[L.idxOf u] = u := List.getElem_idxOf h1
  rcases Nat.lt_trichotomy (L.idxOf u) k with q | q | q
  · exact absurd h2 (hn _ h1 q)
  · exact q
  · have := List.not_of_lt_findIdx (p := fun x => x == u) (xs := L) (i := k) q
    rw [h] at this
    simp at this
theorem s_Te_placeOfLie_loop {L : List Wrd} {v : Nat → Int64} (hL : lok L) (h4 : L.length ≤ 4) (hv : ∀ k (h : k < L.length), v k = lN (eX L[k])) {u : Wrd} (hu : wok u) (hul : u.length ≤ 16) :
    ∀ (n k : Nat), k ≤ L.length → L.length - k < n → (∀ j (hj : j < L.length), j < k → L[j] ≠ u) → itr (fun _ => none) (f_Te_placeOfLie_L2 (nI L.length) v (lN (eX u)) (fun _ => some (-1 : Int32))) n (nI k) = some (fndN L u) := by
  intro n
  induction n with
  | zero => intro k _ h; omega
  | succ n ih =>
    intro k hk h hno
    rw [itr_s, f_Te_placeOfLie_L2]
    rcases Nat.lt_or_ge k L.length with c | c
    · obtain ⟨q1, q2⟩ := hL _ (List.getElem_mem c)
      have q3 := eX_small q1 (by omega)
      have q4 := eX_small hu (by omega)
      rw [if_neg (nI_ge c (by omega)), gIn_nI (by omega) (by omega), nI_clamp (by omega), hv _ c]
      by_cases e : L[k] = u
      · rw [if_pos (by rw [e]), fndN, if_pos (e ▸ List.getElem_mem c), idx_first c e hno]
      · rw [if_neg (fun q => e (eX_inj q1 hu (lN_inj (by omega) (by omega) q)))]
        simp only [bnd]
        rw [show nI k + 1 = nI (k + 1) from nI_1 k]
        refine ih (k + 1) c (by omega) (fun j hj hjk => ?_)
        rcases Nat.lt_or_ge j k with z | z
        · exact hno j hj z
        · have : j = k := by omega
          subst this; exact e
    · rw [if_pos (nI_le c (by omega)), fndN, if_neg]
      intro hm
      obtain ⟨j, hj, ej⟩ := List.mem_iff_getElem.mp hm
      exact hno j hj (by omega) ej
theorem s_Te_placeOfLie {L : List Wrd} {v : Nat → Int64} (hL : lok L) (h4 : L.length ≤ 4) (hv : ∀ k (h : k < L.length), v k = lN (eX L[k])) {u : Wrd} (hu : wok u) (hul : u.length ≤ 16) : f_Te_placeOfLie (lN (eX u)) (nI L.length) v = some (fndN L u) :=
  s_Te_placeOfLie_loop hL h4 hv hu hul FU 0 (Nat.zero_le _) (by rw [FU_eq]; omega) (fun j _ h => absurd h (Nat.not_lt_zero _))
theorem s_Mo_lieOf_loop {L : List Wrd} {m : Nat → Int32} {w : Nat → Int64} (hL : lok L) (h4 : L.length ≤ 4) (hm : m 34 = nI L.length) (hv : ∀ k (h : k < L.length), w k = lN (eM L[k])) {u : Wrd} (hu : wok u) (hul : u.length ≤ 16) :
    ∀ (n k : Nat), k ≤ L.length → L.length - k < n → (∀ j (hj : j < L.length), j < k → L[j] ≠ u) → itr (fun _ => none) (f_Mo_lieOf_L2 m w (lN (eM u)) (fun _ => some (-1 : Int32))) n (nI k) = some (fndN L u) := by
  intro n
  induction n with
  | zero => intro k _ h; omega
  | succ n ih =>
    intro k hk h hno
    rw [itr_s, f_Mo_lieOf_L2, hm]
    rcases Nat.lt_or_ge k L.length with c | c
    · obtain ⟨q1, q2⟩ := hL _ (List.getElem_mem c)
      have q3 := eM_small q1 (by omega)
      have q4 := eM_small hu (by omega)
      rw [if_neg (nI_ge c (by omega)), gIn_nI (by omega) (by omega), nI_clamp (by omega), hv _ c]
      by_cases e : L[k] = u
      · rw [if_pos (by rw [e]), fndN, if_pos (e ▸ List.getElem_mem c), idx_first c e hno]
      · rw [if_neg (fun q => e (eM_inj q1 hu (lN_inj (by omega) (by omega) q)))]
        simp only [bnd]
        rw [show nI k + 1 = nI (k + 1) from nI_1 k]
        refine ih (k + 1) c (by omega) (fun j hj hjk => ?_)
        rcases Nat.lt_or_ge j k with z | z
        · exact hno j hj z
        · have : j = k := by omega
          subst this; exact e
    · rw [if_pos (nI_le c (by omega)), fndN, if_neg]
      intro hmm
      obtain ⟨j, hj, ej⟩ := List.mem_iff_getElem.mp hmm
      exact hno j hj (by omega) ej
theorem s_Mo_lieOf {L : List Wrd} {m : Nat → Int32} {w : Nat → Int64} (hL : lok L) (h4 : L.length ≤ 4) (hm : m 34 = nI L.length) (hv : ∀ k (h : k < L.length), w k = lN (eM L[k])) {u : Wrd} (hu : wok u) (hul : u.length ≤ 16) : f_Mo_lieOf (lN (eM u)) m w = some (fndN L u) :=
  s_Mo_lieOf_loop hL h4 hm hv hu hul FU 0 (Nat.zero_le _) (by rw [FU_eq]; omega) (fun j _ h => absurd h (Nat.not_lt_zero _))
theorem fndN_no {L : List Wrd} {u : Wrd} (h : u ∉ L) : fndN L u = -1 := if_neg h
theorem fndN_yes {L : List Wrd} {u : Wrd} (h : u ∈ L) (h4 : L.length ≤ 1000) : ¬ fndN L u = -1 := by
  rw [fndN, if_pos h]
  have := List.idxOf_lt_length_of_mem h
  intro e
  rw [fl, mI_r, nm_eq (by omega) (by omega) (by omega)] at e
  exact e
/-- what the teacher answers -/
def tans (L : List Wrd) (mv fi : Nat → Nat) (u : Wrd) : Nat := if u ∈ L then 1 - fi (rn mv 0 u) else fi (rn mv 0 u)
theorem tans_le {L : List Wrd} {mv fi : Nat → Nat} {u : Wrd} (h : fi (rn mv 0 u) ≤ 1) : tans L mv fi u ≤ 1 := by
  rw [tans]; split <;> omega
theorem s_Te_answerTo {L : List Wrd} {v : Nat → Int64} (hL : lok L) (h4 : L.length ≤ 4) (hv : ∀ k (h : k < L.length), v k = lN (eX L[k])) {sz le : Nat} {mv fi : Nat → Nat} {p g : Nat → Int32} (hsz : sz ≤ 8) (hp : rI 24 mv p) (hg : rI 8 fi g) (hm : mok sz le mv) (hfi : ∀ k, k < 8 → fi k ≤ 1) (hle : le ≤ 3) {u : Wrd} (hu : wle le u) (hul : u.length ≤ 16) :
    f_Te_answerTo (lN (eX u)) (nI L.length) p g v = some (nI (tans L mv fi u)) := by
  have hst : rn mv 0 u < sz := rn_lt hm hu hm.1
  have h1 := hfi (rn mv 0 u) (by omega)
  rw [f_Te_answerTo, s_Au_verdict (by omega) (by omega) hsz (by omega) hp hg hm hle hu hul, bd1_s, s_Te_placeOfLie hL h4 hv (wle_ok hu hle) hul, bd1_s]
  simp only [bnd]
  by_cases c : u ∈ L
  · rw [if_neg (fndN_yes c (by omega)), fl, pk_sub h1, tans, if_pos c]
  · rw [if_pos (fndN_no c), tans, if_neg c]
/-- the class asks -/
theorem s_Le_askAbout {al : Wrd → Option Nat} {n b : Nat} {E : Nat → Int64} (hR : RQX al n E) (hn : n ≤ b) (hb : b ≤ 300) {L : List Wrd} {v : Nat → Int64} (hL : lok L) (h4 : L.length ≤ 4) (hv : ∀ k (h : k < L.length), v k = lN (eX L[k])) {sz le : Nat} {mv fi : Nat → Nat} {p g : Nat → Int32} (hsz : sz ≤ 8) (hp : rI 24 mv p) (hg : rI 8 fi g) (hm : mok sz le mv) (hfi : ∀ k, k < 8 → fi k ≤ 1) (hle : le ≤ 3) {u : Wrd} (hu : wle le u) (hul : u.length ≤ 16) :
    (∃ a, al u = some a ∧ f_Le_askAbout (lN (eX u)) (nI b) (nI n) E (nI L.length) p g v = some (nI a, E, nI n)) ∨ (al u = none ∧ n = b ∧ f_Le_askAbout (lN (eX u)) (nI b) (nI n) E (nI L.length) p g v = some (-4, E, nI n)) ∨
    (al u = none ∧ n < b ∧ ∃ E', f_Le_askAbout (lN (eX u)) (nI b) (nI n) E (nI L.length) p g v = some (nI (tans L mv fi u), E', nI (n + 1)) ∧ RQX (fun x => if x = u then some (tans L mv fi u) else al x) (n + 1) E') := by
  have hst : rn mv 0 u < sz := rn_lt hm hu hm.1
  have h1 := hfi (rn mv 0 u) (by omega)
  rw [f_Le_askAbout, s_Qu_answerTo hR (by omega) (wle_ok hu hle) hul, bd1_s]
  cases e : al u with
  | some a =>
    refine Or.inl ⟨a, rfl, ?_⟩
    obtain ⟨Q, hq, hs, hlen, hal, hE⟩ := hR
    have ha := (hq _ (lk_some ((hal u).trans e))).2.2
    rw [ov, if_neg (by rw [fl, mI_r, nm_eq (by simp only at ha; omega) (by omega) (by omega)]; exact id)]
  | none =>
    rw [ov, if_pos rfl]
    rcases Nat.lt_or_ge n b with c | c
    · refine Or.inr (Or.inr ⟨rfl, c, ?_⟩)
      rw [if_pos (nI_lt c (by omega)), s_Te_answerTo hL h4 hv hsz hp hg hm hfi hle hu hul, bd1_s]
      obtain ⟨E', h2, h3⟩ := s_Qu_note hR (by omega) (wle_ok hu hle) hul e (tans_le (L := L) h1)
      exact ⟨E', by rw [h2, bd2_s], h3⟩
    · refine Or.inr (Or.inl ⟨rfl, by omega, ?_⟩)
      rw [if_neg (nI_nlt c (by omega))]

/-! ===== the digest, on both sides ===== -/
def itN (g : Nat → Int64 → Int64) : Nat → Nat → Int64 → Int64
  | 0, _, h => h
  | r + 1, s, h => itN g r (s + 1) (g s h)
def mx (h : Int64) (v : Int32) : Int64 := 31 * h + v.toInt64
theorem itN_add (g : Nat → Int64 → Int64) : ∀ (a b s : Nat) (h : Int64), itN g (a + b) s h = itN g b (s + a) (itN g a s h)
  | 0, b, s, h => by rw [Nat.zero_add, Nat.add_zero, itN]
  | a + 1, b, s, h => by
    rw [show a + 1 + b = (a + b) + 1 by omega, itN, itN, itN_add g a b (s + 1), show s + 1 + a = s + (a + 1) by omega]
theorem itN_shift {g g' : Nat → Int64 → Int64} : ∀ (r s s' : Nat) (h : Int64), (∀ j, j < r → g (s + j) = g' (s' + j)) → itN g r s h = itN g' r s' h
  | 0, _, _, _, _ => rfl
  | r + 1, s, s', h, e => by
    have e0 := e 0 (by omega)
    rw [Nat.add_zero, Nat.add_zero] at e0
    rw [itN, itN, e0, itN_shift r (s + 1) (s' + 1) _ (fun j hj => by have := e (j + 1) (by omega); rw [show s + 1 + j = s + (j + 1) by omega, show s' + 1 + j = s' + (j + 1) by omega, this])]
theorem itN_flat {le : Nat} (hle : 0 < le) (G : Nat → Nat → Int64 → Int64) : ∀ (N k : Nat) (h : Int64), itN (fun i => G (i / le) (i % le)) (N * le) (k * le) h = itN (fun k h => itN (G k) le 0 h) N k h
  | 0, k, h => by rw [Nat.zero_mul, itN, itN]
  | N + 1, k, h => by
    rw [show (N + 1) * le = le + N * le by rw [Nat.add_mul, Nat.one_mul, Nat.add_comm], itN_add, itN, show k * le + le = (k + 1) * le by rw [Nat.add_mul, Nat.one_mul], itN_flat hle G N (k + 1)]
    congr 1
    refine itN_shift le (k * le) 0 h (fun j hj => ?_)
    show G ((k * le + j) / le) ((k * le + j) % le) = G k (0 + j)
    rw [Nat.mul_comm, Nat.mul_add_div hle, Nat.div_eq_of_lt hj, Nat.mul_add_mod, Nat.mod_eq_of_lt hj, Nat.add_zero, Nat.zero_add]
theorem itN_z (g : Nat → Int64 → Int64) {N k : Nat} (h : Int64) (e : N ≤ k) : itN g (N - k) k h = h := by rw [show N - k = 0 by omega, itN]
theorem itN_s (g : Nat → Int64 → Int64) {N k : Nat} (h : Int64) (e : k < N) : itN g (N - k) k h = itN g (N - (k + 1)) (k + 1) (g k h) := by rw [show N - k = (N - (k + 1)) + 1 by omega, itN]
theorem s_mixes (x : Int32) (h : Int64) : f_Mo_mixes x h = some (mx h x) := rfl
/-- letters of a word -/
def ltF (u : Wrd) (h : Int64) : Int64 := itN (fun i h => mx h (nI (u.getD i 0))) u.length 0 h
theorem gD {u : Wrd} {k : Nat} (h : k < u.length) : u.getD k 0 = u[k] := by rw [List.getD_eq_getElem?_getD, List.getElem?_eq_getElem h, Option.getD_some]
theorem s_TL_mixLetters {u : Wrd} (hu : wok u) (h16 : u.length ≤ 16) (h : Int64) : f_TL_mixLetters h (lN (eX u)) = some (ltF u h) := by
  have : ∀ (n k : Nat) (h : Int64), k ≤ u.length → u.length - k < n → itr (fun _ _ => none) (f_TL_mixLetters_L12 (lN (eX u)) (nI u.length) (fun x4 _ => some x4)) n h (nI k) = some (itN (fun i h => mx h (nI (u.getD i 0))) (u.length - k) k h) := by
    intro n
    induction n with
    | zero => intro k h _ e; omega
    | succ n ih =>
      intro k h hk hn
      rw [itr_s, f_TL_mixLetters_L12]
      rcases Nat.lt_or_ge k u.length with z | z
      · rw [if_neg (nI_ge z (by omega)), s_Ws_letterAt hu h16 z, bd1_s]
        simp only [bnd_eq]
        rw [show nI k + 1 = nI (k + 1) from nI_1 k, ih (k + 1) _ (by omega) (by omega), itN_s _ h z]
        show some (itN _ _ _ (mx h (nI u[k]))) = some (itN _ _ _ (mx h (nI (u.getD k 0))))
        rw [gD z]
      · rw [if_pos (nI_le z (by omega)), itN_z _ h z]
  rw [f_TL_mixLetters, s_Ws_lengthOf hu h16, bd1_s]
  exact this FU 0 h (Nat.zero_le _) (by rw [FU_eq]; omega)
theorem s_Mo_mixesWord {u : Wrd} (hu : wok u) (h16 : u.length ≤ 16) (h : Int64) : f_Mo_mixesWord (lN (eM u)) h = some (ltF u (mx h (nI u.length))) := by
  have : ∀ (n k : Nat) (h : Int64), k ≤ u.length → u.length - k < n → itr (fun _ _ => none) (f_Mo_mixesWord_L13 (lN (eM u)) (nI u.length) (fun _ x4 => some x4)) n (nI k) h = some (itN (fun i h => mx h (nI (u.getD i 0))) (u.length - k) k h) := by
    intro n
    induction n with
    | zero => intro k h _ e; omega
    | succ n ih =>
      intro k h hk hn
      rw [itr_s, f_Mo_mixesWord_L13]
      rcases Nat.lt_or_ge k u.length with z | z
      · rw [if_neg (nI_ge z (by omega)), s_Mo_letterOf hu (by omega) z, bd1_s, s_mixes, bd1_s]
        simp only [bnd_eq]
        rw [show nI k + 1 = nI (k + 1) from nI_1 k, ih (k + 1) _ (by omega) (by omega), itN_s _ h z, gD z]
      · rw [if_pos (nI_le z (by omega)), itN_z _ h z]
  rw [f_Mo_mixesWord, s_Mo_lengthOf hu (by omega), bd1_s, s_mixes, bd1_s]
  exact this FU 0 _ (Nat.zero_le _) (by rw [FU_eq]; omega)
/-- a machine -/
def auI (mv : Nat → Nat) (le s : Nat) (h : Int64) : Int64 := itN (fun a h => mx h (nI (mv (3 * s + a)))) le 0 h
def auF (mv fi : Nat → Nat) (le sz : Nat) (h : Int64) : Int64 := itN (fun s h => mx (auI mv le s h) (nI (fi s))) sz 0 h
theorem s_mixA_in {N le s : Nat} {mv : Nat → Nat} {v : Nat → Int32} (hN : N < 1000) (h3 : le ≤ 3) (hs : 3 * s + 3 ≤ N) (hv : rI N mv v) {K : Int64 → Int32 → Option Int64} : ∀ (n k : Nat) (h : Int64), k ≤ le → le - k < n → itr (fun _ _ => none) (f_TL_mixAutomaton_L17 N (nI le) v (nI s) K) n h (nI k) = K (itN (fun a h => mx h (nI (mv (3 * s + a)))) (le - k) k h) (nI le) := by
  intro n
  induction n with
  | zero => intro k h _ e; omega
  | succ n ih =>
    intro k h hk hn
    rw [itr_s, f_TL_mixAutomaton_L17]
    rcases Nat.lt_or_ge k le with z | z
    · rw [if_neg (nI_ge z (by omega)), f_Au_next, ix3, gIn_nI (by omega) (by omega), nI_clamp (by omega), hv _ (by omega), bd1_s]
      simp only [bnd_eq]
      rw [show nI k + 1 = nI (k + 1) from nI_1 k, ih (k + 1) _ (by omega) (by omega), itN_s _ h z]
      rfl
    · rw [if_pos (nI_le z (by omega)), itN_z _ h z, show k = le by omega]
theorem s_mixA {N M le sz : Nat} {mv fi : Nat → Nat} {v g : Nat → Int32} (hN : N < 1000) (hM : M < 1000) (h3 : le ≤ 3) (hs : 3 * sz ≤ N) (hs' : sz ≤ M) (hv : rI N mv v) (hg : rI M fi g) (h : Int64) : f_TL_mixAutomaton N M h (nI sz) (nI le) v g = some (auF mv fi le sz h) := by
  have : ∀ (n k : Nat) (h : Int64), k ≤ sz → sz - k < n → itr (fun _ _ => none) (f_TL_mixAutomaton_L5 N M (nI sz) (nI le) v g (fun x3 _ => some x3)) n h (nI k) = some (itN (fun s h => mx (auI mv le s h) (nI (fi s))) (sz - k) k h) := by
    intro n
    induction n with
    | zero => intro k h _ e; omega
    | succ n ih =>
      intro k h hk hn
      rw [itr_s, f_TL_mixAutomaton_L5]
      rcases Nat.lt_or_ge k sz with z | z
      · rw [if_neg (nI_ge z (by omega)), show (0 : Int32) = nI 0 from rfl, s_mixA_in hN h3 (by omega) hv FU 0 h (Nat.zero_le _) (by rw [FU_eq]; omega), gIn_nI (by omega) (by omega), nI_clamp (by omega), hg k (by omega)]
        simp only [bnd_eq]
        rw [show nI k + 1 = nI (k + 1) from nI_1 k, ih (k + 1) _ (by omega) (by omega), itN_s _ h z]
        rfl
      · rw [if_pos (nI_le z (by omega)), itN_z _ h z]
  exact this FU 0 h (Nat.zero_le _) (by rw [FU_eq]; omega)
section
variable {K : Int32 → Int64 → Option (Int64 × (Nat → Int32) × (Nat → Int32) × (Nat → Int32) × (Nat → Int32) × (Nat → Int32) × (Nat → Int32) × Int32 × Int64)} {m : Nat → Int32} {w : Nat → Int64}
theorem s_dg_L44 {le s : Nat} {mv : Nat → Nat} (h3 : le ≤ 3) (h1 : m 1 = nI le) (hs : s < 8) (hv : rIo 2 24 mv m) : ∀ (n k : Nat) (h : Int64), k ≤ le → le - k < n → itr (fun _ _ => none) (f_Mo_digest_L44 m (nI s) K) n (nI k) h = K (nI le) (itN (fun a h => mx h (nI (mv (3 * s + a)))) (le - k) k h) := by
  intro n
  induction n with
  | zero => intro k h _ e; omega
  | succ n ih =>
    intro k h hk hn
    rw [itr_s, f_Mo_digest_L44, h1]
    rcases Nat.lt_or_ge k le with z | z
    · rw [if_neg (nI_ge z (by omega)), show (2 : Int32) = nI 2 from rfl, ix3o, gIn_nI (by omega) (by omega), nI_clamp (by omega), hv _ (by omega), s_mixes, bd1_s]
      simp only [bnd_eq]
      rw [show nI k + 1 = nI (k + 1) from nI_1 k, ih (k + 1) _ (by omega) (by omega), itN_s _ h z]
    · rw [if_pos (nI_le z (by omega)), itN_z _ h z, show k = le by omega]
theorem s_dg_L32 {le sz : Nat} {mv fi : Nat → Nat} (h3 : le ≤ 3) (h8 : sz ≤ 8) (h0 : m 0 = nI sz) (h1 : m 1 = nI le) (hv : rIo 2 24 mv m) (hf : rIo 26 8 fi m) : ∀ (n k : Nat) (h : Int64), k ≤ sz → sz - k < n → itr (fun _ _ => none) (f_Mo_digest_L32 m K) n (nI k) h = K (nI sz) (itN (fun s h => mx (auI mv le s h) (nI (fi s))) (sz - k) k h) := by
  intro n
  induction n with
  | zero => intro k h _ e; omega
  | succ n ih =>
    intro k h hk hn
    rw [itr_s, f_Mo_digest_L32, h0]
    rcases Nat.lt_or_ge k sz with z | z
    · rw [if_neg (nI_ge z (by omega)), show (0 : Int32) = nI 0 from rfl, s_dg_L44 h3 h1 (by omega) hv FU 0 h (Nat.zero_le _) (by rw [FU_eq]; omega), show (26 : Int32) = nI 26 from rfl, nI_add, gIn_nI (by omega) (by omega), nI_clamp (by omega), hf k (by omega), s_mixes, bd1_s]
      simp only [bnd_eq]
      rw [show nI k + 1 = nI (k + 1) from nI_1 k, ih (k + 1) _ (by omega) (by omega), itN_s _ h z]
      rfl
    · rw [if_pos (nI_le z (by omega)), itN_z _ h z, show k = sz by omega]
theorem s_dg_L236 {le s szh : Nat} {mv : Nat → Nat} (h3 : le ≤ 3) (h40 : szh ≤ 40) (h1 : m 1 = nI le) (hs : s < szh) (hv : rIm 361 szh le mv m) : ∀ (n k : Nat) (h : Int64), k ≤ le → le - k < n → itr (fun _ _ => none) (f_Mo_digest_L236 m (nI s) K) n (nI k) h = K (nI le) (itN (fun a h => mx h (nI (mv (3 * s + a)))) (le - k) k h) := by
  intro n
  induction n with
  | zero => intro k h _ e; omega
  | succ n ih =>
    intro k h hk hn
    rw [itr_s, f_Mo_digest_L236, h1]
    rcases Nat.lt_or_ge k le with z | z
    · rw [if_neg (nI_ge z (by omega)), show (361 : Int32) = nI 361 from rfl, ix3o, gIn_nI (by omega) (by omega), nI_clamp (by omega), hv s k hs z, s_mixes, bd1_s]
      simp only [bnd_eq]
      rw [show nI k + 1 = nI (k + 1) from nI_1 k, ih (k + 1) _ (by omega) (by omega), itN_s _ h z]
    · rw [if_pos (nI_le z (by omega)), itN_z _ h z, show k = le by omega]
theorem s_dg_L223 {le szh : Nat} {mv fi : Nat → Nat} (h3 : le ≤ 3) (h40 : szh ≤ 40) (h0 : m 40 = nI szh) (h1 : m 1 = nI le) (hv : rIm 361 szh le mv m) (hf : rIo 481 szh fi m) : ∀ (n k : Nat) (h : Int64), k ≤ szh → szh - k < n → itr (fun _ _ => none) (f_Mo_digest_L223 m K) n (nI k) h = K (nI szh) (itN (fun s h => mx (auI mv le s h) (nI (fi s))) (szh - k) k h) := by
  intro n
  induction n with
  | zero => intro k h _ e; omega
  | succ n ih =>
    intro k h hk hn
    rw [itr_s, f_Mo_digest_L223, h0]
    rcases Nat.lt_or_ge k szh with z | z
    · rw [if_neg (nI_ge z (by omega)), show (0 : Int32) = nI 0 from rfl, s_dg_L236 h3 h40 h1 z hv FU 0 h (Nat.zero_le _) (by rw [FU_eq]; omega), show (481 : Int32) = nI 481 from rfl, nI_add, gIn_nI (by omega) (by omega), nI_clamp (by omega), hf k z, s_mixes, bd1_s]
      simp only [bnd_eq]
      rw [show nI k + 1 = nI (k + 1) from nI_1 k, ih (k + 1) _ (by omega) (by omega), itN_s _ h z]
      rfl
    · rw [if_pos (nI_le z (by omega)), itN_z _ h z, show k = szh by omega]
theorem s_dg_L292 {u : Wrd} (h16 : u.length ≤ 16) (h44 : m 44 = nI u.length) (hl : ∀ i (h : i < u.length), m (345 + i) = nI u[i]) : ∀ (n k : Nat) (h : Int64), k ≤ u.length → u.length - k < n → itr (fun _ _ => none) (f_Mo_digest_L292 m K) n (nI k) h = K (nI u.length) (itN (fun i h => mx h (nI (u.getD i 0))) (u.length - k) k h) := by
  intro n
  induction n with
  | zero => intro k h _ e; omega
  | succ n ih =>
    intro k h hk hn
    rw [itr_s, f_Mo_digest_L292, h44]
    rcases Nat.lt_or_ge k u.length with z | z
    · rw [if_neg (nI_ge z (by omega)), show (345 : Int32) = nI 345 from rfl, nI_add, gIn_nI (by omega) (by omega), nI_clamp (by omega), hl k z, s_mixes, bd1_s]
      simp only [bnd_eq]
      rw [show nI k + 1 = nI (k + 1) from nI_1 k, ih (k + 1) _ (by omega) (by omega), itN_s _ h z, gD z]
    · rw [if_pos (nI_le z (by omega)), itN_z _ h z, show k = u.length by omega]
theorem s_dg_L325 {T : List Nat} {tx : Nat → Int32} (h16 : T.length ≤ 16) (hx : ∀ k (h : k < T.length), tx k = nI T[k]) : ∀ (n k : Nat) (h : Int64), k ≤ T.length → T.length - k < n → itr (fun _ _ => none) (f_Mo_digest_L325 (nI T.length) tx K) n (nI k) h = K (nI T.length) (itN (fun i h => mx h (nI (T.getD i 0))) (T.length - k) k h) := by
  intro n
  induction n with
  | zero => intro k h _ e; omega
  | succ n ih =>
    intro k h hk hn
    rw [itr_s, f_Mo_digest_L325]
    rcases Nat.lt_or_ge k T.length with z | z
    · rw [if_neg (nI_ge z (by omega)), gIn_nI (by omega) (by omega), nI_clamp (by omega), hx k z, s_mixes, bd1_s]
      simp only [bnd_eq]
      rw [show nI k + 1 = nI (k + 1) from nI_1 k, ih (k + 1) _ (by omega) (by omega), itN_s _ h z, gD z]
    · rw [if_pos (nI_le z (by omega)), itN_z _ h z, show k = T.length by omega]
end
theorem s_dt_L111 {T : List Nat} {tx : Nat → Int32} (h16 : T.length ≤ 16) (hx : ∀ k (h : k < T.length), tx k = nI T[k]) {K : Int64 → Int32 → Option (Int64 × (Nat → Int32) × (Nat → Int32) × (Nat → Int32) × (Nat → Int32) × (Nat → Int32) × Int32 × Int32)} : ∀ (n k : Nat) (h : Int64), k ≤ T.length → T.length - k < n → itr (fun _ _ => none) (f_TL_digest_L111 (nI T.length) tx K) n h (nI k) = K (itN (fun i h => mx h (nI (T.getD i 0))) (T.length - k) k h) (nI T.length) := by
  intro n
  induction n with
  | zero => intro k h _ e; omega
  | succ n ih =>
    intro k h hk hn
    rw [itr_s, f_TL_digest_L111]
    rcases Nat.lt_or_ge k T.length with z | z
    · rw [if_neg (nI_ge z (by omega)), gIn_nI (by omega) (by omega), nI_clamp (by omega), hx k z]
      simp only [bnd_eq]
      rw [show nI k + 1 = nI (k + 1) from nI_1 k, ih (k + 1) _ (by omega) (by omega), itN_s _ h z]
      show K (itN _ _ _ (mx h (nI T[k]))) _ = K (itN _ _ _ (mx h (nI (T.getD k 0)))) _
      rw [gD z]
    · rw [if_pos (nI_le z (by omega)), itN_z _ h z, show k = T.length by omega]

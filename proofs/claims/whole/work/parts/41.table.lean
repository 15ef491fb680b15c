/-! ===== the table: rows, gaps ===== -/
theorem s_l : ∀ n, n < 32 → ((nI n &&& 31).toBitVec.smod 32).toNat = n := by decide +kernel
def an (al : Wrd → Option Nat) (u : Wrd) : Nat := (al u).getD 0
/-- the row of a word as a number, its first j answers -/
def rv (al : Wrd → Option Nat) (S : List Wrd) (u : Wrd) : Nat → Nat
  | 0 => 0
  | j + 1 => rv al S u j + an al (u ++ S.getD j []) * 2 ^ j
def aok (al : Wrd → Option Nat) : Prop := ∀ u a, al u = some a → a ≤ 1
theorem an_le {al : Wrd → Option Nat} (h : aok al) (u : Wrd) : an al u ≤ 1 := by
  rw [an]
  cases e : al u with
  | none => simp
  | some a => simpa using h u a e
theorem rv_lt {al : Wrd → Option Nat} (h : aok al) (S : List Wrd) (u : Wrd) : ∀ j, rv al S u j < 2 ^ j
  | 0 => by rw [rv]; decide
  | j + 1 => by
    have h1 := rv_lt h S u j
    have h2 := an_le h (u ++ S.getD j [])
    have h3 := Nat.mul_le_mul_right (2 ^ j) h2
    rw [rv, Nat.pow_succ]
    omega
theorem rv_or {al : Wrd → Option Nat} (h : aok al) (S : List Wrd) (u : Wrd) {j : Nat} (hj : j < 20) {a : Nat} (ha : al (u ++ S.getD j []) = some a) : nI (rv al S u j) ||| (nI a <<< (nI j &&& 31)) = nI (rv al S u (j + 1)) := by
  have h1 := rv_lt h S u j
  have h2 := h _ _ ha
  have h3 : 2 ^ j ≤ 2 ^ 20 := Nat.pow_le_pow_right (by decide) (by omega)
  have h4 := Nat.mul_le_mul_right (2 ^ j) h2
  rw [pk_shlN (nI j &&& 31) j (s_l j (by omega)) (by omega), fa_or, Nat.or_comm, Nat.mul_comm, ← Nat.two_pow_add_eq_or_of_lt h1, rv, an, ha, Option.getD_some, Nat.mul_comm a]
  congr 1
  omega
def sjoin (S : List Wrd) (u : Wrd) (j : Nat) : Wrd := u ++ S.getD j []
def fst' (p : Nat → Bool) (n : Nat) : Option Nat := (List.range n).find? p
theorem fst_some {p : Nat → Bool} {n r : Nat} (hr : r < n) (h : p r = true) (hn : ∀ j, j < r → p j = false) : fst' p n = some r := by
  rw [fst', List.find?_range_eq_some]
  exact ⟨h, List.mem_range.mpr hr, fun j hj => by simp [hn j hj]⟩
theorem fst_none {p : Nat → Bool} {n : Nat} (hn : ∀ j, j < n → p j = false) : fst' p n = none := by
  rw [fst', List.find?_eq_none]
  intro j hj
  simp [hn j (List.mem_range.mp hj)]
theorem fst_spec {p : Nat → Bool} {n r : Nat} (h : fst' p n = some r) : p r = true ∧ r < n ∧ ∀ j, j < r → p j = false := by
  rw [fst', List.find?_range_eq_some] at h
  exact ⟨h.1, List.mem_range.mp h.2.1, fun j hj => by simpa using h.2.2 j hj⟩
theorem fst_non {p : Nat → Bool} {n : Nat} (h : fst' p n = none) : ∀ j, j < n → p j = false := by
  rw [fst', List.find?_eq_none] at h
  intro j hj
  simpa using h j (List.mem_range.mpr hj)
/-- the first answer of a row that is wanting -/
def gj (al : Wrd → Option Nat) (S : List Wrd) (u : Wrd) : Option Nat := fst' (fun j => (al (sjoin S u j)).isNone) S.length
def gjn (al : Wrd → Option Nat) (S : List Wrd) (u : Wrd) : Nat := (gj al S u).getD S.length
def gw (al : Wrd → Option Nat) (S : List Wrd) (u : Wrd) : Option Wrd := (gj al S u).map (sjoin S u)
def wvX (o : Option Wrd) : Int64 := match o with | none => -1 | some w => lN (eX w)
def rOK (al : Wrd → Option Nat) (S : List Wrd) (u : Wrd) (kn bi : Int32) : Prop := ∃ j, j ≤ S.length ∧ kn = nI j ∧ bi = nI (rv al S u j) ∧ ∀ i, i < j → (al (sjoin S u i)).isSome = true
def rFull (al : Wrd → Option Nat) (S : List Wrd) (u : Wrd) (kn bi : Int32) : Prop := kn = nI S.length ∧ bi = nI (rv al S u S.length) ∧ ∀ i, i < S.length → (al (sjoin S u i)).isSome = true
theorem rFull.ok {al : Wrd → Option Nat} {S : List Wrd} {u : Wrd} {kn bi : Int32} (h : rFull al S u kn bi) : rOK al S u kn bi := ⟨S.length, Nat.le_refl _, h.1, h.2.1, h.2.2⟩
/-- words of a table that fit -/
def tok (le : Nat) (P S : List Wrd) : Prop := (∀ p ∈ P, wle le p) ∧ (∀ s ∈ S, wle le s) ∧ (∀ p ∈ P, ∀ s ∈ S, p.length + 1 + s.length ≤ 16) ∧ P.length ≤ 40 ∧ S.length ≤ 16 ∧ P[0]? = some [] ∧ S[0]? = some []
def rX (L : List Wrd) (v : Nat → Int64) : Prop := ∀ k (h : k < L.length), v k = lN (eX L[k])
def rMo (b : Nat) (L : List Wrd) (w : Nat → Int64) : Prop := ∀ k (h : k < L.length), w (b + k) = lN (eM L[k])
theorem sjoin_lt {S : List Wrd} {u : Wrd} {j : Nat} (hj : j < S.length) : sjoin S u j = u ++ S[j] := by
  rw [sjoin, List.getD_eq_getElem?_getD, List.getElem?_eq_getElem hj]; rfl
theorem s_Ta_rowGap_loop {le n0 r : Nat} {al : Wrd → Option Nat} {S : List Wrd} {sw E : Nat → Int64} {u : Wrd} (hal : aok al) (hE : RQX al n0 E) (hn0 : n0 ≤ 300) (hle : le ≤ 3) (hu : wle le u) (hS : ∀ s ∈ S, wle le s) (hfit : ∀ s ∈ S, u.length + s.length ≤ 16) (hS16 : S.length ≤ 16) (hsw : rX S sw) (hr : r < 160) :
    ∀ (n j : Nat) (kn bi : Nat → Int32), j ≤ S.length → S.length - j < n → kn r = nI j → bi r = nI (rv al S u j) → (∀ i, i < j → (al (sjoin S u i)).isSome = true) →
      ∃ kn' bi', itr (fun _ _ _ => none) (f_Ta_rowGap_L8 (nI S.length) sw (nI n0) E (nI r) (lN (eX u)) (fun _ a b => some ((-1 : Int64), a, b))) n (nI j) kn bi = some (wvX (gw al S u), kn', bi') ∧ (∀ x, x ≠ r → kn' x = kn x ∧ bi' x = bi x) ∧ rOK al S u (kn' r) (bi' r) ∧ (gw al S u = none → rFull al S u (kn' r) (bi' r)) := by
  intro n
  induction n with
  | zero => intro j _ _ _ h; omega
  | succ n ih =>
    intro j kn bi hj hn hkn hbi hsome
    rw [itr_s, f_Ta_rowGap_L8]
    rcases Nat.lt_or_ge j S.length with c | c
    · have hs := hS _ (List.getElem_mem c)
      have hf := hfit _ (List.getElem_mem c)
      have hw : wle le (u ++ S[j]) := wle_app.mpr ⟨hu, hs⟩
      rw [if_neg (nI_ge c (by omega)), gIn_nI (by omega) (by omega), nI_clamp (by omega), hsw j c, s_Ws_join (wle_ok hu hle) (wle_ok hs hle) (by omega) (by omega), bd1_s, s_Qu_answerTo hE hn0 (wle_ok hw hle) (by rw [List.length_append]; omega), bd1_s]
      cases e : al (u ++ S[j]) with
      | none =>
        rw [ov, if_pos rfl]
        have hg : gj al S u = some j := fst_some c (by rw [sjoin_lt c, e]; rfl) (fun i hi => by have := hsome i hi; cases q : al (sjoin S u i) with
          | none => rw [q] at this; cases this
          | some a => rfl)
        have hgw : gw al S u = some (u ++ S[j]) := by rw [gw, hg, Option.map_some, sjoin_lt c]
        rw [hgw]
        exact ⟨kn, bi, rfl, fun _ _ => ⟨rfl, rfl⟩, ⟨j, hj, hkn, hbi, hsome⟩, fun h => by cases h⟩
      | some a =>
        have ha := hal _ _ e
        rw [ov, if_neg (by rw [show (-1 : Int32) = mI 1 from rfl, nm_eq (by omega) (by omega) (by omega)]; exact id), gIn_nI hr (by omega), gIn_nI hr (by omega), bnd_eq, gIn_nI hr (by omega), bnd_eq, bnd_eq, nI_clamp (by omega), show nI j + (1 : Int32) = nI (j + 1) from nI_1 j, hbi, rv_or hal S u (by omega) (by rw [← sjoin, sjoin_lt c]; exact e)]
        obtain ⟨kn', bi', h1, h2, h3, h4⟩ := ih (j + 1) (upd kn r (nI (j + 1))) (upd bi r (nI (rv al S u (j + 1)))) c (by omega) pk_us pk_us (fun i hi => by
          rcases Nat.lt_or_ge i j with z | z
          · exact hsome i z
          · have : i = j := by omega
            subst this
            rw [sjoin_lt c, e]; rfl)
        refine ⟨kn', bi', h1, fun x hx => ?_, h3, h4⟩
        rw [(h2 x hx).1, (h2 x hx).2, pk_un hx, pk_un hx]
        exact ⟨rfl, rfl⟩
    · have : j = S.length := by omega
      subst this
      have hg : gj al S u = none := fst_none (fun i hi => by have := hsome i hi; cases q : al (sjoin S u i) with
          | none => rw [q] at this; cases this
          | some a => rfl)
      have hgw : gw al S u = none := by rw [gw, hg]; rfl
      rw [if_pos (nI_le (Nat.le_refl _) (by omega)), hgw]
      exact ⟨kn, bi, rfl, fun _ _ => ⟨rfl, rfl⟩, ⟨S.length, Nat.le_refl _, hkn, hbi, hsome⟩, fun _ => ⟨hkn, hbi, hsome⟩⟩
theorem s_Ta_rowGap {le n0 r : Nat} {al : Wrd → Option Nat} {S : List Wrd} {sw E : Nat → Int64} {u : Wrd} (hal : aok al) (hE : RQX al n0 E) (hn0 : n0 ≤ 300) (hle : le ≤ 3) (hu : wle le u) (hS : ∀ s ∈ S, wle le s) (hfit : ∀ s ∈ S, u.length + s.length ≤ 16) (hS16 : S.length ≤ 16) (hsw : rX S sw) (hr : r < 160) {kn bi : Nat → Int32} (hok : rOK al S u (kn r) (bi r)) :
    ∃ kn' bi', f_Ta_rowGap (nI r) (lN (eX u)) (nI S.length) sw kn bi (nI n0) E = some (wvX (gw al S u), kn', bi') ∧ (∀ x, x ≠ r → kn' x = kn x ∧ bi' x = bi x) ∧ rOK al S u (kn' r) (bi' r) ∧ (gw al S u = none → rFull al S u (kn' r) (bi' r)) := by
  obtain ⟨j, h1, h2, h3, h4⟩ := hok
  rw [f_Ta_rowGap, gIn_nI hr (by omega), bnd_eq, nI_clamp (by omega), h2]
  exact s_Ta_rowGap_loop hal hE hn0 hle hu hS hfit hS16 hsw hr FU j kn bi h1 (by rw [FU_eq]; omega) h2 h3 h4
/-! all rows in their order -/
def pw (P : List Wrd) (k : Nat) : Wrd := P.getD k []
def twf (P : List Wrd) (le r : Nat) : Wrd := if r < P.length then pw P r else pw P ((r - P.length) / le) ++ [(r - P.length) % le]
def gapR (al : Wrd → Option Nat) (P S : List Wrd) (le : Nat) : Option Nat := fst' (fun r => (gw al S (twf P le r)).isSome) (P.length * (1 + le))
def gap (al : Wrd → Option Nat) (P S : List Wrd) (le : Nat) : Option Wrd := (gapR al P S le).bind (fun r => gw al S (twf P le r))
def cch (al : Wrd → Option Nat) (P S : List Wrd) (le : Nat) (kn bi : Nat → Int32) : Prop := (∀ k, k < P.length → rOK al S (pw P k) (kn (4 * k)) (bi (4 * k))) ∧ (∀ k a, k < P.length → a < le → rOK al S (pw P k ++ [a]) (kn (4 * k + 1 + a)) (bi (4 * k + 1 + a))) ∧ (∀ r, r < 160 → (P.length ≤ r / 4) → kn r = 0 ∧ bi r = 0)
theorem pw_mem {P : List Wrd} {k : Nat} (h : k < P.length) : pw P k ∈ P := by
  rw [pw, List.getD_eq_getElem?_getD, List.getElem?_eq_getElem h]; exact List.getElem_mem h
theorem pw_eq {P : List Wrd} {k : Nat} (h : k < P.length) : pw P k = P[k] := by
  rw [pw, List.getD_eq_getElem?_getD, List.getElem?_eq_getElem h]; rfl
theorem gap_some {al : Wrd → Option Nat} {P S : List Wrd} {le r : Nat} {w : Wrd} (hr : r < P.length * (1 + le)) (h : gw al S (twf P le r) = some w) (hn : ∀ j, j < r → gw al S (twf P le j) = none) : gap al P S le = some w := by
  rw [gap, gapR, fst_some hr (by rw [h]; rfl) (fun j hj => by rw [hn j hj]; rfl)]
  exact h
theorem gap_none {al : Wrd → Option Nat} {P S : List Wrd} {le : Nat} (hn : ∀ j, j < P.length * (1 + le) → gw al S (twf P le j) = none) : gap al P S le = none := by
  rw [gap, gapR, fst_none (fun j hj => by rw [hn j hj]; rfl)]
  rfl
theorem twf_p {P : List Wrd} {le k : Nat} (h : k < P.length) : twf P le k = pw P k := if_pos h
theorem twf_e {P : List Wrd} {le k a : Nat} (ha : a < le) : twf P le (P.length + (k * le + a)) = pw P k ++ [a] := by
  have hle : 0 < le := by omega
  rw [twf, if_neg (by omega), show P.length + (k * le + a) - P.length = k * le + a by omega, show (k * le + a) / le = k by rw [Nat.mul_comm, Nat.mul_add_div hle, Nat.div_eq_of_lt ha]; rfl, show (k * le + a) % le = a by rw [Nat.mul_comm, Nat.mul_add_mod, Nat.mod_eq_of_lt ha]]
theorem wvX_some (w : Wrd) (h : eX w < 2 ^ 63) : ¬ wvX (some w) = (-1 : Int64) := lN_m1 h
theorem gw_ok {al : Wrd → Option Nat} {S : List Wrd} {u w : Wrd} {le : Nat} (hu : wle le u) (hS : ∀ s ∈ S, wle le s) (hfit : ∀ s ∈ S, u.length + s.length ≤ 16) (h : gw al S u = some w) : wle le w ∧ w.length ≤ 16 ∧ al w = none := by
  rw [gw, Option.map_eq_some_iff] at h
  obtain ⟨j, h1, rfl⟩ := h
  obtain ⟨h2, h3, -⟩ := fst_spec h1
  rw [sjoin_lt h3] at h2 ⊢
  refine ⟨wle_app.mpr ⟨hu, hS _ (List.getElem_mem h3)⟩, ?_, Option.isNone_iff_eq_none.mp h2⟩
  have := hfit _ (List.getElem_mem h3)
  rw [List.length_append]
  omega

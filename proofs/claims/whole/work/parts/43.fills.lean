/-! ===== the reference fills its rows; open rows on both sides ===== -/
def tabM (le : Nat) (P S : List Wrd) (m : Nat → Int32) (w : Nat → Int64) : Prop := m 1 = nI le ∧ m 38 = nI P.length ∧ m 39 = nI S.length ∧ rMo 304 P w ∧ rMo 344 S w
theorem s_Mo_wordOf {le : Nat} {P S : List Wrd} {m : Nat → Int32} {w : Nat → Int64} (hT : tok le P S) (hM : tabM le P S m w) (hle : 0 < le) (h3 : le ≤ 3) {r : Nat} (hr : r < P.length * (1 + le)) : f_Mo_wordOf (nI r) m w = some (lN (eM (twf P le r))) := by
  obtain ⟨h1, h2, -, h4, -⟩ := hM
  have h40 := hT.2.2.2.1
  have hN : P.length * (1 + le) ≤ 160 := by have := Nat.mul_le_mul h40 (show 1 + le ≤ 4 by omega); omega
  rw [f_Mo_wordOf, bnd_eq, h2, h1]
  rcases ix_split hle hr with z | ⟨k, a, k1, k2, rfl⟩
  · rw [if_neg (Int32.not_le.mpr (pk_sneg (by omega) z)), show (304 : Int32) + nI r = nI (304 + r) from nI_add 304 r, gIn_nI (by omega) (by omega), nI_clamp (by omega), h4 r z, twf_p z, pw_eq z]
  · have hkl : k * le + a < 160 := by omega
    rw [pk_sub (by omega), show P.length + (k * le + a) - P.length = k * le + a by omega, if_pos (nI_pos' (by omega)), gNz_nI hle (by omega), gNz_nI hle (by omega), pk_rem (by omega) hle (by omega), pk_div (by omega) hle (by omega), show (k * le + a) / le = k by rw [Nat.mul_comm, Nat.mul_add_div hle, Nat.div_eq_of_lt k2]; rfl, show (k * le + a) % le = a by rw [Nat.mul_comm, Nat.mul_add_mod, Nat.mod_eq_of_lt k2], show (304 : Int32) + nI k = nI (304 + k) from nI_add 304 k, gIn_nI (by omega) (by omega), nI_clamp (by omega), h4 k k1, s_Mo_longer' (by omega), bd1_s, twf_e k2, pw_eq k1]
theorem s_Mo_fills_L31 {le n0 r : Nat} {al : Wrd → Option Nat} {P S : List Wrd} {m : Nat → Int32} {w : Nat → Int64} (hT : tok le P S) (hal : aok al) (hM : tabM le P S m w) (hQ : RQM al n0 m w) (hn0 : n0 ≤ 300) (hle : 0 < le) (h3 : le ≤ 3) (hr : r < P.length * (1 + le)) {K : Int32 → (Nat → Int32) → Option (Int32 × (Nat → Int32) × Int64)} :
    ∀ (n j : Nat) (row : Nat → Int32), j ≤ S.length → S.length - j < n → row r = nI (rv al S (twf P le r) j) → (∀ i, i < j → (al (sjoin S (twf P le r) i)).isSome = true) →
      ∃ row', (∀ x, x ≠ r → row' x = row x) ∧ (gw al S (twf P le r) = none → row' r = nI (rv al S (twf P le r) S.length)) ∧ itr (fun _ _ => none) (f_Mo_fills_L31 m w (nI r) K) n (nI j) row = match gw al S (twf P le r) with
        | none => K (nI S.length) row'
        | some u => some ((0 : Int32), row', lN (eM u)) := by
  have h16 := hT.2.2.2.2.1
  have h40 := hT.2.2.2.1
  have hN : P.length * (1 + le) ≤ 160 := by have := Nat.mul_le_mul h40 (show 1 + le ≤ 4 by omega); omega
  obtain ⟨t1, t2⟩ := twf_ok hT hle hr
  intro n
  induction n with
  | zero => intro j _ _ h; omega
  | succ n ih =>
    intro j row hj hn hrow hsome
    rw [itr_s, f_Mo_fills_L31, hM.2.2.1]
    rcases Nat.lt_or_ge j S.length with c | c
    · have hs := hT.2.1 _ (List.getElem_mem c)
      have hf := t2 _ (List.getElem_mem c)
      have hw : wle le (twf P le r ++ S[j]) := wle_app.mpr ⟨t1, hs⟩
      rw [if_neg (nI_ge c (by omega)), s_Mo_wordOf hT hM hle h3 hr, bd1_s, show (344 : Int32) + nI j = nI (344 + j) from nI_add 344 j, gIn_nI (by omega) (by omega), nI_clamp (by omega), hM.2.2.2.2 j c, s_Mo_joined (wle_ok t1 h3) (wle_ok hs h3) (by omega), bd1_s, s_Mo_known hQ hn0 (wle_ok hw h3) (by rw [List.length_append]; omega), bd1_s]
      cases e : al (twf P le r ++ S[j]) with
      | none =>
        rw [ov, if_pos rfl]
        have hg : gj al S (twf P le r) = some j := fst_some c (by rw [sjoin_lt c, e]; rfl) (fun i hi => by have := hsome i hi; cases q : al (sjoin S (twf P le r) i) with
          | none => rw [q] at this; cases this
          | some a => rfl)
        have hgw : gw al S (twf P le r) = some (twf P le r ++ S[j]) := by rw [gw, hg, Option.map_some, sjoin_lt c]
        rw [hgw]
        exact ⟨row, fun _ _ => rfl, (fun h => by cases h), rfl⟩
      | some a =>
        have ha := hal _ _ e
        rw [ov, if_neg (by rw [show (-1 : Int32) = mI 1 from rfl, nm_eq (by omega) (by omega) (by omega)]; exact id), gIn_nI (by omega) (by omega), gIn_nI (by omega) (by omega), bnd_eq, bnd_eq, nI_clamp (by omega), show nI j + 1 = nI (j + 1) from nI_1 j, hrow, rv_or hal S (twf P le r) (by omega) (by rw [← sjoin, sjoin_lt c]; exact e)]
        obtain ⟨row', h1, h4, h2⟩ := ih (j + 1) (upd row r (nI (rv al S (twf P le r) (j + 1)))) c (by omega) pk_us (fun i hi => by
          rcases Nat.lt_or_ge i j with z | z
          · exact hsome i z
          · have : i = j := by omega
            subst this
            rw [sjoin_lt c, e]; rfl)
        exact ⟨row', fun x hx => by rw [h1 x hx, pk_un hx], h4, h2⟩
    · have : j = S.length := by omega
      subst this
      have hg : gj al S (twf P le r) = none := fst_none (fun i hi => by have := hsome i hi; cases q : al (sjoin S (twf P le r) i) with
          | none => rw [q] at this; cases this
          | some a => rfl)
      have hgw : gw al S (twf P le r) = none := by rw [gw, hg]; rfl
      rw [if_pos (nI_le (Nat.le_refl _) (by omega)), hgw]
      exact ⟨row, fun _ _ => rfl, fun _ => hrow, rfl⟩
/-- the reference's rows are filled -/
def rowsM (al : Wrd → Option Nat) (P S : List Wrd) (le n : Nat) (row : Nat → Int32) : Prop := ∀ r, r < n → gw al S (twf P le r) = none ∧ row r = nI (rv al S (twf P le r) S.length)
theorem s_Mo_fills_L2 {le n0 : Nat} {al : Wrd → Option Nat} {P S : List Wrd} {m : Nat → Int32} {w : Nat → Int64} {mis : Int64} (hT : tok le P S) (hal : aok al) (hM : tabM le P S m w) (hQ : RQM al n0 m w) (hn0 : n0 ≤ 300) (hle : 0 < le) (h3 : le ≤ 3) :
    ∀ (n r : Nat) (row : Nat → Int32), r ≤ P.length * (1 + le) → P.length * (1 + le) - r < n → rowsM al P S le r row →
      ∃ row' mis', itr (fun _ _ => none) (f_Mo_fills_L2 m w (fun _ v => some ((1 : Int32), v, mis))) n (nI r) row = some ((if (gap al P S le).isNone then 1 else 0), row', mis') ∧ (gap al P S le = none → rowsM al P S le (P.length * (1 + le)) row') ∧ (∀ u, gap al P S le = some u → mis' = lN (eM u)) := by
  have h40 := hT.2.2.2.1
  have hN : P.length * (1 + le) ≤ 160 := by have := Nat.mul_le_mul h40 (show 1 + le ≤ 4 by omega); omega
  intro n
  induction n with
  | zero => intro r _ _ h; omega
  | succ n ih =>
    intro r row hr hn hrows
    rw [itr_s, f_Mo_fills_L2, hM.2.1, hM.1, show (1 : Int32) + nI le = nI (1 + le) from nI_add 1 le, pk_mul]
    rcases Nat.lt_or_ge r (P.length * (1 + le)) with c | c
    · rw [if_neg (nI_ge c (by omega)), gIn_nI (by omega) (by omega), bnd_eq, nI_clamp (by omega)]
      obtain ⟨row', h1, h4, h2⟩ := s_Mo_fills_L31 hT hal hM hQ hn0 hle h3 c (K := fun x2 v_row_2 => (bnd (nI r + 1) (fun x1_1 => (itr (fun _ _ => none) (f_Mo_fills_L2 m w (fun _ v => some ((1 : Int32), v, mis))) n x1_1 v_row_2)))) FU 0 (upd row r 0) (Nat.zero_le _) (by rw [FU_eq]; have := hT.2.2.2.2.1; omega) (by rw [pk_us]; rfl) (fun i hi => absurd hi (Nat.not_lt_zero _))
      rw [nI_0] at h2
      rw [h2]
      cases q : gw al S (twf P le r) with
      | none =>
        simp only
        rw [bnd_eq, show nI r + 1 = nI (r + 1) from nI_1 r]
        refine ih (r + 1) row' c (by omega) (fun x hx => ?_)
        rcases Nat.lt_or_ge x r with z | z
        · rw [h1 x (by omega), pk_un (by omega)]
          exact hrows x z
        · have : x = r := by omega
          subst this
          exact ⟨q, h4 q⟩
      | some u =>
        have hg := gap_some c q (fun j hj => (hrows j hj).1)
        rw [hg]
        exact ⟨row', _, rfl, (fun h => by cases h), (fun u' h => by cases h; rfl)⟩
    · have : r = P.length * (1 + le) := by omega
      subst this
      have hg := gap_none (al := al) (P := P) (S := S) (le := le) (fun j hj => (hrows j hj).1)
      rw [if_pos (nI_le (Nat.le_refl _) (by omega)), hg]
      exact ⟨row, mis, rfl, fun _ => hrows, (fun u h => by cases h)⟩
theorem s_Mo_fills {le n0 : Nat} {al : Wrd → Option Nat} {P S : List Wrd} {m : Nat → Int32} {w : Nat → Int64} (hT : tok le P S) (hal : aok al) (hM : tabM le P S m w) (hQ : RQM al n0 m w) (hn0 : n0 ≤ 300) (hle : 0 < le) (h3 : le ≤ 3) (mis : Int64) (row : Nat → Int32) :
    ∃ row' mis', f_Mo_fills mis m w row = some ((if (gap al P S le).isNone then 1 else 0), row', mis') ∧ (gap al P S le = none → rowsM al P S le (P.length * (1 + le)) row') ∧ (∀ u, gap al P S le = some u → mis' = lN (eM u)) := by
  have hN : P.length * (1 + le) ≤ 160 := by have := Nat.mul_le_mul hT.2.2.2.1 (show 1 + le ≤ 4 by omega); omega
  exact s_Mo_fills_L2 hT hal hM hQ hn0 hle h3 FU 0 row (Nat.zero_le _) (by rw [FU_eq]; omega) (fun r hr => absurd hr (Nat.not_lt_zero _))
/-! a row among those of the prefixes -/
def Rw (al : Wrd → Option Nat) (S : List Wrd) (u : Wrd) : Nat := rv al S u S.length
theorem Rw_lt {al : Wrd → Option Nat} (h : aok al) {S : List Wrd} (hS : S.length ≤ 16) (u : Wrd) : Rw al S u < 65536 := by
  have h1 := rv_lt h S u S.length
  have h2 : 2 ^ S.length ≤ 2 ^ 16 := Nat.pow_le_pow_right (by decide) hS
  rw [Rw]
  omega
def prf (al : Wrd → Option Nat) (P S : List Wrd) (v : Nat) : Option Nat := fst' (fun k => Rw al S (pw P k) == v) P.length
theorem prf_at {al : Wrd → Option Nat} {P S : List Wrd} {k : Nat} (hk : k < P.length) : ∃ j, prf al P S (Rw al S (pw P k)) = some j ∧ j ≤ k := by
  cases h : prf al P S (Rw al S (pw P k)) with
  | none => have := fst_non h k hk; simp at this
  | some j =>
    refine ⟨j, rfl, ?_⟩
    rcases Nat.lt_or_ge k j with z | z
    · have := (fst_spec h).2.2 k z; simp at this
    · exact z
theorem s_Ta_isPrefixRow_loop {al : Wrd → Option Nat} {P S : List Wrd} {bi : Nat → Int32} (hal : aok al) (h40 : P.length ≤ 40) (hS : S.length ≤ 16) (hb : ∀ k, k < P.length → bi (4 * k) = nI (Rw al S (pw P k))) {v : Nat} (hv : v < 65536) :
    ∀ (n k : Nat), k ≤ P.length → P.length - k < n → (∀ j, j < k → Rw al S (pw P j) ≠ v) → itr (fun _ => none) (f_Ta_isPrefixRow_L2 (nI P.length) bi (nI v) (fun _ => some (0 : Int32))) n (nI k) = some (if (prf al P S v).isSome then 1 else 0) := by
  intro n
  induction n with
  | zero => intro k _ h; omega
  | succ n ih =>
    intro k hk hn hno
    rw [itr_s, f_Ta_isPrefixRow_L2]
    rcases Nat.lt_or_ge k P.length with c | c
    · rw [if_neg (nI_ge c (by omega)), f_Ta_prefixRow, bd1_s, show nI k * (4 : Int32) = nI (4 * k) by rw [show nI k * (4 : Int32) = nI (k * 4) from pk_mul k 4, Nat.mul_comm], gIn_nI (by omega) (by omega), nI_clamp (by omega), hb k c]
      have hlt := Rw_lt hal hS (pw P k)
      by_cases e : Rw al S (pw P k) = v
      · rw [if_pos (by rw [e]), prf, fst_some c (by simpa using e) (fun j hj => by simpa using hno j hj)]
        rfl
      · rw [if_neg (fun q => e ((nI_eq (by omega) (by omega)).mp q)), bnd_eq, show nI k + 1 = nI (k + 1) from nI_1 k]
        refine ih (k + 1) c (by omega) (fun j hj => ?_)
        rcases Nat.lt_or_ge j k with z | z
        · exact hno j z
        · have : j = k := by omega
          subst this; exact e
    · have : k = P.length := by omega
      subst this
      rw [if_pos (nI_le (Nat.le_refl _) (by omega)), prf, fst_none (fun j hj => by simpa using hno j hj)]
      rfl
theorem s_Ta_isPrefixRow {al : Wrd → Option Nat} {P S : List Wrd} {bi : Nat → Int32} (hal : aok al) (h40 : P.length ≤ 40) (hS : S.length ≤ 16) (hb : ∀ k, k < P.length → bi (4 * k) = nI (Rw al S (pw P k))) {v : Nat} (hv : v < 65536) : f_Ta_isPrefixRow (nI v) (nI P.length) bi = some (if (prf al P S v).isSome then 1 else 0) :=
  s_Ta_isPrefixRow_loop hal h40 hS hb hv FU 0 (Nat.zero_le _) (by rw [FU_eq]; omega) (fun j h => absurd h (Nat.not_lt_zero _))
theorem s_Mo_rowOfPrefix_loop {al : Wrd → Option Nat} {P S : List Wrd} {m row : Nat → Int32} (hal : aok al) (h40 : P.length ≤ 40) (hS : S.length ≤ 16) (hm : m 38 = nI P.length) (hb : ∀ k, k < P.length → row k = nI (Rw al S (pw P k))) {v : Nat} (hv : v < 65536) :
    ∀ (n k : Nat), k ≤ P.length → P.length - k < n → (∀ j, j < k → Rw al S (pw P j) ≠ v) → itr (fun _ => none) (f_Mo_rowOfPrefix_L2 m row (nI v) (fun _ => some (-1 : Int32))) n (nI k) = some (ov (prf al P S v)) := by
  intro n
  induction n with
  | zero => intro k _ h; omega
  | succ n ih =>
    intro k hk hn hno
    rw [itr_s, f_Mo_rowOfPrefix_L2, hm]
    rcases Nat.lt_or_ge k P.length with c | c
    · rw [if_neg (nI_ge c (by omega)), gIn_nI (by omega) (by omega), nI_clamp (by omega), hb k c]
      have hlt := Rw_lt hal hS (pw P k)
      by_cases e : Rw al S (pw P k) = v
      · rw [if_pos (by rw [e]), prf, fst_some c (by simpa using e) (fun j hj => by simpa using hno j hj)]
        rfl
      · rw [if_neg (fun q => e ((nI_eq (by omega) (by omega)).mp q)), bnd_eq, show nI k + 1 = nI (k + 1) from nI_1 k]
        refine ih (k + 1) c (by omega) (fun j hj => ?_)
        rcases Nat.lt_or_ge j k with z | z
        · exact hno j z
        · have : j = k := by omega
          subst this; exact e
    · have : k = P.length := by omega
      subst this
      rw [if_pos (nI_le (Nat.le_refl _) (by omega)), prf, fst_none (fun j hj => by simpa using hno j hj)]
      rfl
theorem s_Mo_rowOfPrefix {al : Wrd → Option Nat} {P S : List Wrd} {m row : Nat → Int32} (hal : aok al) (h40 : P.length ≤ 40) (hS : S.length ≤ 16) (hm : m 38 = nI P.length) (hb : ∀ k, k < P.length → row k = nI (Rw al S (pw P k))) {v : Nat} (hv : v < 65536) : f_Mo_rowOfPrefix (nI v) m row = some (ov (prf al P S v)) :=
  s_Mo_rowOfPrefix_loop hal h40 hS hm hb hv FU 0 (Nat.zero_le _) (by rw [FU_eq]; omega) (fun j h => absurd h (Nat.not_lt_zero _))
/-- the first extension whose row is that of no prefix -/
def opn (al : Wrd → Option Nat) (P S : List Wrd) (le : Nat) : Option Nat := fst' (fun i => (prf al P S (Rw al S (twf P le (P.length + i)))).isNone) (P.length * le)
/-- the class's rows, when all are full -/
def bitsX (al : Wrd → Option Nat) (P S : List Wrd) (le : Nat) (bi : Nat → Int32) : Prop := (∀ k, k < P.length → bi (4 * k) = nI (Rw al S (pw P k))) ∧ ∀ k a, k < P.length → a < le → bi (4 * k + 1 + a) = nI (Rw al S (pw P k ++ [a]))
theorem FLr_bits {al : Wrd → Option Nat} {P S : List Wrd} {le : Nat} {kn bi : Nat → Int32} (h : FLr al P S le (P.length * (1 + le)) kn bi) : bitsX al P S le bi := by
  refine ⟨fun k hk => ?_, fun k a hk ha => ?_⟩
  · have := (h k (Nat.lt_of_lt_of_le hk (Nat.le_mul_of_pos_right _ (by omega)))).2.2.1
    rw [rix_p hk, twf_p hk] at this
    exact this
  · have := (h (P.length + (k * le + a)) (kl_lt hk ha)).2.2.1
    rw [rix_e ha, twf_e ha] at this
    exact this
theorem ext_row (k a : Nat) : nI k * (4 : Int32) + (1 : Int32) + nI a = nI (4 * k + 1 + a) := by
  rw [show nI k * (4 : Int32) = nI (k * 4) from pk_mul k 4, show nI (k * 4) + (1 : Int32) = nI (k * 4 + 1) from nI_1 _, nI_add, Nat.mul_comm k 4]
theorem s_Ta_fo_inner {le : Nat} {al : Wrd → Option Nat} {P S : List Wrd} {pv : Nat → Int64} {bi : Nat → Int32} (hT : tok le P S) (hal : aok al) (h3 : le ≤ 3) (hpv : rX P pv) (hb : bitsX al P S le bi) {k : Nat} (hk : k < P.length) {K : Int32 → Option Int64} {R : Option Int64} (hK : ∀ x, K x = R) :
    ∀ (n a : Nat), a ≤ le → le - a < n → (∀ i, i < k * le + a → (prf al P S (Rw al S (twf P le (P.length + i)))).isNone = false) → itr (fun _ => none) (f_Ta_firstOpen_L15 (nI le) (nI P.length) pv bi (nI k) K) n (nI a) = (if ∃ i, opn al P S le = some i ∧ i < (k + 1) * le then some (wvX ((opn al P S le).map (fun i => twf P le (P.length + i)))) else R) := by
  have h40 := hT.2.2.2.1
  have h16 := hT.2.2.2.2.1
  intro n
  induction n with
  | zero => intro a _ h; omega
  | succ n ih =>
    intro a ha hn hno
    rw [itr_s, f_Ta_firstOpen_L15]
    rcases Nat.lt_or_ge a le with c | c
    · rw [if_neg (nI_ge c (by omega)), f_Ta_extensionRow, bd1_s, ext_row, gIn_nI (by omega) (by omega), nI_clamp (by omega), hb.2 k a hk c, s_Ta_isPrefixRow hal h40 h16 hb.1 (Rw_lt hal h16 _), bd1_s]
      have hidx : k * le + a < P.length * le := by
        have := Nat.mul_le_mul_right le (show k + 1 ≤ P.length by omega)
        rw [Nat.add_mul] at this
        omega
      cases q : prf al P S (Rw al S (pw P k ++ [a])) with
      | none =>
        have ho : opn al P S le = some (k * le + a) := fst_some hidx (by rw [twf_e c, q]; rfl) hno
        have hpl := hT.2.2.1 _ (pw_mem hk) [] (List.mem_of_getElem? hT.2.2.2.2.2.2)
        rw [List.length_nil] at hpl
        rw [if_pos (show (if (none : Option Nat).isSome = true then (1 : Int32) else 0) = 0 from rfl), gIn_nI (by omega) (by omega), nI_clamp (by omega), hpv k hk, ← pw_eq hk, s_Ws_append (wle_ok (hT.1 _ (pw_mem hk)) h3) (by omega) (by omega), bd1_s, if_pos ⟨k * le + a, ho, by rw [Nat.add_mul]; omega⟩, ho, Option.map_some, twf_e c]
        rfl
      | some j =>
        rw [if_neg (show ¬ (if (some j).isSome = true then (1 : Int32) else 0) = 0 from (by decide : ¬ (1 : Int32) = 0)), bnd_eq, show nI a + 1 = nI (a + 1) from nI_1 a]
        refine ih (a + 1) c (by omega) (fun i hi => ?_)
        rcases Nat.lt_or_ge i (k * le + a) with z | z
        · exact hno i z
        · have : i = k * le + a := by omega
          subst this
          rw [twf_e c, q]; rfl
    · have : a = le := by omega
      subst this
      rw [if_pos (nI_le (Nat.le_refl _) (by omega)), hK, if_neg]
      rintro ⟨i, h1, h2⟩
      have := hno i (by rw [Nat.add_mul] at h2; omega)
      rw [(fst_spec h1).1] at this
      cases this
theorem s_Ta_fo_outer {le : Nat} {al : Wrd → Option Nat} {P S : List Wrd} {pv : Nat → Int64} {bi : Nat → Int32} (hT : tok le P S) (hal : aok al) (h3 : le ≤ 3) (hpv : rX P pv) (hb : bitsX al P S le bi) :
    ∀ (n k : Nat), k ≤ P.length → P.length - k < n → (∀ i, i < k * le → (prf al P S (Rw al S (twf P le (P.length + i)))).isNone = false) → itr (fun _ => none) (f_Ta_firstOpen_L2 (nI le) (nI P.length) pv bi (fun _ => some (-1 : Int64))) n (nI k) = some (wvX ((opn al P S le).map (fun i => twf P le (P.length + i)))) := by
  have h40 := hT.2.2.2.1
  intro n
  induction n with
  | zero => intro k _ h; omega
  | succ n ih =>
    intro k hk hn hno
    rw [itr_s, f_Ta_firstOpen_L2]
    rcases Nat.lt_or_ge k P.length with c | c
    · rw [if_neg (nI_ge c (by omega))]
      have h1 := s_Ta_fo_inner hT hal h3 hpv hb c (K := fun x2 => (bnd (nI k + 1) (fun x1_1 => (itr (fun _ => none) (f_Ta_firstOpen_L2 (nI le) (nI P.length) pv bi (fun _ => some (-1 : Int64))) n x1_1)))) (R := itr (fun _ => none) (f_Ta_firstOpen_L2 (nI le) (nI P.length) pv bi (fun _ => some (-1 : Int64))) n (nI k + 1)) (fun _ => rfl) FU 0 (Nat.zero_le _) (by rw [FU_eq]; omega) hno
      rw [nI_0] at h1
      rw [h1]
      by_cases q : ∃ i, opn al P S le = some i ∧ i < (k + 1) * le
      · rw [if_pos q]
      · rw [if_neg q, show nI k + 1 = nI (k + 1) from nI_1 k]
        refine ih (k + 1) c (by omega) (fun i hi => ?_)
        cases z : (prf al P S (Rw al S (twf P le (P.length + i)))).isNone with
        | false => rfl
        | true =>
          obtain ⟨j, hj1, hj2⟩ := pk_least (fun i => (prf al P S (Rw al S (twf P le (P.length + i)))).isNone = true) ⟨i, z⟩
          have hji : j ≤ i := by
            rcases Nat.lt_or_ge i j with y | y
            · exact absurd z (hj2 i y)
            · exact y
          refine absurd ⟨j, fst_some ?_ hj1 (fun l hl => by
            cases y : (prf al P S (Rw al S (twf P le (P.length + l)))).isNone with
            | false => rfl
            | true => exact absurd y (hj2 l hl)), by omega⟩ q
          have := Nat.mul_le_mul_right le (show k + 1 ≤ P.length by omega)
          omega
    · have : k = P.length := by omega
      subst this
      rw [if_pos (nI_le (Nat.le_refl _) (by omega)), opn, fst_none hno]
      rfl
theorem s_Ta_firstOpen {le : Nat} {al : Wrd → Option Nat} {P S : List Wrd} {pv : Nat → Int64} {bi : Nat → Int32} (hT : tok le P S) (hal : aok al) (h3 : le ≤ 3) (hpv : rX P pv) (hb : bitsX al P S le bi) : f_Ta_firstOpen (nI le) (nI P.length) pv bi = some (wvX ((opn al P S le).map (fun i => twf P le (P.length + i)))) :=
  s_Ta_fo_outer hT hal h3 hpv hb FU 0 (Nat.zero_le _) (by rw [FU_eq]; have := hT.2.2.2.1; omega) (fun i h => by rw [Nat.zero_mul] at h; omega)
theorem s_Mo_open_loop {le : Nat} {al : Wrd → Option Nat} {P S : List Wrd} {m row : Nat → Int32} (hT : tok le P S) (hal : aok al) (h3 : le ≤ 3) (hm1 : m 1 = nI le) (hm : m 38 = nI P.length) (hr : ∀ r, r < P.length * (1 + le) → row r = nI (Rw al S (twf P le r))) :
    ∀ (n i : Nat), i ≤ P.length * le → P.length * le - i < n → (∀ j, j < i → (prf al P S (Rw al S (twf P le (P.length + j)))).isNone = false) → itr (fun _ => none) (f_Mo_open_L8 m row (fun _ => some (-1 : Int32))) n (nI (P.length + i)) = some (ov ((opn al P S le).map (fun i => P.length + i))) := by
  have h40 := hT.2.2.2.1
  have h16 := hT.2.2.2.2.1
  have hN : P.length * (1 + le) ≤ 160 := by have := Nat.mul_le_mul h40 (show 1 + le ≤ 4 by omega); omega
  have hN2 : P.length * (1 + le) = P.length + P.length * le := by rw [Nat.mul_add, Nat.mul_one]
  have hb : ∀ k, k < P.length → row k = nI (Rw al S (pw P k)) := fun k hk => by rw [hr k (by omega), twf_p hk]
  intro n
  induction n with
  | zero => intro i _ h; omega
  | succ n ih =>
    intro i hi hn hno
    rw [itr_s, f_Mo_open_L8, hm, hm1, show (1 : Int32) + nI le = nI (1 + le) from nI_add 1 le, pk_mul]
    rcases Nat.lt_or_ge i (P.length * le) with c | c
    · rw [if_neg (nI_ge (by omega) (by omega)), gIn_nI (by omega) (by omega), nI_clamp (by omega), hr _ (by omega), s_Mo_rowOfPrefix hal h40 h16 hm hb (Rw_lt hal h16 _), bd1_s]
      cases q : prf al P S (Rw al S (twf P le (P.length + i))) with
      | none =>
        rw [ov, if_pos rfl, opn, fst_some c (by rw [q]; rfl) hno]
        rfl
      | some j =>
        have hj := (fst_spec q).2.1
        rw [ov, if_neg (by rw [show (-1 : Int32) = mI 1 from rfl, nm_eq (by omega) (by omega) (by omega)]; exact id), bnd_eq, show nI (P.length + i) + 1 = nI (P.length + (i + 1)) from nI_1 _]
        refine ih (i + 1) c (by omega) (fun l hl => ?_)
        rcases Nat.lt_or_ge l i with z | z
        · exact hno l z
        · have : l = i := by omega
          subst this
          rw [q]; rfl
    · have : i = P.length * le := by omega
      subst this
      rw [if_pos (nI_le (by omega) (by omega)), opn, fst_none hno]
      rfl
theorem s_Mo_open {le : Nat} {al : Wrd → Option Nat} {P S : List Wrd} {m row : Nat → Int32} (hT : tok le P S) (hal : aok al) (h3 : le ≤ 3) (hm1 : m 1 = nI le) (hm : m 38 = nI P.length) (hr : ∀ r, r < P.length * (1 + le) → row r = nI (Rw al S (twf P le r))) : f_Mo_open m row = some (ov ((opn al P S le).map (fun i => P.length + i))) := by
  have hN : P.length * le ≤ 120 := by have := Nat.mul_le_mul hT.2.2.2.1 h3; omega
  rw [f_Mo_open, bnd_eq, hm]
  exact s_Mo_open_loop hT hal h3 hm1 hm hr FU 0 (Nat.zero_le _) (by rw [FU_eq]; omega) (fun i h => absurd h (Nat.not_lt_zero _))

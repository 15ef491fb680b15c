/-! ===== forming a hypothesis, on both sides ===== -/
def isR (al : Wrd → Option Nat) (P S : List Wrd) (k : Nat) : Bool := prf al P S (Rw al S (pw P k)) == some k
/-- the representatives among the first n prefixes -/
def rps (al : Wrd → Option Nat) (P S : List Wrd) (n : Nat) : List Nat := (List.range n).filter (isR al P S)
def st (al : Wrd → Option Nat) (P S : List Wrd) (v : Nat) : Nat := (rps al P S ((prf al P S v).getD 0)).length
section
variable {al : Wrd → Option Nat} {P S : List Wrd}
theorem isR_iff {k : Nat} : isR al P S k = true ↔ prf al P S (Rw al S (pw P k)) = some k := by rw [isR]; exact beq_iff_eq
theorem rps_y {k : Nat} (h : isR al P S k = true) : rps al P S (k + 1) = rps al P S k ++ [k] := by
  rw [rps, List.range_succ, List.filter_append, ← rps]
  congr 1
  rw [List.filter_cons, if_pos h, List.filter_nil]
theorem rps_n {k : Nat} (h : ¬ isR al P S k = true) : rps al P S (k + 1) = rps al P S k := by
  rw [rps, List.range_succ, List.filter_append, ← rps, List.filter_cons, if_neg h, List.filter_nil, List.append_nil]
theorem rps_mem {n k : Nat} : k ∈ rps al P S n ↔ k < n ∧ isR al P S k = true := by rw [rps, List.mem_filter, List.mem_range]
theorem rps_le (n : Nat) : (rps al P S n).length ≤ n := by
  have := List.length_filter_le (isR al P S) (List.range n)
  rw [List.length_range] at this
  exact this
theorem rps_at {j : Nat} (hj : isR al P S j = true) : ∀ n, j < n → (rps al P S n)[(rps al P S j).length]? = some j
  | 0, h => absurd h (Nat.not_lt_zero _)
  | n + 1, h => by
    rcases Nat.lt_or_ge j n with z | z
    · have h1 := rps_at hj n z
      have h2 := (List.getElem?_eq_some_iff.mp h1).1
      by_cases q : isR al P S n = true
      · rw [rps_y q, List.getElem?_append_left h2, h1]
      · rw [rps_n q, h1]
    · have : j = n := by omega
      subst this
      rw [rps_y hj, List.getElem?_append_right (Nat.le_refl _), Nat.sub_self]
      rfl
theorem rps_ix : ∀ (n i : Nat) (h : i < (rps al P S n).length), (rps al P S (rps al P S n)[i]).length = i
  | 0, i, h => absurd h (Nat.not_lt_zero _)
  | n + 1, i, h => by
    by_cases q : isR al P S n = true
    · have e := rps_y q
      have hl : (rps al P S (n + 1)).length = (rps al P S n).length + 1 := by rw [e, List.length_append]; rfl
      rcases Nat.lt_or_ge i (rps al P S n).length with z | z
      · have : (rps al P S (n + 1))[i] = (rps al P S n)[i] := by simp only [e]; exact List.getElem_append_left z
        rw [this]
        exact rps_ix n i z
      · have hi : i = (rps al P S n).length := by omega
        have : (rps al P S (n + 1))[i] = n := by simp only [e]; rw [List.getElem_append_right z]; simp
        rw [this, hi]
    · have e := rps_n q
      have : (rps al P S (n + 1))[i] = (rps al P S n)[i]'(by rw [← e]; exact h) := by simp only [e]
      rw [this]
      exact rps_ix n i _
def rp (al : Wrd → Option Nat) (P S : List Wrd) (n j : Nat) : Nat := (rps al P S n).getD j 0
theorem rp_eq {n j : Nat} (h : j < (rps al P S n).length) : rp al P S n j = (rps al P S n)[j] := by rw [rp, List.getD_eq_getElem?_getD, List.getElem?_eq_getElem h, Option.getD_some]
theorem rp_mem {n j : Nat} (h : j < (rps al P S n).length) : rp al P S n j < n ∧ isR al P S (rp al P S n j) = true := by rw [rp_eq h]; exact rps_mem.mp (List.getElem_mem h)
theorem rp_y {k j : Nat} (h : isR al P S k = true) (hj : j < (rps al P S k).length) : rp al P S (k + 1) j = rp al P S k j := by rw [rp, rp, rps_y h, List.getD_eq_getElem?_getD, List.getElem?_append_left hj, ← List.getD_eq_getElem?_getD]
theorem rp_yk {k : Nat} (h : isR al P S k = true) : rp al P S (k + 1) (rps al P S k).length = k := by rw [rp, rps_y h, List.getD_eq_getElem?_getD, List.getElem?_append_right (Nat.le_refl _), Nat.sub_self]; rfl
theorem rp_n {k j : Nat} (h : ¬ isR al P S k = true) : rp al P S (k + 1) j = rp al P S k j := by rw [rp, rp, rps_n h]
/-- a row's state among the representatives of the first n prefixes -/
def sR (al : Wrd → Option Nat) (P S : List Wrd) (n v : Nat) : Option Nat := match prf al P S v with
  | none => none
  | some k => if k < n then some (rps al P S k).length else none
theorem prf_R {v k : Nat} (h : prf al P S v = some k) : k < P.length ∧ Rw al S (pw P k) = v ∧ isR al P S k = true := by
  obtain ⟨h1, h2, -⟩ := fst_spec h
  have h1 : Rw al S (pw P k) = v := by simpa using h1
  exact ⟨h2, h1, isR_iff.mpr (by rw [h1, h])⟩
theorem sR_full {v : Nat} (h : (prf al P S v).isSome = true) : sR al P S P.length v = some (st al P S v) := by
  cases e : prf al P S v with
  | none => rw [e] at h; cases h
  | some k => rw [sR, st, e]; simp only [Option.getD_some]; rw [if_pos (prf_R e).1]
theorem st_lt {v : Nat} (h : (prf al P S v).isSome = true) : st al P S v < (rps al P S P.length).length := by
  cases e : prf al P S v with
  | none => rw [e] at h; cases h
  | some k =>
    obtain ⟨h1, -, h3⟩ := prf_R e
    rw [st, e, Option.getD_some]
    exact (List.getElem?_eq_some_iff.mp (rps_at h3 _ h1)).1
theorem st_at {v : Nat} (h : (prf al P S v).isSome = true) : Rw al S (pw P (rp al P S P.length (st al P S v))) = v := by
  cases e : prf al P S v with
  | none => rw [e] at h; cases h
  | some k =>
    obtain ⟨h1, h2, h3⟩ := prf_R e
    rw [st, e, Option.getD_some, rp, List.getD_eq_getElem?_getD, rps_at h3 _ h1, Option.getD_some, h2]
theorem sR_own {k : Nat} (hk : k < P.length) : (isR al P S k = true → sR al P S k (Rw al S (pw P k)) = none) ∧ (¬ isR al P S k = true → ∃ j, sR al P S k (Rw al S (pw P k)) = some j ∧ j < P.length) := by
  obtain ⟨j, h1, h2⟩ := prf_at (al := al) (S := S) hk
  constructor
  · intro h
    rw [isR_iff] at h
    rw [sR, h]
    exact if_neg (Nat.lt_irrefl _)
  · intro h
    rw [isR_iff, h1] at h
    have : j ≠ k := fun q => h (by rw [q])
    refine ⟨(rps al P S j).length, ?_, ?_⟩
    · rw [sR, h1]
      exact if_pos (by omega)
    · have := rps_le (al := al) (P := P) (S := S) j
      omega
end
theorem s_Le_stateWithRow_loop {al : Wrd → Option Nat} {P S : List Wrd} {bi re : Nat → Int32} (hal : aok al) (h40 : P.length ≤ 40) (hS : S.length ≤ 16) (hb : ∀ k, k < P.length → bi (4 * k) = nI (Rw al S (pw P k))) {N v : Nat} (hN : N ≤ P.length) (hv : v < 65536) (hre : ∀ j, j < (rps al P S N).length → re j = nI (rp al P S N j)) :
    ∀ (n i : Nat), i ≤ (rps al P S N).length → (rps al P S N).length - i < n → (∀ j, j < i → Rw al S (pw P (rp al P S N j)) ≠ v) → itr (fun _ => none) (f_Le_stateWithRow_L2 bi (nI (rps al P S N).length) re (nI v) (fun _ => some (-1 : Int32))) n (nI i) = some (ov (sR al P S N v)) := by
  have hl := rps_le (al := al) (P := P) (S := S) N
  intro n
  induction n with
  | zero => intro i _ h; omega
  | succ n ih =>
    intro i hi hn hno
    rw [itr_s, f_Le_stateWithRow_L2]
    rcases Nat.lt_or_ge i (rps al P S N).length with c | c
    · obtain ⟨m1, m2⟩ := rp_mem c
      have hlt := Rw_lt hal hS (pw P (rp al P S N i))
      rw [if_neg (nI_ge c (by omega)), gIn_nI (by omega) (by omega), nI_clamp (by omega), hre i c, f_Ta_prefixRow, bd1_s, row4, gIn_nI (by omega) (by omega), nI_clamp (by omega), hb _ (by omega)]
      by_cases e : Rw al S (pw P (rp al P S N i)) = v
      · rw [if_pos (by rw [e]), sR, ← e, isR_iff.mp m2]
        simp only
        rw [if_pos m1, rp_eq c, rps_ix N i c]
        rfl
      · rw [if_neg (fun q => e ((nI_eq (by omega) (by omega)).mp q)), bnd_eq, show nI i + 1 = nI (i + 1) from nI_1 i]
        refine ih (i + 1) c (by omega) (fun j hj => ?_)
        rcases Nat.lt_or_ge j i with z | z
        · exact hno j z
        · have : j = i := by omega
          subst this; exact e
    · rw [if_pos (nI_le c (by omega))]
      cases q : prf al P S v with
      | none => rw [sR, q]; rfl
      | some k =>
        obtain ⟨h1, h2, h3⟩ := prf_R q
        rw [sR, q]
        simp only
        rw [if_neg]
        · rfl
        · intro hk
          have h4 := rps_at h3 N hk
          have h5 := (List.getElem?_eq_some_iff.mp h4).1
          refine hno (rps al P S k).length (by omega) ?_
          rw [rp, List.getD_eq_getElem?_getD, h4, Option.getD_some, h2]
theorem s_Le_stateWithRow {al : Wrd → Option Nat} {P S : List Wrd} {bi re : Nat → Int32} (hal : aok al) (h40 : P.length ≤ 40) (hS : S.length ≤ 16) (hb : ∀ k, k < P.length → bi (4 * k) = nI (Rw al S (pw P k))) {N v : Nat} (hN : N ≤ P.length) (hv : v < 65536) (hre : ∀ j, j < (rps al P S N).length → re j = nI (rp al P S N j)) : f_Le_stateWithRow (nI v) bi (nI (rps al P S N).length) re = some (ov (sR al P S N v)) :=
  s_Le_stateWithRow_loop hal h40 hS hb hN hv hre FU 0 (Nat.zero_le _) (by rw [FU_eq]; have := rps_le (al := al) (P := P) (S := S) N; omega) (fun j h => absurd h (Nat.not_lt_zero _))
/-- the representatives and finals after the first k prefixes -/
def FI (al : Wrd → Option Nat) (P S : List Wrd) (k : Nat) (fi re : Nat → Int32) : Prop := (∀ j, j < (rps al P S k).length → re j = nI (rp al P S k j) ∧ fi j = nI (Rw al S (pw P (rp al P S k j)) % 2)) ∧ ∀ j, (rps al P S k).length ≤ j → j < 40 → fi j = 0
theorem s_Le_fh_L17 {al : Wrd → Option Nat} {P S : List Wrd} {bi : Nat → Int32} (hal : aok al) (h40 : P.length ≤ 40) (hS : S.length ≤ 16) (hb : ∀ k, k < P.length → bi (4 * k) = nI (Rw al S (pw P k))) {K : Int32 → (Nat → Int32) → Int32 → (Nat → Int32) → Option ((Nat → Int32) × (Nat → Int32) × Int32 × Int32 × (Nat → Int32) × Int32)} :
    ∀ (n k : Nat) (fi re : Nat → Int32), k ≤ P.length → P.length - k < n → FI al P S k fi re → ∃ fi' re', FI al P S P.length fi' re' ∧ itr (fun _ _ _ _ => none) (f_Le_formHypothesis_L17 (nI P.length) bi K) n (nI k) fi (nI (rps al P S k).length) re = K (nI P.length) fi' (nI (rps al P S P.length).length) re' := by
  intro n
  induction n with
  | zero => intro i _ _ _ h; omega
  | succ n ih =>
    intro k fi re hk hn hF
    rw [itr_s, f_Le_formHypothesis_L17]
    rcases Nat.lt_or_ge k P.length with c | c
    · have hl := rps_le (al := al) (P := P) (S := S) k
      have hlt := Rw_lt hal hS (pw P k)
      rw [if_neg (nI_ge c (by omega)), f_Ta_prefixRow, bd1_s, row4, gIn_nI (by omega) (by omega), bnd_eq, nI_clamp (by omega), hb k c, s_Le_stateWithRow hal h40 hS hb (by omega) hlt (fun j hj => (hF.1 j hj).1), bd1_s, f_Le_formHypothesis_J97, bnd_eq, show nI k + 1 = nI (k + 1) from nI_1 k]
      by_cases z : isR al P S k = true
      · have e : (rps al P S (k + 1)).length = (rps al P S k).length + 1 := by rw [rps_y z, List.length_append]; rfl
        rw [(sR_own c).1 z, if_pos (show ov none = -1 from rfl), gIn_nI (by omega) (by omega), bnd_eq, gIn_nI (by omega) (by omega), bnd_eq, f_Le_formHypothesis_J97, bnd_eq, nI_clamp (by omega), show nI (rps al P S k).length + (1 : Int32) = nI ((rps al P S k).length + 1) from nI_1 _, ← e, show nI (Rw al S (pw P k)) &&& (1 : Int32) = nI (Rw al S (pw P k) % 2) from fa_mask _ 1, show nI k + 1 = nI (k + 1) from nI_1 k]
        refine ih (k + 1) _ _ c (by omega) ⟨fun j hj => ?_, fun j hj hj2 => ?_⟩
        · rcases Nat.lt_or_ge j (rps al P S k).length with y | y
          · rw [pk_un (by omega), pk_un (by omega), rp_y z y]
            exact hF.1 j y
          · have : j = (rps al P S k).length := by omega
            subst this
            rw [pk_us, pk_us, rp_yk z]
            exact ⟨rfl, rfl⟩
        · rw [pk_un (by omega)]
          exact hF.2 j (by omega) hj2
      · obtain ⟨j, q1, q2⟩ := (sR_own c).2 z
        rw [q1, ov, if_neg (by rw [show (-1 : Int32) = mI 1 from rfl, nm_eq (by omega) (by omega) (by omega)]; exact id), ← rps_n z]
        refine ih (k + 1) fi re c (by omega) ⟨fun j hj => ?_, fun j hj hj2 => ?_⟩
        · rw [rp_n z]
          exact hF.1 j (by rw [rps_n z] at hj; exact hj)
        · exact hF.2 j (by rw [rps_n z] at hj; exact hj) hj2
    · have : k = P.length := by omega
      subst this
      rw [if_pos (nI_le (Nat.le_refl _) (by omega))]
      exact ⟨fi, re, hF, rfl⟩
/-- the hypothesis's moves -/
def hmv (al : Wrd → Option Nat) (P S : List Wrd) (le x : Nat) : Nat := if x / 3 < (rps al P S P.length).length ∧ x % 3 < le then st al P S (Rw al S (pw P (rp al P S P.length (x / 3)) ++ [x % 3])) else 0
def hfi (al : Wrd → Option Nat) (P S : List Wrd) (j : Nat) : Nat := if j < (rps al P S P.length).length then Rw al S (pw P (rp al P S P.length j)) % 2 else 0
def HI (al : Wrd → Option Nat) (P S : List Wrd) (le i a : Nat) (mv : Nat → Int32) : Prop := ∀ x, x < 120 → mv x = if x / 3 < i ∨ (x / 3 = i ∧ x % 3 < a) then nI (hmv al P S le x) else 0
/-- no row is open -/
def clsd (al : Wrd → Option Nat) (P S : List Wrd) (le : Nat) : Prop := ∀ k a, k < P.length → a < le → (prf al P S (Rw al S (pw P k ++ [a]))).isSome = true
theorem opn_clsd {al : Wrd → Option Nat} {P S : List Wrd} {le : Nat} (h : opn al P S le = none) : clsd al P S le := by
  intro k a hk ha
  have hidx : k * le + a < P.length * le := by
    have := Nat.mul_le_mul_right le (show k + 1 ≤ P.length by omega)
    rw [Nat.add_mul] at this
    omega
  have := fst_non h _ hidx
  rw [twf_e ha] at this
  cases q : prf al P S (Rw al S (pw P k ++ [a])) with
  | none => rw [q] at this; cases this
  | some j => rfl
theorem hmv_at {al : Wrd → Option Nat} {P S : List Wrd} {le i a : Nat} (hi : i < (rps al P S P.length).length) (ha : a < le) (h3 : le ≤ 3) : hmv al P S le (3 * i + a) = st al P S (Rw al S (pw P (rp al P S P.length i) ++ [a])) := by
  have e1 : (3 * i + a) / 3 = i := by omega
  have e2 : (3 * i + a) % 3 = a := by omega
  rw [hmv, e1, e2, if_pos ⟨hi, ha⟩]
theorem s_Le_fh_L118 {al : Wrd → Option Nat} {P S : List Wrd} {le : Nat} {bi re : Nat → Int32} (hal : aok al) (h40 : P.length ≤ 40) (hS : S.length ≤ 16) (h3 : le ≤ 3) (hb : bitsX al P S le bi) (hc : clsd al P S le) (hre : ∀ j, j < (rps al P S P.length).length → re j = nI (rp al P S P.length j)) {i : Nat} (hi : i < (rps al P S P.length).length) {K : Int32 → (Nat → Int32) → Option ((Nat → Int32) × (Nat → Int32) × Int32 × Int32 × (Nat → Int32) × Int32)} :
    ∀ (n a : Nat) (mv : Nat → Int32), a ≤ le → le - a < n → HI al P S le i a mv → ∃ mv', HI al P S le i le mv' ∧ itr (fun _ _ => none) (f_Le_formHypothesis_L118 (nI le) bi (nI (rps al P S P.length).length) re (nI i) K) n (nI a) mv = K (nI le) mv' := by
  have hl := rps_le (al := al) (P := P) (S := S) P.length
  obtain ⟨m1, m2⟩ := rp_mem hi
  intro n
  induction n with
  | zero => intro a _ _ h; omega
  | succ n ih =>
    intro a mv ha hn hH
    rw [itr_s, f_Le_formHypothesis_L118]
    rcases Nat.lt_or_ge a le with c | c
    · have hp := hc _ a m1 c
      have hst := st_lt hp
      have e0 : (if (0 : Int32) < nI (st al P S (Rw al S (pw P (rp al P S P.length i) ++ [a]))) then nI (st al P S (Rw al S (pw P (rp al P S P.length i) ++ [a]))) else (0 : Int32)) = nI (st al P S (Rw al S (pw P (rp al P S P.length i) ++ [a]))) := by
        by_cases z : (0 : Int32) < nI (st al P S (Rw al S (pw P (rp al P S P.length i) ++ [a])))
        · rw [if_pos z]
        · rw [if_neg z]
          have := fun q : 0 < st al P S (Rw al S (pw P (rp al P S P.length i) ++ [a])) => z (Int32.not_le.mp (nI_ge (a := 0) q (by omega)))
          rw [Nat.eq_zero_of_not_pos this]
          rfl
      rw [if_neg (nI_ge c (by omega)), gIn_nI (by omega) (by omega), nI_clamp (by omega), hre i hi, f_Ta_extensionRow, bd1_s, ext_row, gIn_nI (by omega) (by omega), bnd_eq, nI_clamp (by omega), hb.2 _ a m1 c, s_Le_stateWithRow hal h40 hS hb.1 (Nat.le_refl _) (Rw_lt hal hS _) hre, bd1_s, sR_full hp, ov, e0, f_Au_lead, show nI i * (3 : Int32) = nI (3 * i) by rw [show nI i * (3 : Int32) = nI (i * 3) from pk_mul i 3, Nat.mul_comm], nI_add, gIn_nI (by omega) (by omega), bnd_eq, bd1_s, bnd_eq, nI_clamp (by omega), show nI a + 1 = nI (a + 1) from nI_1 a]
      refine ih (a + 1) _ c (by omega) (fun x hx => ?_)
      by_cases z : x = 3 * i + a
      · subst z
        rw [pk_us, if_pos (by omega), hmv_at hi c h3]
      · rw [pk_un z, hH x hx]
        by_cases y : x / 3 < i ∨ (x / 3 = i ∧ x % 3 < a)
        · rw [if_pos y, if_pos (by omega)]
        · rw [if_neg y, if_neg (by omega)]
    · have : a = le := by omega
      subst this
      rw [if_pos (nI_le (Nat.le_refl _) (by omega))]
      exact ⟨mv, hH, rfl⟩
theorem HI_next {al : Wrd → Option Nat} {P S : List Wrd} {le i : Nat} {mv : Nat → Int32} (h : HI al P S le i le mv) : HI al P S le (i + 1) 0 mv := by
  intro x hx
  rw [h x hx]
  by_cases y : x / 3 < i ∨ (x / 3 = i ∧ x % 3 < le)
  · rw [if_pos y, if_pos (by omega)]
  · rw [if_neg y]
    by_cases z : x / 3 < i + 1 ∨ (x / 3 = i + 1 ∧ x % 3 < 0)
    · rw [if_pos z, hmv, if_neg (by omega)]
      rfl
    · rw [if_neg z]
theorem s_Le_fh_L105 {al : Wrd → Option Nat} {P S : List Wrd} {le : Nat} {bi re : Nat → Int32} (hal : aok al) (h40 : P.length ≤ 40) (hS : S.length ≤ 16) (h3 : le ≤ 3) (hb : bitsX al P S le bi) (hc : clsd al P S le) (hre : ∀ j, j < (rps al P S P.length).length → re j = nI (rp al P S P.length j)) {K : Int32 → (Nat → Int32) → Option ((Nat → Int32) × (Nat → Int32) × Int32 × Int32 × (Nat → Int32) × Int32)} :
    ∀ (n i : Nat) (mv : Nat → Int32), i ≤ (rps al P S P.length).length → (rps al P S P.length).length - i < n → HI al P S le i 0 mv → ∃ mv', rI 120 (hmv al P S le) mv' ∧ itr (fun _ _ => none) (f_Le_formHypothesis_L105 (nI le) bi (nI (rps al P S P.length).length) re K) n (nI i) mv = K (nI (rps al P S P.length).length) mv' := by
  have hl := rps_le (al := al) (P := P) (S := S) P.length
  intro n
  induction n with
  | zero => intro i _ _ h; omega
  | succ n ih =>
    intro i mv hi hn hH
    rw [itr_s, f_Le_formHypothesis_L105]
    rcases Nat.lt_or_ge i (rps al P S P.length).length with c | c
    · rw [if_neg (nI_ge c (by omega))]
      obtain ⟨mv', h1, h2⟩ := s_Le_fh_L118 hal h40 hS h3 hb hc hre c (K := fun x2 v_hypothesis_moves_1 => (bnd (nI i + 1) (fun x1_1 => (itr (fun _ _ => none) (f_Le_formHypothesis_L105 (nI le) bi (nI (rps al P S P.length).length) re K) n x1_1 v_hypothesis_moves_1)))) FU 0 mv (Nat.zero_le _) (by rw [FU_eq]; omega) hH
      rw [nI_0] at h2
      rw [h2, bnd_eq, show nI i + 1 = nI (i + 1) from nI_1 i]
      exact ih (i + 1) mv' c (by omega) (HI_next h1)
    · have : i = (rps al P S P.length).length := by omega
      subst this
      rw [if_pos (nI_le (Nat.le_refl _) (by omega))]
      refine ⟨mv, fun x hx => ?_, rfl⟩
      rw [hH x hx]
      by_cases z : x / 3 < (rps al P S P.length).length ∨ (x / 3 = (rps al P S P.length).length ∧ x % 3 < 0)
      · rw [if_pos z]
      · rw [if_neg z, hmv, if_neg (by omega)]
        rfl
theorem s_Le_formHypothesis {al : Wrd → Option Nat} {P S : List Wrd} {le : Nat} {bi re mv fi : Nat → Int32} (hal : aok al) (h40 : P.length ≤ 40) (hS : S.length ≤ 16) (h3 : le ≤ 3) (hb : bitsX al P S le bi) (hc : clsd al P S le) :
    ∃ mv' fi' re', f_Le_formHypothesis (nI le) (nI P.length) bi mv fi re = some (mv', fi', nI (rps al P S P.length).length, nI le, re', 1) ∧ rI 120 (hmv al P S le) mv' ∧ rI 40 (hfi al P S) fi' ∧ ∀ j, j < (rps al P S P.length).length → re' j = nI (rp al P S P.length j) := by
  have hl := rps_le (al := al) (P := P) (S := S) P.length
  rw [f_Le_formHypothesis, f_Au_shape, s_Ar_fill (by omega), bd1_s, s_Ar_fill (by omega), bd1_s, bd4_s]
  obtain ⟨fi', re', h1, h2⟩ := s_Le_fh_L17 hal h40 hS hb.1 (K := fun x1 v_hypothesis_finals_2 v_hypothesis_size_2 v_representatives_1 => (itr (fun _ _ => none) (f_Le_formHypothesis_L105 (nI le) bi v_hypothesis_size_2 v_representatives_1 (fun x1_1 v_hypothesis_moves_2 => (some (v_hypothesis_moves_2, v_hypothesis_finals_2, v_hypothesis_size_2, nI le, v_representatives_1, (1 : Int32))))) FU (0 : Int32) (fun j => if j < 120 then 0 else mv j))) FU 0 (fun j => if j < 40 then 0 else fi j) re (Nat.zero_le _) (by rw [FU_eq]; omega) ⟨fun j hj => absurd hj (Nat.not_lt_zero _), fun j _ hj => if_pos hj⟩
  rw [show nI (rps al P S 0).length = 0 from rfl, nI_0] at h2
  rw [h2]
  obtain ⟨mv', h3', h4⟩ := s_Le_fh_L105 hal h40 hS h3 hb hc (fun j hj => (h1.1 j hj).1) (K := fun x1_1 v_hypothesis_moves_2 => (some (v_hypothesis_moves_2, fi', nI (rps al P S P.length).length, nI le, re', (1 : Int32)))) FU 0 (fun j => if j < 120 then 0 else mv j) (Nat.zero_le _) (by rw [FU_eq]; omega) (fun x hx => by rw [if_neg (by omega)]; exact if_pos hx)
  rw [nI_0] at h4
  rw [h4]
  refine ⟨mv', fi', re', rfl, h3', fun j hj => ?_, fun j hj => (h1.1 j hj).1⟩
  rw [hfi]
  rcases Nat.lt_or_ge j (rps al P S P.length).length with z | z
  · rw [if_pos z, (h1.1 j z).2]
  · rw [if_neg (by omega), h1.2 j z hj]
    rfl
/-! the reference -/
def FM (al : Wrd → Option Nat) (P S : List Wrd) (k : Nat) (m0 m so : Nat → Int32) : Prop := (∀ x, x < 481 → m x = m0 x) ∧ (∀ j, j < (rps al P S k).length → m (521 + j) = nI (rp al P S k j) ∧ m (481 + j) = nI (Rw al S (pw P (rp al P S k j)) % 2)) ∧ ∀ j, j < k → so j = nI (st al P S (Rw al S (pw P j)))
theorem s_Mo_fo_L4 {al : Wrd → Option Nat} {P S : List Wrd} {le : Nat} {m0 row : Nat → Int32} (hal : aok al) (h40 : P.length ≤ 40) (hS : S.length ≤ 16) (h38 : m0 38 = nI P.length) (hr : ∀ k, k < P.length → row k = nI (Rw al S (pw P k))) {K : Int32 → Int32 → (Nat → Int32) → (Nat → Int32) → Option ((Nat → Int32) × (Nat → Int32))} :
    ∀ (n k : Nat) (m so : Nat → Int32), k ≤ P.length → P.length - k < n → FM al P S k m0 m so → ∃ m' so', FM al P S P.length m0 m' so' ∧ itr (fun _ _ _ _ => none) (f_Mo_forms_L4 row K) n (nI (rps al P S k).length) (nI k) m so = K (nI (rps al P S P.length).length) (nI P.length) m' so' := by
  intro n
  induction n with
  | zero => intro k _ _ _ h; omega
  | succ n ih =>
    intro k m so hk hn hF
    have hl := rps_le (al := al) (P := P) (S := S) k
    have hm38 : m 38 = nI P.length := by rw [hF.1 38 (by omega), h38]
    rw [itr_s, f_Mo_forms_L4, hm38]
    rcases Nat.lt_or_ge k P.length with c | c
    · have hlt := Rw_lt hal hS (pw P k)
      obtain ⟨j, j1, j2⟩ := prf_at (al := al) (S := S) c
      rw [if_neg (nI_ge c (by omega)), gIn_nI (by omega) (by omega), nI_clamp (by omega), hr k c, s_Mo_rowOfPrefix hal h40 hS hm38 hr hlt, bd1_s, j1, ov]
      by_cases z : j = k
      · subst z
        have zR : isR al P S j = true := isR_iff.mpr j1
        have e : (rps al P S (j + 1)).length = (rps al P S j).length + 1 := by rw [rps_y zR, List.length_append]; rfl
        have hst : st al P S (Rw al S (pw P j)) = (rps al P S j).length := by rw [st, j1, Option.getD_some]
        rw [if_pos rfl, f_Mo_forms_J46, gIn_nI (by omega) (by omega), bnd_eq, if_pos rfl, show (521 : Int32) + nI (rps al P S j).length = nI (521 + (rps al P S j).length) from nI_add 521 _, show (481 : Int32) + nI (rps al P S j).length = nI (481 + (rps al P S j).length) from nI_add 481 _, gIn_nI (by omega) (by omega), bnd_eq, gIn_nI (by omega) (by omega), gIn_nI (by omega) (by omega), bnd_eq, bnd_eq, nI_clamp (by omega), nI_clamp (by omega), nI_clamp (by omega), hr j c, f_Mo_forms_J84, bnd_eq, show nI (rps al P S j).length + (1 : Int32) = nI ((rps al P S j).length + 1) from nI_1 _, ← e, show nI (Rw al S (pw P j)) &&& (1 : Int32) = nI (Rw al S (pw P j) % 2) from fa_mask _ 1, show nI j + 1 = nI (j + 1) from nI_1 j]
        refine ih (j + 1) _ _ c (by omega) ⟨fun x hx => ?_, fun i hi => ?_, fun i hi => ?_⟩
        · rw [pk_un (by omega), pk_un (by omega)]
          exact hF.1 x hx
        · rcases Nat.lt_or_ge i (rps al P S j).length with y | y
          · rw [pk_un (by omega), pk_un (by omega), pk_un (by omega), pk_un (by omega), rp_y zR y]
            exact hF.2.1 i y
          · have : i = (rps al P S j).length := by omega
            subst this
            rw [pk_un (by omega), pk_us, pk_us, rp_yk zR]
            exact ⟨rfl, rfl⟩
        · rcases Nat.lt_or_ge i j with y | y
          · rw [pk_un (by omega)]
            exact hF.2.2 i y
          · have : i = j := by omega
            subst this
            rw [pk_us, hst]
      · have zR : ¬ isR al P S k = true := fun q => z (by rw [isR_iff, j1] at q; cases q; rfl)
        have zn : ¬ nI j = nI k := fun q => z ((nI_eq (by omega) (by omega)).mp q)
        obtain ⟨p1, p2, p3⟩ := prf_R j1
        rw [if_neg zn, gIn_nI (by omega) (by omega), nI_clamp (by omega), hF.2.2 j (by omega), p2, f_Mo_forms_J46, gIn_nI (by omega) (by omega), bnd_eq, if_neg zn, f_Mo_forms_J84, bnd_eq, nI_clamp (by omega), show nI k + 1 = nI (k + 1) from nI_1 k, ← rps_n zR]
        refine ih (k + 1) _ _ c (by omega) ⟨hF.1, fun i hi => ?_, fun i hi => ?_⟩
        · rw [rp_n zR]
          exact hF.2.1 i (by rw [rps_n zR] at hi; exact hi)
        · rcases Nat.lt_or_ge i k with y | y
          · rw [pk_un (by omega)]
            exact hF.2.2 i y
          · have : i = k := by omega
            subst this
            rw [pk_us]
    · have : k = P.length := by omega
      subst this
      rw [if_pos (nI_le (Nat.le_refl _) (by omega))]
      exact ⟨m, so, hF, rfl⟩
def GM (al : Wrd → Option Nat) (P S : List Wrd) (le i a : Nat) (m1 m : Nat → Int32) : Prop := (∀ x, x < 361 ∨ 481 ≤ x → m x = m1 x) ∧ ∀ s b, b < le → s < i ∨ (s = i ∧ b < a) → m (361 + (3 * s + b)) = nI (hmv al P S le (3 * s + b))
theorem s_Mo_fo_L99 {al : Wrd → Option Nat} {P S : List Wrd} {le : Nat} {m0 m1 so row : Nat → Int32} (hT : tok le P S) (hal : aok al) (h3 : le ≤ 3) (hm1 : m0 1 = nI le) (h38 : m0 38 = nI P.length) (hr : ∀ r, r < P.length * (1 + le) → row r = nI (Rw al S (twf P le r))) (hc : clsd al P S le) (hF : FM al P S P.length m0 m1 so) {i : Nat} (hi : i < (rps al P S P.length).length) {K : Int32 → (Nat → Int32) → Option ((Nat → Int32) × (Nat → Int32))} :
    ∀ (n a : Nat) (m : Nat → Int32), a ≤ le → le - a < n → GM al P S le i a m1 m → ∃ m', GM al P S le i le m1 m' ∧ itr (fun _ _ => none) (f_Mo_forms_L99 row so (nI i) K) n (nI a) m = K (nI le) m' := by
  have h40 := hT.2.2.2.1
  have hS := hT.2.2.2.2.1
  have hl := rps_le (al := al) (P := P) (S := S) P.length
  have hN : P.length * (1 + le) ≤ 160 := by have := Nat.mul_le_mul h40 (show 1 + le ≤ 4 by omega); omega
  have hN2 : P.length * (1 + le) = P.length + P.length * le := by rw [Nat.mul_add, Nat.mul_one]
  have hb : ∀ k, k < P.length → row k = nI (Rw al S (pw P k)) := fun k hk => by rw [hr k (by omega), twf_p hk]
  obtain ⟨r1, r2⟩ := rp_mem hi
  intro n
  induction n with
  | zero => intro a _ _ h; omega
  | succ n ih =>
    intro a m ha hn hG
    have g1 : m 1 = nI le := by rw [hG.1 1 (by omega), hF.1 1 (by omega), hm1]
    have g38 : m 38 = nI P.length := by rw [hG.1 38 (by omega), hF.1 38 (by omega), h38]
    rw [itr_s, f_Mo_forms_L99, g1]
    rcases Nat.lt_or_ge a le with c | c
    · have hp := hc _ a r1 c
      have k1 := kl_lt r1 c
      cases q : prf al P S (Rw al S (pw P (rp al P S P.length i) ++ [a])) with
      | none => rw [q] at hp; cases hp
      | some j =>
        obtain ⟨p1, p2, p3⟩ := prf_R q
        rw [if_neg (nI_ge c (by omega)), show (521 : Int32) + nI i = nI (521 + i) from nI_add 521 _, gIn_nI (by omega) (by omega), nI_clamp (by omega), hG.1 (521 + i) (by omega), (hF.2.1 i hi).1, s_Mo_extension g1 g38, bd1_s, gIn_nI (by omega) (by omega), nI_clamp (by omega), hr _ k1, twf_e c, s_Mo_rowOfPrefix hal h40 hS g38 hb (Rw_lt hal hS _), bd1_s, q, ov, gIn_nI (by omega) (by omega), nI_clamp (by omega), hF.2.2 j p1, p2, show (3 : Int32) * nI i = nI (3 * i) from pk_mul 3 i, show (361 : Int32) + nI (3 * i) = nI (361 + 3 * i) from nI_add 361 _, nI_add, gIn_nI (by omega) (by omega), bnd_eq, bnd_eq, nI_clamp (by omega), show nI a + 1 = nI (a + 1) from nI_1 a, ← hmv_at hi c h3]
        refine ih (a + 1) _ c (by omega) ⟨fun x hx => ?_, fun s b hb hs => ?_⟩
        · rw [pk_un (by omega)]
          exact hG.1 x hx
        · by_cases z : s = i ∧ b = a
          · obtain ⟨rfl, rfl⟩ := z
            rw [← Nat.add_assoc, pk_us]
          · rw [pk_un (by omega)]
            exact hG.2 s b hb (by omega)
    · have : a = le := by omega
      subst this
      rw [if_pos (nI_le (Nat.le_refl _) (by omega))]
      exact ⟨m, hG, rfl⟩
theorem s_Mo_fo_L92 {al : Wrd → Option Nat} {P S : List Wrd} {le : Nat} {m0 m1 so row : Nat → Int32} (hT : tok le P S) (hal : aok al) (h3 : le ≤ 3) (hm1 : m0 1 = nI le) (h38 : m0 38 = nI P.length) (hr : ∀ r, r < P.length * (1 + le) → row r = nI (Rw al S (twf P le r))) (hc : clsd al P S le) (hF : FM al P S P.length m0 m1 so) {K : Int32 → (Nat → Int32) → Option ((Nat → Int32) × (Nat → Int32))} :
    ∀ (n i : Nat) (m : Nat → Int32), i ≤ (rps al P S P.length).length → (rps al P S P.length).length - i < n → GM al P S le i 0 m1 m → ∃ m', GM al P S le (rps al P S P.length).length 0 m1 m' ∧ itr (fun _ _ => none) (f_Mo_forms_L92 row so (nI (rps al P S P.length).length) K) n (nI i) m = K (nI (rps al P S P.length).length) m' := by
  have hl := rps_le (al := al) (P := P) (S := S) P.length
  have h40 := hT.2.2.2.1
  intro n
  induction n with
  | zero => intro i _ _ h; omega
  | succ n ih =>
    intro i m hi hn hG
    rw [itr_s, f_Mo_forms_L92]
    rcases Nat.lt_or_ge i (rps al P S P.length).length with c | c
    · rw [if_neg (nI_ge c (by omega))]
      obtain ⟨m', h1, h2⟩ := s_Mo_fo_L99 hT hal h3 hm1 h38 hr hc hF c (K := fun x3 v_m_1 => (bnd (nI i + 1) (fun x2_1 => (itr (fun _ _ => none) (f_Mo_forms_L92 row so (nI (rps al P S P.length).length) K) n x2_1 v_m_1)))) FU 0 m (Nat.zero_le _) (by rw [FU_eq]; omega) hG
      rw [nI_0] at h2
      rw [h2, bnd_eq, show nI i + 1 = nI (i + 1) from nI_1 i]
      exact ih (i + 1) m' c (by omega) ⟨h1.1, fun s b hb hs => h1.2 s b hb (by omega)⟩
    · have : i = (rps al P S P.length).length := by omega
      subst this
      rw [if_pos (nI_le (Nat.le_refl _) (by omega))]
      exact ⟨m, hG, rfl⟩
theorem s_Mo_forms {al : Wrd → Option Nat} {P S : List Wrd} {le : Nat} {m so row : Nat → Int32} (hT : tok le P S) (hal : aok al) (h3 : le ≤ 3) (hm1 : m 1 = nI le) (h38 : m 38 = nI P.length) (hr : ∀ r, r < P.length * (1 + le) → row r = nI (Rw al S (twf P le r))) (hc : clsd al P S le) :
    ∃ m' so', f_Mo_forms m row so = some (m', so') ∧ (∀ x, x < 361 → x ≠ 40 → x ≠ 41 → m' x = m x) ∧ m' 40 = nI (rps al P S P.length).length ∧ m' 41 = 1 ∧ rIm 361 (rps al P S P.length).length le (hmv al P S le) m' ∧ rIo 481 (rps al P S P.length).length (hfi al P S) m' ∧ rIo 521 (rps al P S P.length).length (rp al P S P.length) m' := by
  have h40 := hT.2.2.2.1
  have hS := hT.2.2.2.2.1
  have hl := rps_le (al := al) (P := P) (S := S) P.length
  have hN2 : P.length * (1 + le) = P.length + P.length * le := by rw [Nat.mul_add, Nat.mul_one]
  have hb : ∀ k, k < P.length → row k = nI (Rw al S (pw P k)) := fun k hk => by rw [hr k (by omega), twf_p hk]
  rw [f_Mo_forms]
  obtain ⟨m1, so1, h1, h2⟩ := s_Mo_fo_L4 (le := le) hal h40 hS h38 hb (K := fun x1 x2 v_m_1 v_stateOf_1 => (itr (fun _ _ => none) (f_Mo_forms_L92 row v_stateOf_1 x1 (fun x2_1 v_m_2 => (bnd (upd v_m_2 40 x1) (fun v_m_3 => (bnd (upd v_m_3 41 (1 : Int32)) (fun v_m_4 => (some (v_m_4, v_stateOf_1)))))))) FU (0 : Int32) v_m_1)) FU 0 m so (Nat.zero_le _) (by rw [FU_eq]; omega) ⟨fun _ _ => rfl, fun j hj => absurd hj (Nat.not_lt_zero _), fun j hj => absurd hj (Nat.not_lt_zero _)⟩
  rw [show nI (rps al P S 0).length = 0 from rfl, nI_0] at h2
  rw [h2]
  obtain ⟨m2, h3', h4⟩ := s_Mo_fo_L92 hT hal h3 hm1 h38 hr hc h1 (K := fun x2_1 v_m_2 => (bnd (upd v_m_2 40 (nI (rps al P S P.length).length)) (fun v_m_3 => (bnd (upd v_m_3 41 (1 : Int32)) (fun v_m_4 => (some (v_m_4, so1))))))) FU 0 m1 (Nat.zero_le _) (by rw [FU_eq]; omega) ⟨fun _ _ => rfl, fun s b hb hs => by omega⟩
  rw [nI_0] at h4
  rw [h4, bnd_eq, bnd_eq]
  refine ⟨_, so1, rfl, fun x hx h40 h41 => ?_, ?_, pk_us, fun s a hs ha => ?_, fun j hj => ?_, fun j hj => ?_⟩
  · rw [pk_un h41, pk_un h40, h3'.1 x (by omega), h1.1 x (by omega)]
  · rw [pk_un (by decide), pk_us]
  · rw [pk_un (by omega), pk_un (by omega), h3'.2 s a ha (by omega)]
  · rw [pk_un (by omega), pk_un (by omega), h3'.1 _ (by omega), (h1.2.1 j hj).2, hfi, if_pos hj]
  · rw [pk_un (by omega), pk_un (by omega), h3'.1 _ (by omega), (h1.2.1 j hj).1]

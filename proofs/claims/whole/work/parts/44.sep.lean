/-! ===== the first separator, on both sides ===== -/
def fso {α : Type} (f : Nat → Option α) : Nat → Nat → Option α
  | _, 0 => none
  | i, n + 1 => match f i with
    | some x => some x
    | none => fso f (i + 1) n
def oE {α β : Type} (o : Option α) (g : α → β) (r : β) : β := match o with
  | some x => g x
  | none => r
theorem oE_s {α β : Type} (x : α) (g : α → β) (r : β) : oE (some x) g r = g x := rfl
theorem oE_n {α β : Type} (g : α → β) (r : β) : oE (none : Option α) g r = r := rfl
theorem fso_ge {α : Type} {f : Nat → Option α} {i N : Nat} (h : N ≤ i) : fso f i (N - i) = none := by rw [show N - i = 0 by omega, fso]
theorem fso_s {α : Type} {f : Nat → Option α} {i N : Nat} {x : α} (h : i < N) (e : f i = some x) : fso f i (N - i) = some x := by rw [show N - i = (N - (i + 1)) + 1 by omega, fso, e]
theorem fso_n {α : Type} {f : Nat → Option α} {i N : Nat} (h : i < N) (e : f i = none) : fso f i (N - i) = fso f (i + 1) (N - (i + 1)) := by rw [show N - i = (N - (i + 1)) + 1 by omega, fso, e]
theorem fso_spec {α : Type} {f : Nat → Option α} {x : α} : ∀ {n i : Nat}, fso f i n = some x → ∃ j, i ≤ j ∧ j < i + n ∧ f j = some x
  | 0, _, h => by rw [fso] at h; cases h
  | n + 1, i, h => by
    rw [fso] at h
    cases e : f i with
    | some y =>
      rw [e] at h
      cases h
      exact ⟨i, Nat.le_refl _, by omega, e⟩
    | none =>
      rw [e] at h
      obtain ⟨j, h1, h2, h3⟩ := fso_spec h
      exact ⟨j, by omega, by omega, h3⟩
theorem fso_none {α : Type} {f : Nat → Option α} : ∀ {n i : Nat}, fso f i n = none → ∀ j, i ≤ j → j < i + n → f j = none
  | 0, _, _, j, h1, h2 => by omega
  | n + 1, i, h, j, h1, h2 => by
    rw [fso] at h
    cases e : f i with
    | some y => rw [e] at h; cases h
    | none =>
      rw [e] at h
      rcases Nat.lt_or_ge i j with z | z
      · exact fso_none h j z (by omega)
      · rw [show j = i by omega]; exact e
theorem bitI {x j : Nat} (hx : x < 2 ^ 31) (hj : j < 31) : ((nI x >>> (nI j &&& 31)) &&& (1 : Int32)) = nI (x / 2 ^ j % 2) := by
  rw [pk_shrN hx (nI j &&& 31) j (s_l j (by omega))]
  exact fa_mask _ 1
/-- where two rows first differ -/
def jb (d j : Nat) : Option Nat := if d / 2 ^ j % 2 = 1 then some j else none
theorem tb_dm (x j : Nat) : x.testBit j = decide (x / 2 ^ j % 2 = 1) := Nat.testBit_eq_decide_div_mod_eq
theorem rv_bit {al : Wrd → Option Nat} (h : aok al) (S : List Wrd) (u : Wrd) {j : Nat} : ∀ {n : Nat}, j < n → rv al S u n / 2 ^ j % 2 = an al (u ++ S.getD j [])
  | 0, hj => absurd hj (Nat.not_lt_zero _)
  | n + 1, hj => by
    have h2 := an_le h (u ++ S.getD j [])
    rw [rv]
    rcases Nat.lt_or_ge j n with z | z
    · have e : an al (u ++ S.getD n []) * 2 ^ n = 2 ^ j * (2 * (an al (u ++ S.getD n []) * 2 ^ (n - j - 1))) := by
        have e2 : 2 ^ n = 2 ^ j * (2 * 2 ^ (n - j - 1)) := by
          rw [← Nat.pow_succ', ← Nat.pow_add]
          congr 1
          omega
        rw [e2, Nat.mul_left_comm, Nat.mul_left_comm 2]
      rw [e, Nat.add_mul_div_left _ _ (Nat.two_pow_pos j), Nat.add_mul_mod_self_left]
      exact rv_bit h S u z
    · have : j = n := by omega
      subst this
      rw [Nat.mul_comm, Nat.add_mul_div_left _ _ (Nat.two_pow_pos j), Nat.div_eq_of_lt (rv_lt h S u j)]
      omega
theorem xor_bit (x y j : Nat) : (x ^^^ y) / 2 ^ j % 2 = 1 ↔ x / 2 ^ j % 2 ≠ y / 2 ^ j % 2 := by
  have h := Nat.testBit_xor x y j
  rw [tb_dm, tb_dm, tb_dm] at h
  have h1 : x / 2 ^ j % 2 < 2 := Nat.mod_lt _ (by decide)
  have h2 : y / 2 ^ j % 2 < 2 := Nat.mod_lt _ (by decide)
  generalize x / 2 ^ j % 2 = a at h h1 ⊢
  generalize y / 2 ^ j % 2 = b at h h2 ⊢
  generalize (x ^^^ y) / 2 ^ j % 2 = c at h ⊢
  rcases (show a = 0 ∨ a = 1 by omega) with rfl | rfl <;> rcases (show b = 0 ∨ b = 1 by omega) with rfl | rfl <;> simp at h ⊢ <;> exact h
def sA (al : Wrd → Option Nat) (P S : List Wrd) (p q a : Nat) : Option Wrd := (fso (jb (Rw al S (pw P p ++ [a]) ^^^ Rw al S (pw P q ++ [a]))) 0 (S.length - 0)).map (fun j => [a] ++ pw S j)
def sQ (al : Wrd → Option Nat) (P S : List Wrd) (le p q : Nat) : Option Wrd := if Rw al S (pw P p) = Rw al S (pw P q) then fso (sA al P S p q) 0 (le - 0) else none
def sP (al : Wrd → Option Nat) (P S : List Wrd) (le p : Nat) : Option Wrd := fso (sQ al P S le p) (p + 1) (P.length - (p + 1))
def sep (al : Wrd → Option Nat) (P S : List Wrd) (le : Nat) : Option Wrd := fso (sP al P S le) 0 (P.length - 0)
/-- what a separator is -/
def isS (al : Wrd → Option Nat) (P S : List Wrd) (le : Nat) (w : Wrd) : Prop := ∃ p q a j, p < P.length ∧ q < P.length ∧ a < le ∧ j < S.length ∧ w = [a] ++ pw S j ∧ Rw al S (pw P p ++ [a]) / 2 ^ j % 2 ≠ Rw al S (pw P q ++ [a]) / 2 ^ j % 2
theorem sA_spec {al : Wrd → Option Nat} {P S : List Wrd} {le p q : Nat} {w : Wrd} (hp : p < P.length) (hq : q < P.length) (h : fso (sA al P S p q) 0 (le - 0) = some w) : isS al P S le w := by
  obtain ⟨a, -, h2, h3⟩ := fso_spec h
  rw [sA] at h3
  cases e : fso (jb (Rw al S (pw P p ++ [a]) ^^^ Rw al S (pw P q ++ [a]))) 0 (S.length - 0) with
  | none => rw [e] at h3; cases h3
  | some j =>
    rw [e] at h3
    cases h3
    obtain ⟨i, -, h5, h6⟩ := fso_spec e
    rw [jb] at h6
    by_cases z : (Rw al S (pw P p ++ [a]) ^^^ Rw al S (pw P q ++ [a])) / 2 ^ i % 2 = 1
    · rw [if_pos z] at h6
      cases h6
      exact ⟨p, q, a, j, hp, hq, by omega, by omega, rfl, (xor_bit _ _ _).mp z⟩
    · rw [if_neg z] at h6; cases h6
theorem sep_spec {al : Wrd → Option Nat} {P S : List Wrd} {le : Nat} {w : Wrd} (h : sep al P S le = some w) : isS al P S le w ∧ ∃ p q, p < P.length ∧ q < P.length ∧ Rw al S (pw P p) = Rw al S (pw P q) ∧ fso (sA al P S p q) 0 (le - 0) = some w := by
  obtain ⟨p, -, h2, h3⟩ := fso_spec h
  obtain ⟨q, -, h5, h6⟩ := fso_spec h3
  rw [sQ] at h6
  by_cases z : Rw al S (pw P p) = Rw al S (pw P q)
  · rw [if_pos z] at h6
    exact ⟨sA_spec (by omega) (by omega) h6, p, q, by omega, by omega, z, h6⟩
  · rw [if_neg z] at h6; cases h6
theorem isS_ok {al : Wrd → Option Nat} {P S : List Wrd} {le : Nat} {w : Wrd} (hT : tok le P S) (h : isS al P S le w) : wle le w ∧ w.length ≤ 16 := by
  obtain ⟨p, q, a, j, h1, h2, h3, h4, rfl, -⟩ := h
  have hs := pw_mem h4
  have hl := hT.2.2.1 _ (List.mem_of_getElem? hT.2.2.2.2.2.1) _ hs
  rw [List.length_nil] at hl
  refine ⟨wle_app.mpr ⟨fun x hx => by rw [List.mem_singleton.mp hx]; exact h3, hT.2.1 _ hs⟩, ?_⟩
  rw [List.length_append, List.length_singleton]
  omega
theorem sep_new {al : Wrd → Option Nat} (hal : aok al) {P S : List Wrd} {le : Nat} {w : Wrd} (h : sep al P S le = some w) : w ∉ S := by
  obtain ⟨-, p, q, hp, hq, hr, hw⟩ := sep_spec h
  intro hm
  obtain ⟨a, -, h2, h3⟩ := fso_spec hw
  rw [sA] at h3
  cases e : fso (jb (Rw al S (pw P p ++ [a]) ^^^ Rw al S (pw P q ++ [a]))) 0 (S.length - 0) with
  | none => rw [e] at h3; cases h3
  | some j =>
    rw [e] at h3
    cases h3
    obtain ⟨i, -, h5, h6⟩ := fso_spec e
    rw [jb] at h6
    by_cases z : (Rw al S (pw P p ++ [a]) ^^^ Rw al S (pw P q ++ [a])) / 2 ^ i % 2 = 1
    · rw [if_pos z] at h6
      cases h6
      have z := (xor_bit _ _ _).mp z
      rw [Rw, Rw, rv_bit hal _ _ (by omega), rv_bit hal _ _ (by omega)] at z
      obtain ⟨k, hk, hk2⟩ := List.mem_iff_getElem.mp hm
      have hk3 : S.getD k [] = [a] ++ pw S j := by rw [List.getD_eq_getElem?_getD, List.getElem?_eq_getElem hk, Option.getD_some, hk2]
      have r1 := rv_bit hal S (pw P p) hk
      have r2 := rv_bit hal S (pw P q) hk
      rw [← Rw, hr, Rw, r2, hk3] at r1
      rw [pw] at r1
      rw [List.append_assoc, List.append_assoc] at z
      exact z r1.symm
    · rw [if_neg z] at h6; cases h6
/-! the class -/
theorem s_Ta_sp_L36 {S : List Wrd} {sv : Nat → Int64} {le a d : Nat} (h16 : S.length ≤ 16) (hsl : ∀ s ∈ S, wle le s ∧ s.length ≤ 15) (h3 : le ≤ 3) (ha : a < le) (hd : d < 65536) (hsv : rX S sv) {K : Int32 → Option Int64} {R : Option Int64} (hK : ∀ x, K x = R) :
    ∀ (n j : Nat), j ≤ S.length → S.length - j < n → itr (fun _ => none) (f_Ta_separatorOf_L36 (nI S.length) sv (nI a) (nI d) K) n (nI j) = oE (fso (jb d) j (S.length - j)) (fun j => some (lN (eX ([a] ++ pw S j)))) R := by
  intro n
  induction n with
  | zero => intro j _ h; omega
  | succ n ih =>
    intro j hj hn
    rw [itr_s, f_Ta_separatorOf_L36]
    rcases Nat.lt_or_ge j S.length with c | c
    · rw [if_neg (nI_ge c (by omega)), bitI (by omega) (by omega)]
      by_cases z : d / 2 ^ j % 2 = 1
      · obtain ⟨q1, q2⟩ := hsl _ (List.getElem_mem c)
        rw [if_pos (by rw [z]; rfl), s_Ws_single (by omega), bd1_s, gIn_nI (by omega) (by omega), nI_clamp (by omega), hsv j c, s_Ws_join (wok_one.mpr (by omega)) (wle_ok q1 h3) (by rw [List.length_singleton]; omega) (by rw [List.length_singleton]; omega), bd1_s, fso_s c (by rw [jb, if_pos z]), oE_s, pw_eq c]
      · have hz : d / 2 ^ j % 2 < 2 := Nat.mod_lt _ (by decide)
        rw [if_neg (fun q : nI (d / 2 ^ j % 2) = (1 : Int32) => z ((nI_eq (a := d / 2 ^ j % 2) (b := 1) (by omega) (by decide)).mp q)), bnd_eq, show nI j + 1 = nI (j + 1) from nI_1 j, fso_n c (by rw [jb, if_neg z])]
        exact ih (j + 1) c (by omega)
    · rw [if_pos (nI_le c (by omega)), hK, fso_ge c, oE_n]
theorem tok_s {le : Nat} {P S : List Wrd} (hT : tok le P S) : ∀ s ∈ S, wle le s ∧ s.length ≤ 15 := fun s hs => by
  have hl := hT.2.2.1 _ (List.mem_of_getElem? hT.2.2.2.2.2.1) _ hs
  rw [List.length_nil] at hl
  exact ⟨hT.2.1 _ hs, by omega⟩
theorem xlt {x y : Nat} (hx : x < 65536) (hy : y < 65536) : x ^^^ y < 65536 := Nat.xor_lt_two_pow (n := 16) hx hy
theorem s_Ta_sp_L2 {le : Nat} {al : Wrd → Option Nat} {P S : List Wrd} {sv : Nat → Int64} {bi : Nat → Int32} (hT : tok le P S) (hal : aok al) (h3 : le ≤ 3) (hsv : rX S sv) (hb : bitsX al P S le bi) {p q : Nat} (hp : p < P.length) (hq : q < P.length) :
    ∀ (n a : Nat), a ≤ le → le - a < n → itr (fun _ => none) (f_Ta_separatorOf_L2 (nI le) (nI S.length) sv bi (nI p) (nI q) (fun _ => some (-1 : Int64))) n (nI a) = some (wvX (fso (sA al P S p q) a (le - a))) := by
  have h40 := hT.2.2.2.1
  have h16 := hT.2.2.2.2.1
  intro n
  induction n with
  | zero => intro a _ h; omega
  | succ n ih =>
    intro a ha hn
    rw [itr_s, f_Ta_separatorOf_L2]
    rcases Nat.lt_or_ge a le with c | c
    · rw [if_neg (nI_ge c (by omega)), f_Ta_extensionRow, bd1_s, ext_row, gIn_nI (by omega) (by omega), f_Ta_extensionRow, bd1_s, ext_row, gIn_nI (by omega) (by omega), nI_clamp (by omega), nI_clamp (by omega), hb.2 p a hp c, hb.2 q a hq c, fb_xorI, bnd_eq]
      have h1 := s_Ta_sp_L36 h16 (tok_s hT) h3 c (xlt (Rw_lt hal h16 (pw P p ++ [a])) (Rw_lt hal h16 (pw P q ++ [a]))) hsv (K := fun x5 => (bnd (nI a + 1) (fun x3_1 => (itr (fun _ => none) (f_Ta_separatorOf_L2 (nI le) (nI S.length) sv bi (nI p) (nI q) (fun _ => some (-1 : Int64))) n x3_1)))) (R := itr (fun _ => none) (f_Ta_separatorOf_L2 (nI le) (nI S.length) sv bi (nI p) (nI q) (fun _ => some (-1 : Int64))) n (nI a + 1)) (fun _ => rfl) FU 0 (Nat.zero_le _) (by rw [FU_eq]; omega)
      rw [nI_0] at h1
      rw [h1]
      cases e : fso (jb (Rw al S (pw P p ++ [a]) ^^^ Rw al S (pw P q ++ [a]))) 0 (S.length - 0) with
      | some j => rw [oE_s, fso_s c (by rw [sA, e, Option.map_some])]; rfl
      | none =>
        rw [oE_n, show nI a + 1 = nI (a + 1) from nI_1 a, fso_n c (by rw [sA, e, Option.map_none])]
        exact ih (a + 1) c (by omega)
    · rw [if_pos (nI_le c (by omega)), fso_ge c]
      rfl
theorem s_Ta_separatorOf {le : Nat} {al : Wrd → Option Nat} {P S : List Wrd} {sv : Nat → Int64} {bi : Nat → Int32} (hT : tok le P S) (hal : aok al) (h3 : le ≤ 3) (hsv : rX S sv) (hb : bitsX al P S le bi) {p q : Nat} (hp : p < P.length) (hq : q < P.length) : f_Ta_separatorOf (nI p) (nI q) (nI le) (nI S.length) sv bi = some (wvX (fso (sA al P S p q) 0 (le - 0))) :=
  s_Ta_sp_L2 hT hal h3 hsv hb hp hq FU 0 (Nat.zero_le _) (by rw [FU_eq]; omega)
theorem row4 (k : Nat) : nI k * (4 : Int32) = nI (4 * k) := by rw [show nI k * (4 : Int32) = nI (k * 4) from pk_mul k 4, Nat.mul_comm]
theorem s_Ta_fs_L17 {le : Nat} {al : Wrd → Option Nat} {P S : List Wrd} {sv : Nat → Int64} {bi : Nat → Int32} (hT : tok le P S) (hal : aok al) (h3 : le ≤ 3) (hsv : rX S sv) (hb : bitsX al P S le bi) {p : Nat} (hp : p < P.length) {K : Int32 → Option Int64} {R : Option Int64} (hK : ∀ x, K x = R) :
    ∀ (n q : Nat), q ≤ P.length → P.length - q < n → itr (fun _ => none) (f_Ta_firstSeparator_L17 (nI le) (nI P.length) (nI S.length) sv bi (nI p) K) n (nI q) = oE (fso (sQ al P S le p) q (P.length - q)) (fun w => some (lN (eX w))) R := by
  have h40 := hT.2.2.2.1
  have h16 := hT.2.2.2.2.1
  intro n
  induction n with
  | zero => intro a _ h; omega
  | succ n ih =>
    intro q hq hn
    rw [itr_s, f_Ta_firstSeparator_L17]
    rcases Nat.lt_or_ge q P.length with c | c
    · rw [if_neg (nI_ge c (by omega)), f_Ta_prefixRow, bd1_s, row4, gIn_nI (by omega) (by omega), f_Ta_prefixRow, bd1_s, row4, gIn_nI (by omega) (by omega), nI_clamp (by omega), nI_clamp (by omega), hb.1 p hp, hb.1 q c, s_Ta_separatorOf hT hal h3 hsv hb hp c, bd1_s, f_Ta_firstSeparator_J66, bnd_eq, show nI q + 1 = nI (q + 1) from nI_1 q]
      have l1 := Rw_lt hal h16 (pw P p)
      have l2 := Rw_lt hal h16 (pw P q)
      by_cases z : Rw al S (pw P p) = Rw al S (pw P q)
      · rw [if_pos (by rw [z])]
        cases e : fso (sA al P S p q) 0 (le - 0) with
        | none =>
          rw [if_pos (show wvX none = -1 from rfl), fso_n c (by rw [sQ, if_pos z, e])]
          exact ih (q + 1) c (by omega)
        | some w =>
          obtain ⟨w1, w2⟩ := isS_ok hT (sA_spec hp c e)
          rw [if_neg (wvX_some w (Nat.lt_of_lt_of_le (eX_small (wle_ok w1 h3) (by omega)) (by decide))), fso_s c (by rw [sQ, if_pos z, e]), oE_s]
          rfl
      · rw [if_neg (fun y => z ((nI_eq (by omega) (by omega)).mp y)), fso_n c (by rw [sQ, if_neg z])]
        exact ih (q + 1) c (by omega)
    · rw [if_pos (nI_le c (by omega)), hK, fso_ge c, oE_n]
theorem s_Ta_fs_L2 {le : Nat} {al : Wrd → Option Nat} {P S : List Wrd} {sv : Nat → Int64} {bi : Nat → Int32} (hT : tok le P S) (hal : aok al) (h3 : le ≤ 3) (hsv : rX S sv) (hb : bitsX al P S le bi) :
    ∀ (n p : Nat), p ≤ P.length → P.length - p < n → itr (fun _ => none) (f_Ta_firstSeparator_L2 (nI le) (nI P.length) (nI S.length) sv bi (fun _ => some (-1 : Int64))) n (nI p) = some (wvX (fso (sP al P S le) p (P.length - p))) := by
  have h40 := hT.2.2.2.1
  intro n
  induction n with
  | zero => intro a _ h; omega
  | succ n ih =>
    intro p hp hn
    rw [itr_s, f_Ta_firstSeparator_L2]
    rcases Nat.lt_or_ge p P.length with c | c
    · rw [if_neg (nI_ge c (by omega)), show nI p + (1 : Int32) = nI (p + 1) from nI_1 p, bnd_eq]
      rw [s_Ta_fs_L17 hT hal h3 hsv hb c (K := fun x2 => (bnd (nI (p + 1)) (fun x1_1 => (itr (fun _ => none) (f_Ta_firstSeparator_L2 (nI le) (nI P.length) (nI S.length) sv bi (fun _ => some (-1 : Int64))) n x1_1)))) (R := itr (fun _ => none) (f_Ta_firstSeparator_L2 (nI le) (nI P.length) (nI S.length) sv bi (fun _ => some (-1 : Int64))) n (nI (p + 1))) (fun _ => rfl) FU (p + 1) c (by rw [FU_eq]; omega)]
      cases e : fso (sQ al P S le p) (p + 1) (P.length - (p + 1)) with
      | some w => rw [oE_s, fso_s c (by rw [sP, e])]; rfl
      | none =>
        rw [oE_n, fso_n c (by rw [sP, e])]
        exact ih (p + 1) c (by omega)
    · rw [if_pos (nI_le c (by omega)), fso_ge c]
      rfl
theorem s_Ta_firstSeparator {le : Nat} {al : Wrd → Option Nat} {P S : List Wrd} {sv : Nat → Int64} {bi : Nat → Int32} (hT : tok le P S) (hal : aok al) (h3 : le ≤ 3) (hsv : rX S sv) (hb : bitsX al P S le bi) : f_Ta_firstSeparator (nI le) (nI P.length) (nI S.length) sv bi = some (wvX (sep al P S le)) :=
  s_Ta_fs_L2 hT hal h3 hsv hb FU 0 (Nat.zero_le _) (by rw [FU_eq]; have := hT.2.2.2.1; omega)
/-! the reference -/
theorem jb_0 : ∀ n i, fso (jb 0) i n = none
  | 0, _ => rfl
  | n + 1, i => by rw [fso, show jb 0 i = none by rw [jb, Nat.zero_div]; rfl]; exact jb_0 n (i + 1)
theorem jf_none {N x y : Nat} (hx : x < 2 ^ N) (hy : y < 2 ^ N) (h : fso (jb (x ^^^ y)) 0 (N - 0) = none) : x = y := by
  apply Nat.eq_of_testBit_eq
  intro i
  rcases Nat.lt_or_ge i N with c | c
  · have h1 := fso_none h i (Nat.zero_le _) (by omega)
    rw [jb] at h1
    by_cases z : (x ^^^ y) / 2 ^ i % 2 = 1
    · rw [if_pos z] at h1; cases h1
    · rw [xor_bit] at z
      rw [tb_dm, tb_dm, Decidable.not_not.mp z]
  · have hp : 2 ^ N ≤ 2 ^ i := Nat.pow_le_pow_right (by decide) c
    rw [Nat.testBit_lt_two_pow (by omega), Nat.testBit_lt_two_pow (by omega)]
theorem s_Mo_ic_L88 {d N i : Nat} (hd : d < 65536) (hN : N ≤ 16) {K : Int32 → Option (Int32 × (Nat → Int64) × Int32)} : ∀ (n j : Nat), N - j < n → fso (jb d) j (N - j) = some i → itr (fun _ => none) (f_Mo_isInconsistent_L88 (nI d) K) n (nI j) = K (nI i) := by
  intro n
  induction n with
  | zero => intro j h; omega
  | succ n ih =>
    intro j hn h
    rw [itr_s, f_Mo_isInconsistent_L88]
    rcases Nat.lt_or_ge j N with c | c
    · rw [bitI (by omega) (by omega)]
      by_cases z : d / 2 ^ j % 2 = 1
      · rw [fso_s c (by rw [jb, if_pos z])] at h
        cases h
        rw [if_neg (by rw [z]; decide)]
      · have hz : d / 2 ^ j % 2 < 2 := Nat.mod_lt _ (by decide)
        rw [fso_n c (by rw [jb, if_neg z])] at h
        rw [if_pos (by rw [show d / 2 ^ j % 2 = 0 by omega]; rfl), bnd_eq, show nI j + 1 = nI (j + 1) from nI_1 j]
        exact ih (j + 1) (by omega) h
    · rw [fso_ge c] at h; cases h
theorem s_Mo_extension {P : List Wrd} {le p a : Nat} {m : Nat → Int32} (h1 : m 1 = nI le) (h38 : m 38 = nI P.length) : f_Mo_extension (nI p) (nI a) m = some (nI (P.length + (p * le + a))) := by
  rw [f_Mo_extension, h1, h38, pk_mul, nI_add, nI_add, Nat.add_assoc, Nat.mul_comm p]
theorem s_Mo_ic_L30 {le : Nat} {al : Wrd → Option Nat} {P S : List Wrd} {m row : Nat → Int32} {w more : Nat → Int64} (hT : tok le P S) (hal : aok al) (h3 : le ≤ 3) (hM : tabM le P S m w) (hr : ∀ r, r < P.length * (1 + le) → row r = nI (Rw al S (twf P le r))) {p q : Nat} (hp : p < P.length) (hq : q < P.length) (hpq : Rw al S (pw P p) = Rw al S (pw P q)) {K : Int32 → Option (Int32 × (Nat → Int64) × Int32)} {R : Option (Int32 × (Nat → Int64) × Int32)} (hK : ∀ x, K x = R) :
    ∀ (n a : Nat), a ≤ le → le - a < n → itr (fun _ => none) (f_Mo_isInconsistent_L30 m w row more (nI p) (nI q) K) n (nI a) = oE (fso (sA al P S p q) a (le - a)) (fun u => bd2 (f_Mo_wants (lN (eM u)) (1 : Int32) (0 : Int32) m w more) (fun v_more_1 v_mores_1 => (some ((1 : Int32), v_more_1, v_mores_1)))) R := by
  have h40 := hT.2.2.2.1
  have h16 := hT.2.2.2.2.1
  have hN : P.length * (1 + le) ≤ 160 := by have := Nat.mul_le_mul h40 (show 1 + le ≤ 4 by omega); omega
  have hN2 : P.length * (1 + le) = P.length + P.length * le := by rw [Nat.mul_add, Nat.mul_one]
  intro n
  induction n with
  | zero => intro a _ h; omega
  | succ n ih =>
    intro a ha hn
    rw [itr_s, f_Mo_isInconsistent_L30, hM.1]
    rcases Nat.lt_or_ge a le with c | c
    · have k1 := kl_lt hp c
      have k2 := kl_lt hq c
      rw [if_neg (nI_ge c (by omega)), gIn_nI (by omega) (by omega), gIn_nI (by omega) (by omega), nI_clamp (by omega), nI_clamp (by omega), hr p (by omega), hr q (by omega), twf_p hp, twf_p hq, if_pos (by rw [hpq]), s_Mo_extension hM.1 hM.2.1, bd1_s, gIn_nI (by omega) (by omega), s_Mo_extension hM.1 hM.2.1, bd1_s, gIn_nI (by omega) (by omega), nI_clamp (by omega), nI_clamp (by omega), hr _ k1, hr _ k2, twf_e c, twf_e c, fb_xorI, bnd_eq]
      have l1 := Rw_lt hal h16 (pw P p ++ [a])
      have l2 := Rw_lt hal h16 (pw P q ++ [a])
      by_cases z : Rw al S (pw P p ++ [a]) = Rw al S (pw P q ++ [a])
      · rw [z, Nat.xor_self, if_pos (show nI 0 = (0 : Int32) from rfl), bnd_eq, show nI a + 1 = nI (a + 1) from nI_1 a, fso_n c (by rw [sA, z, Nat.xor_self, jb_0, Option.map_none])]
        exact ih (a + 1) c (by omega)
      · have lx := xlt l1 l2
        cases e : fso (jb (Rw al S (pw P p ++ [a]) ^^^ Rw al S (pw P q ++ [a]))) 0 (S.length - 0) with
        | none => exact absurd (jf_none (rv_lt hal S _ _) (rv_lt hal S _ _) e) z
        | some i =>
          obtain ⟨i', -, h5, h6⟩ := fso_spec e
          have hi : i' = i := by
            rw [jb] at h6
            by_cases y : (Rw al S (pw P p ++ [a]) ^^^ Rw al S (pw P q ++ [a])) / 2 ^ i' % 2 = 1
            · rw [if_pos y] at h6; cases h6; rfl
            · rw [if_neg y] at h6; cases h6
          subst hi
          have hi : i' < S.length := by omega
          obtain ⟨q1, q2⟩ := tok_s hT _ (List.getElem_mem hi)
          rw [if_neg (fun y : nI (Rw al S (pw P p ++ [a]) ^^^ Rw al S (pw P q ++ [a])) = (0 : Int32) => z (by
            have y := (nI_eq (b := 0) (by omega) (by decide)).mp y
            rw [y, jb_0] at e
            cases e))]
          have h88 := s_Mo_ic_L88 lx h16 (K := fun x5 => (bd1 (f_Mo_longer (0 : Int64) (nI a)) (fun r_2 => (gIn ((344 : Int32) + x5) 360 (bd1 (f_Mo_joined r_2 (w ((344 : Int32) + x5).toNatClampNeg)) (fun r_3 => (bd2 (f_Mo_wants r_3 (1 : Int32) (0 : Int32) m w more) (fun v_more_1 v_mores_1 => (some ((1 : Int32), v_more_1, v_mores_1)))))))))) FU 0 (by rw [FU_eq]; omega) e
          rw [nI_0] at h88
          rw [h88, fso_s c (by rw [sA, e, Option.map_some]), oE_s]
          have hl := s_Mo_longer' (w := []) (a := a) (by omega)
          rw [eM_nil, List.nil_append] at hl
          rw [show (0 : Int64) = lN 0 from rfl, hl, bd1_s, show (344 : Int32) + nI i' = nI (344 + i') from nI_add 344 i', gIn_nI (by omega) (by omega), nI_clamp (by omega), hM.2.2.2.2 i' hi, s_Mo_joined (wok_one.mpr (by omega)) (wle_ok q1 h3) (by rw [List.length_singleton]; omega), bd1_s, pw_eq hi]
    · rw [if_pos (nI_le c (by omega)), hK, fso_ge c, oE_n]
theorem s_Mo_ic_L17 {le : Nat} {al : Wrd → Option Nat} {P S : List Wrd} {m row : Nat → Int32} {w more : Nat → Int64} (hT : tok le P S) (hal : aok al) (hle : 0 < le) (h3 : le ≤ 3) (hM : tabM le P S m w) (hr : ∀ r, r < P.length * (1 + le) → row r = nI (Rw al S (twf P le r))) {p : Nat} (hp : p < P.length) {K : Int32 → Option (Int32 × (Nat → Int64) × Int32)} {R : Option (Int32 × (Nat → Int64) × Int32)} (hK : ∀ x, K x = R) :
    ∀ (n q : Nat), q ≤ P.length → P.length - q < n → itr (fun _ => none) (f_Mo_isInconsistent_L17 m w row more (nI p) K) n (nI q) = oE (fso (sQ al P S le p) q (P.length - q)) (fun u => bd2 (f_Mo_wants (lN (eM u)) (1 : Int32) (0 : Int32) m w more) (fun v_more_1 v_mores_1 => (some ((1 : Int32), v_more_1, v_mores_1)))) R := by
  have h40 := hT.2.2.2.1
  have h16 := hT.2.2.2.2.1
  have hN : P.length * (1 + le) ≤ 160 := by have := Nat.mul_le_mul h40 (show 1 + le ≤ 4 by omega); omega
  have hN2 : P.length * (1 + le) = P.length + P.length * le := by rw [Nat.mul_add, Nat.mul_one]
  intro n
  induction n with
  | zero => intro q _ h; omega
  | succ n ih =>
    intro q hq hn
    rw [itr_s, f_Mo_isInconsistent_L17, hM.2.1]
    rcases Nat.lt_or_ge q P.length with c | c
    · rw [if_neg (nI_ge c (by omega))]
      have l1 := Rw_lt hal h16 (pw P p)
      have l2 := Rw_lt hal h16 (pw P q)
      by_cases z : Rw al S (pw P p) = Rw al S (pw P q)
      · have h1 := s_Mo_ic_L30 (more := more) hT hal h3 hM hr hp c z (K := fun x3 => (bnd (nI q + 1) (fun x2_1 => (itr (fun _ => none) (f_Mo_isInconsistent_L17 m w row more (nI p) K) n x2_1)))) (R := itr (fun _ => none) (f_Mo_isInconsistent_L17 m w row more (nI p) K) n (nI q + 1)) (fun _ => rfl) FU 0 (Nat.zero_le _) (by rw [FU_eq]; omega)
        rw [nI_0] at h1
        rw [h1]
        cases e : fso (sA al P S p q) 0 (le - 0) with
        | none =>
          rw [oE_n, show nI q + 1 = nI (q + 1) from nI_1 q, fso_n c (by rw [sQ, if_pos z, e])]
          exact ih (q + 1) c (by omega)
        | some u => rw [oE_s, fso_s c (by rw [sQ, if_pos z, e]), oE_s]
      · rw [FU_eq, show (5000 : Nat) = 4999 + 1 from rfl, itr_s, f_Mo_isInconsistent_L30, hM.1, if_neg (show ¬ nI le ≤ (0 : Int32) from nI_ge (a := 0) hle (by omega)), gIn_nI (by omega) (by omega), gIn_nI (by omega) (by omega), nI_clamp (by omega), nI_clamp (by omega), hr p (by omega), hr q (by omega), twf_p hp, twf_p c, if_neg (fun y => z ((nI_eq (by omega) (by omega)).mp y)), bnd_eq, show nI q + 1 = nI (q + 1) from nI_1 q, fso_n c (by rw [sQ, if_neg z])]
        exact ih (q + 1) c (by omega)
    · rw [if_pos (nI_le c (by omega)), hK, fso_ge c, oE_n]
theorem s_Mo_ic_L2 {le : Nat} {al : Wrd → Option Nat} {P S : List Wrd} {m row : Nat → Int32} {w more : Nat → Int64} {mores : Int32} (hT : tok le P S) (hal : aok al) (hle : 0 < le) (h3 : le ≤ 3) (hM : tabM le P S m w) (hr : ∀ r, r < P.length * (1 + le) → row r = nI (Rw al S (twf P le r))) :
    ∀ (n p : Nat), p ≤ P.length → P.length - p < n → itr (fun _ => none) (f_Mo_isInconsistent_L2 m w row more (fun _ => some ((0 : Int32), more, mores))) n (nI p) = oE (fso (sP al P S le) p (P.length - p)) (fun u => bd2 (f_Mo_wants (lN (eM u)) (1 : Int32) (0 : Int32) m w more) (fun v_more_1 v_mores_1 => (some ((1 : Int32), v_more_1, v_mores_1)))) (some ((0 : Int32), more, mores)) := by
  have h40 := hT.2.2.2.1
  intro n
  induction n with
  | zero => intro p _ h; omega
  | succ n ih =>
    intro p hp hn
    rw [itr_s, f_Mo_isInconsistent_L2, hM.2.1]
    rcases Nat.lt_or_ge p P.length with c | c
    · rw [if_neg (nI_ge c (by omega)), show nI p + (1 : Int32) = nI (p + 1) from nI_1 p, bnd_eq]
      rw [s_Mo_ic_L17 hT hal hle h3 hM hr c (K := fun x2_1 => (bnd (nI (p + 1)) (fun x1_1 => (itr (fun _ => none) (f_Mo_isInconsistent_L2 m w row more (fun _ => some ((0 : Int32), more, mores))) n x1_1)))) (R := itr (fun _ => none) (f_Mo_isInconsistent_L2 m w row more (fun _ => some ((0 : Int32), more, mores))) n (nI (p + 1))) (fun _ => rfl) FU (p + 1) c (by rw [FU_eq]; omega)]
      cases e : fso (sQ al P S le p) (p + 1) (P.length - (p + 1)) with
      | some u => rw [oE_s, fso_s c (by rw [sP, e]), oE_s]
      | none =>
        rw [oE_n, fso_n c (by rw [sP, e])]
        exact ih (p + 1) c (by omega)
    · rw [if_pos (nI_le c (by omega)), fso_ge c, oE_n]
theorem s_Mo_isInconsistent {le : Nat} {al : Wrd → Option Nat} {P S : List Wrd} {m row : Nat → Int32} {w more : Nat → Int64} {mores : Int32} (hT : tok le P S) (hal : aok al) (hle : 0 < le) (h3 : le ≤ 3) (hM : tabM le P S m w) (hr : ∀ r, r < P.length * (1 + le) → row r = nI (Rw al S (twf P le r))) : f_Mo_isInconsistent mores m w row more = oE (sep al P S le) (fun u => bd2 (f_Mo_wants (lN (eM u)) (1 : Int32) (0 : Int32) m w more) (fun v_more_1 v_mores_1 => (some ((1 : Int32), v_more_1, v_mores_1)))) (some ((0 : Int32), more, mores)) :=
  s_Mo_ic_L2 hT hal hle h3 hM hr FU 0 (Nat.zero_le _) (by rw [FU_eq]; have := hT.2.2.2.1; omega)

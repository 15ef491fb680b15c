/-! ===== which states are reached, and by how many letters ===== -/
def sucI (mv : Nat → Nat) (S s : Nat) : Nat → Nat → Nat → Nat
  | 0, _, T => T
  | r + 1, a, T => sucI mv S s r (a + 1) (T ||| (S / 2 ^ s % 2) * 2 ^ (mv (3 * s + a)))
def sucO (mv : Nat → Nat) (le S : Nat) : Nat → Nat → Nat → Nat
  | 0, _, T => T
  | r + 1, s, T => sucO mv le S r (s + 1) (sucI mv S s le 0 T)
def msk (mv : Nat → Nat) (sz le : Nat) : Nat → Nat
  | 0 => 1
  | d + 1 => msk mv sz le d ||| sucO mv le (msk mv sz le d) sz 0 0
def rch (mv : Nat → Nat) (sz le d s : Nat) : Bool := (msk mv sz le d).testBit s
theorem tb_mul (S s k j : Nat) : ((S / 2 ^ s % 2) * 2 ^ k).testBit j = (S.testBit s && decide (k = j)) := by
  rw [← Nat.toNat_testBit]
  cases S.testBit s with
  | true => simp [Nat.testBit_two_pow]
  | false => simp
theorem sucI_bit (mv : Nat → Nat) (S s j : Nat) : ∀ (r a T : Nat), (sucI mv S s r a T).testBit j = true ↔ (T.testBit j = true ∨ (S.testBit s = true ∧ ∃ b, a ≤ b ∧ b < a + r ∧ mv (3 * s + b) = j))
  | 0, a, T => by
    rw [sucI]
    constructor
    · exact Or.inl
    · rintro (h | ⟨-, b, h1, h2, -⟩)
      · exact h
      · omega
  | r + 1, a, T => by
    rw [sucI, sucI_bit mv S s j r (a + 1), Nat.testBit_or, tb_mul, Bool.or_eq_true, Bool.and_eq_true, decide_eq_true_eq]
    constructor
    · rintro ((h | ⟨h1, h2⟩) | ⟨h1, b, h2, h3, h4⟩)
      · exact Or.inl h
      · exact Or.inr ⟨h1, a, Nat.le_refl _, by omega, h2⟩
      · exact Or.inr ⟨h1, b, by omega, by omega, h4⟩
    · rintro (h | ⟨h1, b, h2, h3, h4⟩)
      · exact Or.inl (Or.inl h)
      · rcases Nat.lt_or_ge a b with z | z
        · exact Or.inr ⟨h1, b, by omega, by omega, h4⟩
        · have : b = a := by omega
          subst this
          exact Or.inl (Or.inr ⟨h1, h4⟩)
theorem sucO_bit (mv : Nat → Nat) (le S j : Nat) : ∀ (r s T : Nat), (sucO mv le S r s T).testBit j = true ↔ (T.testBit j = true ∨ ∃ t, s ≤ t ∧ t < s + r ∧ S.testBit t = true ∧ ∃ b, b < le ∧ mv (3 * t + b) = j)
  | 0, s, T => by
    rw [sucO]
    constructor
    · exact Or.inl
    · rintro (h | ⟨b, h1, h2, -⟩)
      · exact h
      · omega
  | r + 1, s, T => by
    rw [sucO, sucO_bit mv le S j r (s + 1), sucI_bit]
    constructor
    · rintro ((h | ⟨h1, b, h2, h3, h4⟩) | ⟨t, h1, h2, h3⟩)
      · exact Or.inl h
      · exact Or.inr ⟨s, Nat.le_refl _, by omega, h1, b, by omega, h4⟩
      · exact Or.inr ⟨t, by omega, by omega, h3⟩
    · rintro (h | ⟨t, h1, h2, h3, b, h4, h5⟩)
      · exact Or.inl (Or.inl h)
      · rcases Nat.lt_or_ge s t with z | z
        · exact Or.inr ⟨t, by omega, by omega, h3, b, h4, h5⟩
        · have : t = s := by omega
          subst this
          exact Or.inl (Or.inr ⟨h3, b, Nat.zero_le _, by omega, h5⟩)
theorem rch_0 {mv : Nat → Nat} {sz le s : Nat} : rch mv sz le 0 s = true ↔ s = 0 := by
  rw [rch, msk]
  cases s with
  | zero => decide
  | succ s =>
    have : (1 : Nat).testBit (s + 1) = false := by rw [Nat.testBit_succ]; simp
    rw [this]; simp
theorem rch_s {mv : Nat → Nat} {sz le d s : Nat} : rch mv sz le (d + 1) s = true ↔ (rch mv sz le d s = true ∨ ∃ t, t < sz ∧ rch mv sz le d t = true ∧ ∃ a, a < le ∧ mv (3 * t + a) = s) := by
  rw [rch, msk, Nat.testBit_or, Bool.or_eq_true, sucO_bit]
  constructor
  · rintro (h | h | ⟨t, -, h2, h3, h4⟩)
    · exact Or.inl h
    · simp at h
    · exact Or.inr ⟨t, by omega, h3, h4⟩
  · rintro (h | ⟨t, h2, h3, h4⟩)
    · exact Or.inl h
    · exact Or.inr (Or.inr ⟨t, Nat.zero_le _, by omega, h3, h4⟩)
theorem rch_mono {mv : Nat → Nat} {sz le d e s : Nat} (h : d ≤ e) (hs : rch mv sz le d s = true) : rch mv sz le e s = true := by
  induction e with
  | zero => have : d = 0 := by omega
            subst this; exact hs
  | succ e ih =>
    rcases Nat.lt_or_ge d (e + 1) with z | z
    · exact rch_s.mpr (Or.inl (ih (by omega)))
    · have : d = e + 1 := by omega
      subst this; exact hs
theorem rch_stop {mv : Nat → Nat} {sz le d : Nat} (hm : mok sz le mv) (h : ∀ s, s < sz → rch mv sz le (d + 1) s = rch mv sz le d s) : ∀ e s, s < sz → rch mv sz le (d + e) s = rch mv sz le d s
  | 0, s, _ => rfl
  | e + 1, s, hs => by
    have ih := rch_stop hm h e
    rw [← h s hs]
    have : ∀ x y : Bool, (x = true ↔ y = true) → x = y := by decide
    apply this
    rw [show d + (e + 1) = (d + e) + 1 by omega, rch_s, rch_s, ih s hs]
    constructor
    · rintro (q | ⟨t, h1, h2, h3⟩)
      · exact Or.inl q
      · exact Or.inr ⟨t, h1, by rw [← ih t h1]; exact h2, h3⟩
    · rintro (q | ⟨t, h1, h2, h3⟩)
      · exact Or.inl q
      · exact Or.inr ⟨t, h1, by rw [ih t h1]; exact h2, h3⟩
theorem rch_grow {mv : Nat → Nat} {sz le : Nat} (hm : mok sz le mv) : ∀ d, (∃ e, e < d ∧ ∀ s, s < sz → rch mv sz le (e + 1) s = rch mv sz le e s) ∨ d + 1 ≤ fb_ct (rch mv sz le d) sz
  | 0 => by
    right
    have : 0 < fb_ct (rch mv sz le 0) sz := fb_ct_pos.mpr ⟨0, hm.1, rch_0.mpr rfl⟩
    omega
  | d + 1 => by
    rcases rch_grow hm d with ⟨e, h1, h2⟩ | h
    · exact Or.inl ⟨e, by omega, h2⟩
    · by_cases c : ∀ s, s < sz → rch mv sz le (d + 1) s = rch mv sz le d s
      · exact Or.inl ⟨d, by omega, c⟩
      · right
        obtain ⟨x, hx⟩ := Classical.not_forall.mp c
        obtain ⟨hx1, hx2⟩ := Classical.not_imp.mp hx
        have n1 : rch mv sz le d x = false := by
          cases q : rch mv sz le d x with
          | false => rfl
          | true => exact absurd ((rch_mono (Nat.le_succ d) q).trans q.symm) hx2
        have n2 : rch mv sz le (d + 1) x = true := by
          cases q : rch mv sz le (d + 1) x with
          | true => rfl
          | false => exact absurd (q.trans n1.symm) hx2
        have h3 := fb_ct_upd (rch mv sz le d) true hx1
        rw [n1, if_neg (by decide), if_pos rfl] at h3
        have h4 := fb_ct_sub (p := fun k => if k = x then true else rch mv sz le d k) (q := rch mv sz le (d + 1)) (n := sz) (fun k _ hk => by
          by_cases e : k = x
          · rw [e]; exact n2
          · rw [if_neg e] at hk
            exact rch_mono (Nat.le_succ d) hk)
        omega
/-- what is reached at all is reached by fewer letters than there are states -/
theorem rch_small {mv : Nat → Nat} {sz le : Nat} (hm : mok sz le mv) {d s : Nat} (hs : s < sz) (h : rch mv sz le d s = true) : rch mv sz le (sz - 1) s = true := by
  rcases rch_grow hm sz with ⟨e, h1, h2⟩ | h3
  · have h4 := rch_stop hm h2
    have h5 : rch mv sz le e s = true := by
      rcases Nat.lt_or_ge e d with z | z
      · have := h4 (d - e) s hs
        rw [show e + (d - e) = d by omega] at this
        rw [← this]; exact h
      · exact rch_mono z h
    exact rch_mono (by omega) h5
  · have := fb_ct_le (rch mv sz le sz) sz
    omega
/-- the distance, as both answer it -/
def dN (mv : Nat → Nat) (sz le s : Nat) : Int32 := match (List.range sz).find? (fun d => rch mv sz le d s) with | none => -1 | some d => nI d
theorem dN_some {mv : Nat → Nat} {sz le s d : Nat} (hd : d < sz) (h : rch mv sz le d s = true) (hn : ∀ e, e < d → rch mv sz le e s = false) : dN mv sz le s = nI d := by
  have : (List.range sz).find? (fun d => rch mv sz le d s) = some d := by
    rw [List.find?_range_eq_some]
    exact ⟨h, List.mem_range.mpr hd, fun j hj => by simp [hn j hj]⟩
  rw [dN, this]
theorem dN_none {mv : Nat → Nat} {sz le s : Nat} (h : ∀ d, d < sz → rch mv sz le d s = false) : dN mv sz le s = -1 := by
  have : (List.range sz).find? (fun d => rch mv sz le d s) = none := by
    rw [List.find?_eq_none]
    intro d hd
    simp [h d (List.mem_range.mp hd)]
  rw [dN, this]
theorem dN_neg {mv : Nat → Nat} {sz le s : Nat} (hm : mok sz le mv) (h8 : sz ≤ 8) (hs : s < sz) : dN mv sz le s = -1 ↔ rch mv sz le (sz - 1) s = false := by
  cases q : rch mv sz le (sz - 1) s with
  | false =>
    refine ⟨fun _ => rfl, fun _ => dN_none (fun d hd => ?_)⟩
    cases z : rch mv sz le d s with
    | false => rfl
    | true => rw [rch_small hm hs z] at q; cases q
  | true =>
    refine ⟨fun h => ?_, fun h => by cases h⟩
    obtain ⟨d, h1, h2⟩ := pk_least (fun d => rch mv sz le d s = true) ⟨_, q⟩
    have hd : d < sz := by
      rcases Nat.lt_or_ge d sz with z | z
      · exact z
      · exact absurd q (h2 _ (by have := hm.1; omega))
    rw [dN_some hd h1 (fun e he => by
      cases z : rch mv sz le e s with
      | false => rfl
      | true => exact absurd z (h2 e he)), show (-1 : Int32) = mI 1 from rfl, nm_eq (by omega) (by omega) (by omega)] at h
    exact h.elim
theorem sucI_lt {mv : Nat → Nat} {S s : Nat} : ∀ (r a T : Nat), (∀ b, b < a + r → mv (3 * s + b) < 8) → T < 2 ^ 8 → sucI mv S s r a T < 2 ^ 8
  | 0, a, T, _, h => h
  | r + 1, a, T, hm, h => by
    rw [sucI]
    refine sucI_lt r (a + 1) _ (fun b hb => hm b (by omega)) (Nat.or_lt_two_pow h ?_)
    have h1 := hm a (by omega)
    have h2 : 2 ^ (mv (3 * s + a)) ≤ 2 ^ 7 := Nat.pow_le_pow_right (by decide) (by omega)
    have h3 : S / 2 ^ s % 2 ≤ 1 := by omega
    have h4 := Nat.mul_le_mul h3 h2
    omega
theorem sucO_lt {mv : Nat → Nat} {sz le S : Nat} (hm : mok sz le mv) (h8 : sz ≤ 8) : ∀ (r s T : Nat), s + r ≤ sz → T < 2 ^ 8 → sucO mv le S r s T < 2 ^ 8
  | 0, s, T, _, h => h
  | r + 1, s, T, hs, h => by
    rw [sucO]
    exact sucO_lt hm h8 r (s + 1) _ (by omega) (sucI_lt le 0 T (fun b hb => by have := hm.2 s b (by omega) (by omega); omega) h)
theorem msk_lt {mv : Nat → Nat} {sz le : Nat} (hm : mok sz le mv) (h8 : sz ≤ 8) : ∀ d, msk mv sz le d < 2 ^ 8
  | 0 => by rw [msk]; decide
  | d + 1 => by rw [msk]; exact Nat.or_lt_two_pow (msk_lt hm h8 d) (sucO_lt hm h8 sz 0 0 (by omega) (by decide))
/-! the class -/
theorem s_Au_succ_inner {sz le : Nat} {mv : Nat → Nat} {v : Nat → Int32} (h8 : sz ≤ 8) (hle : le ≤ 3) (hv : rI 24 mv v) (hm : mok sz le mv) {S s : Nat} (hS : S < 2 ^ 8) (hs : s < sz) {K : Int64 → Int32 → Option Int64} {R : Int64 → Option Int64} (hK : ∀ x y, K x y = R x) :
    ∀ (n r a T : Nat), a + r = le → r < n → itr (fun _ _ => none) (f_Au_successors_L17 24 (nI le) v (lN S) (nI s) K) n (lN T) (nI a) = R (lN (sucI mv S s r a T)) := by
  intro n
  induction n with
  | zero => intro r a T _ h; omega
  | succ n ih =>
    intro r a T har hrn
    rw [itr_s, f_Au_successors_L17]
    cases r with
    | zero => rw [if_pos (nI_le (by omega) (by omega)), hK, sucI]
    | succ r =>
      have b1 := hm.2 s a hs (by omega)
      rw [if_neg (nI_ge (by omega) (by omega)), f_Au_next, show nI s * (3 : Int32) = nI (s * 3) from pk_mul s 3, nI_add, gIn_nI (by omega) (by omega), bd1_s, nI_clamp (by omega), hv _ (by omega), Nat.mul_comm s 3]
      simp only [bnd]
      rw [lN_shrK (by omega) (by omega), wb_a1 (Nat.lt_of_le_of_lt (Nat.div_le_self _ _) (by omega)), wb_shl _ (by omega), fb_orL, show nI a + 1 = nI (a + 1) from nI_1 a, sucI]
      exact ih r (a + 1) _ (by omega) (by omega)
theorem s_Au_succ_outer {sz le : Nat} {mv : Nat → Nat} {v : Nat → Int32} (h8 : sz ≤ 8) (hle : le ≤ 3) (hv : rI 24 mv v) (hm : mok sz le mv) {S : Nat} (hS : S < 2 ^ 8) :
    ∀ (n r s T : Nat), s + r = sz → r < n → itr (fun _ _ => none) (f_Au_successors_L5 24 (nI sz) (nI le) v (lN S) (fun x3 _ => some x3)) n (lN T) (nI s) = some (lN (sucO mv le S r s T)) := by
  intro n
  induction n with
  | zero => intro r s T _ h; omega
  | succ n ih =>
    intro r s T hsr hrn
    rw [itr_s, f_Au_successors_L5]
    cases r with
    | zero => rw [if_pos (nI_le (by omega) (by omega)), sucO]
    | succ r =>
      rw [if_neg (nI_ge (by omega) (by omega))]
      have := s_Au_succ_inner h8 hle hv hm hS (show s < sz by omega) (R := fun x => itr (fun _ _ => none) (f_Au_successors_L5 24 (nI sz) (nI le) v (lN S) (fun x3 _ => some x3)) n x (nI s + 1)) (K := fun x3_1 x6 => bnd (nI s + 1) (fun x5_1 => itr (fun _ _ => none) (f_Au_successors_L5 24 (nI sz) (nI le) v (lN S) (fun x3 _ => some x3)) n x3_1 x5_1)) (fun _ _ => rfl) FU le 0 T (by omega) (by rw [FU_eq]; omega)
      rw [nI_0] at this
      rw [this, show nI s + 1 = nI (s + 1) from nI_1 s, sucO]
      exact ih r (s + 1) _ (by omega) (by omega)
theorem s_Au_successors {sz le : Nat} {mv : Nat → Nat} {v : Nat → Int32} (h8 : sz ≤ 8) (hle : le ≤ 3) (hv : rI 24 mv v) (hm : mok sz le mv) {S : Nat} (hS : S < 2 ^ 8) : f_Au_successors 24 (lN S) (nI sz) (nI le) v = some (lN (sucO mv le S sz 0 0)) := by
  have := s_Au_succ_outer h8 hle hv hm hS FU sz 0 0 (by omega) (by rw [FU_eq]; omega)
  exact this
theorem s_Au_dist_loop {sz le : Nat} {mv : Nat → Nat} {v : Nat → Int32} (h8 : sz ≤ 8) (hle : le ≤ 3) (hv : rI 24 mv v) (hm : mok sz le mv) {t : Nat} (ht : t < sz) :
    ∀ (n d : Nat), d ≤ sz → sz - d < n → (∀ e, e < d → rch mv sz le e t = false) → itr (fun _ _ => none) (f_Au_distanceTo_L5 24 (nI sz) (nI le) v (nI t) (fun _ _ => some (-1 : Int32))) n (lN (msk mv sz le d)) (nI d) = some (dN mv sz le t) := by
  intro n
  induction n with
  | zero => intro d _ h; omega
  | succ n ih =>
    intro d hd hn hno
    rw [itr_s, f_Au_distanceTo_L5]
    have hlt := msk_lt hm h8 d
    rcases Nat.lt_or_ge d sz with c | c
    · rw [if_neg (nI_ge c (by omega)), lN_shrK (by omega) (by omega), wb_a1 (Nat.lt_of_le_of_lt (Nat.div_le_self _ _) (by omega)), show (1 : Int64) = lN 1 from rfl, ← Nat.toNat_testBit]
      cases q : (msk mv sz le d).testBit t with
      | true => rw [if_pos (show lN true.toNat = lN 1 from rfl), dN_some c q hno]
      | false =>
        rw [if_neg (by decide), s_Au_successors h8 hle hv hm hlt, bd1_s]
        simp only [bnd]
        rw [fb_orL, show nI d + 1 = nI (d + 1) from nI_1 d]
        refine ih (d + 1) c (by omega) (fun e he => ?_)
        rcases Nat.lt_or_ge e d with z | z
        · exact hno e z
        · have : e = d := by omega
          subst this; exact q
    · have : d = sz := by omega
      subst this
      rw [if_pos (nI_le (Nat.le_refl _) (by omega)), dN_none hno]
theorem s_Au_distanceTo {sz le : Nat} {mv : Nat → Nat} {v : Nat → Int32} (h8 : sz ≤ 8) (hle : le ≤ 3) (hv : rI 24 mv v) (hm : mok sz le mv) {t : Nat} (ht : t < sz) : f_Au_distanceTo 24 (nI t) (nI sz) (nI le) v = some (dN mv sz le t) :=
  s_Au_dist_loop h8 hle hv hm ht FU 0 (Nat.zero_le _) (by rw [FU_eq]; omega) (fun e h => absurd h (Nat.not_lt_zero _))

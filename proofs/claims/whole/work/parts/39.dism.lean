/-! ===== the reference's distances; the least number of states ===== -/
theorem s_Mo_dist_L2 {K : Int32 → (Nat → Int32) → Option (Nat → Int32)} {f : Nat → Int32} : ∀ (n k : Nat), k ≤ 8 → 8 - k < n → itr (fun _ _ => none) (f_Mo_distances_L2 K) n (nI k) (fun j => if j < k then (if j = 0 then 0 else -1) else f j) = K (nI 8) (fun j => if j < 8 then (if j = 0 then 0 else -1) else f j) := by
  intro n
  induction n with
  | zero => intro k _ h; omega
  | succ n ih =>
    intro k hk h
    rw [itr_s, f_Mo_distances_L2, show (8 : Int32) = nI 8 from rfl]
    rcases Nat.lt_or_ge k 8 with c | c
    · rw [if_neg (nI_ge c (by omega)), bnd_eq, gIn_nI c (by omega), bnd_eq, bnd_eq, nI_clamp (by omega), show nI k + 1 = nI (k + 1) from nI_1 k, ← ih (k + 1) c (by omega)]
      refine congrArg _ (funext fun j => ?_)
      have e0 : (if nI k = 0 then (0 : Int32) else -1) = if k = 0 then 0 else -1 := by
        by_cases z : k = 0
        · rw [if_pos z, if_pos (by rw [z]; rfl)]
        · rw [if_neg z, if_neg (nI_ne0 (by omega) (by omega))]
      rw [e0]
      simp only [upd]
      by_cases e : j = k
      · rw [if_pos e, if_pos (show j < k + 1 by omega), e]
      · rw [if_neg e]
        by_cases c2 : j < k
        · rw [if_pos c2, if_pos (show j < k + 1 by omega)]
        · rw [if_neg c2, if_neg (show ¬ j < k + 1 by omega)]
    · have : k = 8 := by omega
      subst this
      rw [if_pos (nI_le (Nat.le_refl _) (by omega))]
/-- the row behind d rounds: the least number of letters, if it is at most d -/
def fr (mv : Nat → Nat) (sz le d s : Nat) : Int32 := match (List.range (d + 1)).find? (fun e => rch mv sz le e s) with | none => -1 | some e => nI e
theorem fr_some {mv : Nat → Nat} {sz le s d e : Nat} (he : e ≤ d) (h : rch mv sz le e s = true) (hn : ∀ j, j < e → rch mv sz le j s = false) : fr mv sz le d s = nI e := by
  have : (List.range (d + 1)).find? (fun e => rch mv sz le e s) = some e := by
    rw [List.find?_range_eq_some]
    exact ⟨h, List.mem_range.mpr (by omega), fun j hj => by simp [hn j hj]⟩
  rw [fr, this]
theorem fr_none {mv : Nat → Nat} {sz le s d : Nat} (h : rch mv sz le d s = false) : fr mv sz le d s = -1 := by
  have : (List.range (d + 1)).find? (fun e => rch mv sz le e s) = none := by
    rw [List.find?_eq_none]
    intro e he
    have := List.mem_range.mp he
    cases q : rch mv sz le e s with
    | false => simp
    | true => rw [rch_mono (by omega) q] at h; cases h
  rw [fr, this]
theorem fr_cases (mv : Nat → Nat) (sz le d s : Nat) : (rch mv sz le d s = false ∧ fr mv sz le d s = -1) ∨ ∃ e, e ≤ d ∧ rch mv sz le e s = true ∧ (∀ j, j < e → rch mv sz le j s = false) ∧ fr mv sz le d s = nI e := by
  cases q : rch mv sz le d s with
  | false => exact Or.inl ⟨rfl, fr_none q⟩
  | true =>
    obtain ⟨e, h1, h2⟩ := pk_least (fun d => rch mv sz le d s = true) ⟨_, q⟩
    have he : e ≤ d := by
      rcases Nat.lt_or_ge d e with z | z
      · exact absurd q (h2 d z)
      · exact z
    have h3 : ∀ j, j < e → rch mv sz le j s = false := fun j hj => by
      cases z : rch mv sz le j s with
      | false => rfl
      | true => exact absurd z (h2 j hj)
    exact Or.inr ⟨e, he, h1, h3, fr_some he h1 h3⟩
theorem fr_d {mv : Nat → Nat} {sz le d s : Nat} (hd : d < 100) : fr mv sz le d s = nI d ↔ (rch mv sz le d s = true ∧ ∀ j, j < d → rch mv sz le j s = false) := by
  constructor
  · intro h
    rcases fr_cases mv sz le d s with ⟨h1, h2⟩ | ⟨e, h1, h2, h3, h4⟩
    · rw [h2, show (-1 : Int32) = mI 1 from rfl, nm_eq2 (by omega) (by omega) (by omega)] at h; exact h.elim
    · rw [h4, nI_eq (by omega) (by omega)] at h
      subst h; exact ⟨h2, h3⟩
  · intro h; exact fr_some (Nat.le_refl _) h.1 h.2
theorem fr_m1 {mv : Nat → Nat} {sz le d s : Nat} (hd : d < 100) : fr mv sz le d s = -1 ↔ rch mv sz le d s = false := by
  constructor
  · intro h
    rcases fr_cases mv sz le d s with ⟨h1, h2⟩ | ⟨e, h1, h2, h3, h4⟩
    · exact h1
    · rw [h4, show (-1 : Int32) = mI 1 from rfl, nm_eq (by omega) (by omega) (by omega)] at h; exact h.elim
  · exact fr_none
/-- within round d, behind k moves -/
def fk (mv : Nat → Nat) (sz le d k s : Nat) : Int32 := if rch mv sz le d s = false ∧ (∃ j, j < k ∧ fr mv sz le d (j / le) = nI d ∧ mv (3 * (j / le) + j % le) = s) then nI (d + 1) else fr mv sz le d s
theorem s_Mo_dist_L39 {sz le : Nat} {mv : Nat → Nat} {m : Nat → Int32} (h8 : sz ≤ 8) (hle : le ≤ 3) (hle0 : 0 < le) (hv : rIo 2 24 mv m) (hms : m 0 = nI sz) (hml : m 1 = nI le) (hm : mok sz le mv) {d : Nat} (hd : d < 8) {K : Int32 → (Nat → Int32) → Option (Nat → Int32)} {R : (Nat → Int32) → Option (Nat → Int32)} (hK : ∀ x f, K x f = R f) {Z : Nat → Int32} :
    ∀ (n k : Nat) (f : Nat → Int32), k ≤ sz * le → sz * le - k < n → (∀ s, s < 8 → (s < sz → f s = fk mv sz le d k s) ∧ (sz ≤ s → f s = Z s)) → ∃ f', itr (fun _ _ => none) (f_Mo_distances_L39 m (nI d) K) n (nI k) f = R f' ∧ (∀ s, s < 8 → (s < sz → f' s = fk mv sz le d (sz * le) s) ∧ (sz ≤ s → f' s = Z s)) := by
  have hb : sz * le ≤ 24 := Nat.mul_le_mul h8 hle
  intro n
  induction n with
  | zero => intro k f _ h; omega
  | succ n ih =>
    intro k f hk hn hf
    rw [itr_s, f_Mo_distances_L39, hms, hml, pk_mul]
    rcases Nat.lt_or_ge k (sz * le) with c | c
    · have hs : k / le < sz := Nat.div_lt_of_lt_mul (by rw [Nat.mul_comm]; exact c)
      have ha : k % le < le := Nat.mod_lt _ hle0
      have hto := hm.2 _ _ hs ha
      rw [if_neg (nI_ge c (by omega)), gNz_nI hle0 (by omega), bnd_eq, gNz_nI hle0 (by omega), pk_rem (by omega) hle0 (by omega), pk_div (by omega) hle0 (by omega), show (3 : Int32) * nI (k / le) = nI (3 * (k / le)) from pk_mul 3 _, show (2 : Int32) + nI (3 * (k / le)) = nI (2 + 3 * (k / le)) from nI_add 2 _, nI_add, gIn_nI (by omega) (by omega), bnd_eq, Nat.add_assoc, nI_clamp (n := 2 + (3 * (k / le) + k % le)) (by omega), hv _ (by omega), gIn_nI (by omega) (by omega), nI_clamp (n := k / le) (by omega)]
      have hfs := (hf (k / le) (by omega)).1 hs
      have hft := (hf (mv (3 * (k / le) + k % le)) (by omega)).1 hto
      have hse : (f (k / le) = nI d) ↔ fr mv sz le d (k / le) = nI d := by
        rw [hfs, fk]
        split
        · rename_i h
          rw [fr_d (by omega), nI_eq (by omega) (by omega)]
          constructor
          · intro z; omega
          · intro z; rw [z.1] at h; exact absurd h.1 (by decide)
        · exact Iff.rfl
      -- the row behind this move
      have step : ∀ g : Nat → Int32, (∀ s, s < 8 → s ≠ mv (3 * (k / le) + k % le) → g s = f s) → g (mv (3 * (k / le) + k % le)) = fk mv sz le d (k + 1) (mv (3 * (k / le) + k % le)) → ∀ s, s < 8 → (s < sz → g s = fk mv sz le d (k + 1) s) ∧ (sz ≤ s → g s = Z s) := by
        intro g h1 h2 s hs8
        by_cases e : s = mv (3 * (k / le) + k % le)
        · rw [e]
          exact ⟨fun _ => h2, fun h => by omega⟩
        · rw [h1 s hs8 e]
          refine ⟨fun h => ?_, (hf s hs8).2⟩
          rw [(hf s hs8).1 h, fk, fk]
          have : (∃ j, j < k ∧ fr mv sz le d (j / le) = nI d ∧ mv (3 * (j / le) + j % le) = s) ↔ (∃ j, j < k + 1 ∧ fr mv sz le d (j / le) = nI d ∧ mv (3 * (j / le) + j % le) = s) := by
            constructor
            · rintro ⟨j, a, b⟩; exact ⟨j, by omega, b⟩
            · rintro ⟨j, a, b, c2⟩
              refine ⟨j, ?_, b, c2⟩
              rcases Nat.lt_or_ge j k with z | z
              · exact z
              · have : j = k := by omega
                subst this; exact absurd c2.symm e
          simp only [this]
      have keep : (¬ (fr mv sz le d (k / le) = nI d) ∨ ¬ f (mv (3 * (k / le) + k % le)) = -1) → f (mv (3 * (k / le) + k % le)) = fk mv sz le d (k + 1) (mv (3 * (k / le) + k % le)) := by
        intro hor
        rw [hft, fk] at *
        by_cases q : rch mv sz le d (mv (3 * (k / le) + k % le)) = false ∧ (∃ j, j < k ∧ fr mv sz le d (j / le) = nI d ∧ mv (3 * (j / le) + j % le) = mv (3 * (k / le) + k % le))
        · rw [if_pos q, fk, if_pos]
          obtain ⟨j, a, b⟩ := q.2
          exact ⟨q.1, j, by omega, b⟩
        · rw [if_neg q] at hor ⊢
          rw [fk, if_neg]
          rintro ⟨q1, j, a, b, c2⟩
          rcases Nat.lt_or_ge j k with z | z
          · exact q ⟨q1, j, z, b, c2⟩
          · have : j = k := by omega
            subst this
            rcases hor with h | h
            · exact h b
            · exact h (fr_none q1)
      by_cases c1 : fr mv sz le d (k / le) = nI d
      · rw [if_pos (hse.mpr c1), gIn_nI (by omega) (by omega), nI_clamp (by omega)]
        by_cases c2 : f (mv (3 * (k / le) + k % le)) = -1
        · rw [if_pos c2, f_Mo_distances_J126, gIn_nI (by omega) (by omega), bnd_eq, bnd_eq, nI_clamp (by omega), show nI d + (1 : Int32) = nI (d + 1) from nI_1 d, show nI k + 1 = nI (k + 1) from nI_1 k]
          refine ih (k + 1) _ c (by omega) (step _ (fun s _ hne => pk_un hne) ?_)
          rw [pk_us, fk, if_pos]
          refine ⟨?_, k, by omega, c1, rfl⟩
          rw [hft, fk] at c2
          split at c2
          · rename_i h; exact h.1
          · exact (fr_m1 (by omega)).mp c2
        · rw [if_neg c2, f_Mo_distances_J119, gIn_nI (by omega) (by omega), f_Mo_distances_J126, gIn_nI (by omega) (by omega), bnd_eq, bnd_eq, nI_clamp (by omega), show nI k + 1 = nI (k + 1) from nI_1 k]
          refine ih (k + 1) _ c (by omega) (step _ (fun s _ hne => pk_un hne) ?_)
          rw [pk_us]
          exact keep (Or.inr c2)
      · rw [if_neg (fun h => c1 (hse.mp h)), f_Mo_distances_J119, gIn_nI (by omega) (by omega), f_Mo_distances_J126, gIn_nI (by omega) (by omega), bnd_eq, bnd_eq, nI_clamp (by omega), show nI k + 1 = nI (k + 1) from nI_1 k]
        refine ih (k + 1) _ c (by omega) (step _ (fun s _ hne => pk_un hne) ?_)
        rw [pk_us]
        exact keep (Or.inl c1)
    · have : k = sz * le := by omega
      subst this
      rw [if_pos (nI_le (Nat.le_refl _) (by omega)), hK]
      exact ⟨f, rfl, hf⟩
theorem fk_end {sz le : Nat} {mv : Nat → Nat} (hle0 : 0 < le) {d s : Nat} (hd : d < 50) : fk mv sz le d (sz * le) s = fr mv sz le (d + 1) s := by
  rw [fk]
  by_cases q : rch mv sz le d s = false ∧ (∃ j, j < sz * le ∧ fr mv sz le d (j / le) = nI d ∧ mv (3 * (j / le) + j % le) = s)
  · rw [if_pos q]
    obtain ⟨q1, j, a, b, c⟩ := q
    refine (fr_some (Nat.le_refl _) ?_ (fun i hi => ?_)).symm
    · exact rch_s.mpr (Or.inr ⟨j / le, Nat.div_lt_of_lt_mul (by rw [Nat.mul_comm]; exact a), ((fr_d (by omega)).mp b).1, j % le, Nat.mod_lt _ hle0, c⟩)
    · cases z : rch mv sz le i s with
      | false => rfl
      | true => rw [rch_mono (by omega) z] at q1; cases q1
  · rw [if_neg q]
    rcases fr_cases mv sz le d s with ⟨h1, h2⟩ | ⟨e, h1, h2, h3, h4⟩
    · rw [h2]
      refine (fr_none ?_).symm
      cases z : rch mv sz le (d + 1) s with
      | false => rfl
      | true =>
        rcases rch_s.mp z with z | ⟨t, t1, t2, a, t3, t4⟩
        · rw [z] at h1; cases h1
        · refine absurd ⟨h1, t * le + a, ?_, ?_, ?_⟩ q
          · have := Nat.mul_le_mul_right le (show t + 1 ≤ sz by omega)
            rw [Nat.add_mul] at this
            omega
          · rw [show (t * le + a) / le = t by rw [Nat.mul_comm, Nat.mul_add_div hle0, Nat.div_eq_of_lt t3]; rfl, fr_d (by omega)]
            refine ⟨t2, fun i hi => ?_⟩
            cases y : rch mv sz le i t with
            | false => rfl
            | true =>
              have : rch mv sz le (i + 1) s = true := rch_s.mpr (Or.inr ⟨t, t1, y, a, t3, t4⟩)
              rw [rch_mono (by omega) this] at h1
              cases h1
          · rw [show (t * le + a) / le = t by rw [Nat.mul_comm, Nat.mul_add_div hle0, Nat.div_eq_of_lt t3]; rfl, show (t * le + a) % le = a by rw [Nat.mul_comm, Nat.mul_add_mod, Nat.mod_eq_of_lt t3]]
            exact t4
    · rw [h4, fr_some (by omega) h2 h3]
theorem fk_0 {sz le : Nat} {mv : Nat → Nat} {d s : Nat} : fk mv sz le d 0 s = fr mv sz le d s := by
  rw [fk, if_neg]
  rintro ⟨-, j, h, -⟩
  omega
theorem s_Mo_dist_L31 {sz le : Nat} {mv : Nat → Nat} {m : Nat → Int32} (h8 : sz ≤ 8) (hle : le ≤ 3) (hle0 : 0 < le) (hv : rIo 2 24 mv m) (hms : m 0 = nI sz) (hml : m 1 = nI le) (hm : mok sz le mv) :
    ∀ (n d : Nat) (f : Nat → Int32), d ≤ 8 → 8 - d < n → (∀ s, s < sz → f s = fr mv sz le d s) → ∃ f', itr (fun _ _ => none) (f_Mo_distances_L31 m (fun _ v => some v)) n (nI d) f = some f' ∧ ∀ s, s < sz → f' s = fr mv sz le 8 s := by
  intro n
  induction n with
  | zero => intro d f _ h; omega
  | succ n ih =>
    intro d f hd hn hf
    rw [itr_s, f_Mo_distances_L31, show (8 : Int32) = nI 8 from rfl]
    rcases Nat.lt_or_ge d 8 with c | c
    · rw [if_neg (nI_ge c (by omega))]
      obtain ⟨f', h1, h2⟩ := s_Mo_dist_L39 h8 hle hle0 hv hms hml hm c (K := fun x2 v_far_1 => bnd (nI d + 1) (fun x1_1 => itr (fun _ _ => none) (f_Mo_distances_L31 m (fun _ v => some v)) n x1_1 v_far_1)) (R := fun g => itr (fun _ _ => none) (f_Mo_distances_L31 m (fun _ v => some v)) n (nI d + 1) g) (fun _ _ => rfl) (Z := f) FU 0 f (Nat.zero_le _) (by rw [FU_eq]; have := Nat.mul_le_mul h8 hle; omega) (fun s _ => ⟨fun h => by rw [fk_0]; exact hf s h, fun _ => rfl⟩)
      rw [nI_0] at h1
      rw [h1, show nI d + 1 = nI (d + 1) from nI_1 d]
      exact ih (d + 1) f' c (by omega) (fun s hs => by rw [(h2 s (by omega)).1 hs, fk_end hle0 (by omega)])
    · have : d = 8 := by omega
      subst this
      rw [if_pos (nI_le (Nat.le_refl _) (by omega))]
      exact ⟨f, rfl, hf⟩
theorem fr_dN {sz le : Nat} {mv : Nat → Nat} (hm : mok sz le mv) (h8 : sz ≤ 8) {s : Nat} (hs : s < sz) : fr mv sz le 8 s = dN mv sz le s := by
  rcases fr_cases mv sz le 8 s with ⟨h1, h2⟩ | ⟨e, h1, h2, h3, h4⟩
  · rw [h2]
    refine (dN_none (fun d hd => ?_)).symm
    cases z : rch mv sz le d s with
    | false => rfl
    | true => rw [rch_mono (by omega) z] at h1; cases h1
  · rw [h4]
    have he : e < sz := by
      rcases Nat.lt_or_ge e sz with z | z
      · exact z
      · have := rch_small hm hs h2
        have h0 := hm.1
        rw [h3 (sz - 1) (by omega)] at this
        cases this
    rw [dN_some he h2 h3]
theorem s_Mo_distances {sz le : Nat} {mv : Nat → Nat} {m f : Nat → Int32} (h8 : sz ≤ 8) (hle : le ≤ 3) (hle0 : 0 < le) (hv : rIo 2 24 mv m) (hms : m 0 = nI sz) (hml : m 1 = nI le) (hm : mok sz le mv) :
    ∃ f', f_Mo_distances m f = some f' ∧ ∀ s, s < sz → f' s = dN mv sz le s := by
  rw [f_Mo_distances]
  have h0 := fun K => s_Mo_dist_L2 (K := K) (f := f) FU 0 (Nat.zero_le _) (by rw [FU_eq]; omega)
  have e0 : (fun j => if j < 0 then (if j = 0 then (0 : Int32) else -1) else f j) = f := funext fun j => if_neg (Nat.not_lt_zero _)
  rw [e0, nI_0] at h0
  rw [h0]
  obtain ⟨f', h1, h2⟩ := s_Mo_dist_L31 h8 hle hle0 hv hms hml hm FU 0 (fun j => if j < 8 then (if j = 0 then 0 else -1) else f j) (Nat.zero_le _) (by rw [FU_eq]; omega) (fun s hs => by
    show (if s < 8 then (if s = 0 then (0 : Int32) else -1) else f s) = _
    rw [if_pos (show s < 8 by omega)]
    by_cases z : s = 0
    · rw [if_pos z, fr_some (Nat.le_refl _) (rch_0.mpr z) (fun j hj => absurd hj (Nat.not_lt_zero _))]; rfl
    · rw [if_neg z, fr_none]
      cases y : rch mv sz le 0 s with
      | false => rfl
      | true => exact absurd (rch_0.mp y) z)
  rw [nI_0] at h1
  exact ⟨f', h1, fun s hs => by rw [h2 s hs, fr_dN hm h8 hs]⟩

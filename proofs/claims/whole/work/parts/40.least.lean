/-! ===== the least number of states, on both sides ===== -/
def okE (mv fi : Nat → Nat) (sz le s t : Nat) : Bool := !(rch mv sz le (sz - 1) t) || (dif fi fi mv mv le t s).isSome
def allE (mv fi : Nat → Nat) (sz le s : Nat) : Nat → Bool
  | 0 => true
  | t + 1 => allE mv fi sz le s t && okE mv fi sz le s t
def frs (mv fi : Nat → Nat) (sz le s : Nat) : Bool := rch mv sz le (sz - 1) s && allE mv fi sz le s s
def lst (mv fi : Nat → Nat) (sz le : Nat) : Nat := fb_ct (frs mv fi sz le) sz
theorem allE_false {mv fi : Nat → Nat} {sz le s t u : Nat} (h : t ≤ u) (ht : allE mv fi sz le s t = false) : allE mv fi sz le s u = false := by
  induction u with
  | zero => have : t = 0 := by omega
            subst this; exact ht
  | succ u ih =>
    rcases Nat.lt_or_ge t (u + 1) with z | z
    · rw [allE, ih (by omega)]; rfl
    · have : t = u + 1 := by omega
      subst this; exact ht
theorem s_TL_hee {sz le : Nat} {mv fi : Nat → Nat} {v g : Nat → Int32} (h8 : sz ≤ 8) (hle : le ≤ 3) (hv : rI 24 mv v) (hg : rI 8 fi g) (hm : mok sz le mv) (hfi : ∀ k, k < 8 → fi k ≤ 1) {s : Nat} (hs : s < sz) :
    ∀ (n t : Nat) (sn qu og ar lt : Nat → Int32) (ln qd : Int32), t ≤ s → s - t < n → allE mv fi sz le s t = true → ∃ sn' qu' og' ar' lt' ln' qd', itr (fun _ _ _ _ _ _ _ _ => none) (f_TL_hasEarlierEqual_L13 (nI sz) (nI le) v g (nI s) (fun x3 v_search_seen_1 v_search_queue_1 v_search_origin_1 v_search_arrival_1 v_search_letters_1 v_search_length_1 v_search_queued_1 => (some ((0 : Int32), v_search_seen_1, v_search_queue_1, v_search_origin_1, v_search_arrival_1, v_search_letters_1, v_search_length_1, v_search_queued_1)))) n (nI t) sn qu og ar lt ln qd = some ((if allE mv fi sz le s s then 0 else 1), sn', qu', og', ar', lt', ln', qd') := by
  intro n
  induction n with
  | zero => intro t _ _ _ _ _ _ _ _ h; omega
  | succ n ih =>
    intro t sn qu og ar lt ln qd ht hn hall
    rw [itr_s, f_TL_hasEarlierEqual_L13]
    rcases Nat.lt_or_ge t s with c | c
    · rw [if_neg (nI_ge c (by omega)), s_Au_distanceTo h8 hle hv hm (show t < sz by omega), bd1_s]
      cases q : rch mv sz le (sz - 1) t with
      | false =>
        rw [if_pos ((dN_neg hm h8 (by omega)).mpr q), f_TL_hasEarlierEqual_J43, bnd_eq, show nI t + 1 = nI (t + 1) from nI_1 t]
        exact ih (t + 1) _ _ _ _ _ _ _ c (by omega) (by rw [allE, hall, okE, q]; rfl)
      | true =>
        rw [if_neg (fun h => by rw [(dN_neg hm h8 (by omega)).mp h] at q; cases q), fd_alias]
        obtain ⟨sn', qu', og', ar', qd', e1⟩ := s_Se_findsDifference (lt := lt) (sn := sn) (qu := qu) (og := og) (ar := ar) (show sz ≤ 40 by omega) h8 (show 3 * sz ≤ 24 by omega) (by omega) h8 (by omega) (show 3 * sz ≤ 24 by omega) (by omega) h8 (by omega) hv hg hv hg hle hm hm (fun k hk => hfi k (by omega)) (fun k hk => hfi k (by omega)) (show t < sz by omega) hs
        rw [e1, bd8_s]
        cases dd : dif fi fi mv mv le t s with
        | none =>
          rw [difI, if_pos rfl]
          have : allE mv fi sz le s s = false := allE_false (t := t + 1) c (by rw [allE, hall, okE, q, dd]; rfl)
          rw [this]
          exact ⟨_, _, _, _, _, _, _, rfl⟩
        | some w =>
          rw [difI, if_neg (by decide), f_TL_hasEarlierEqual_J43, bnd_eq, show nI t + 1 = nI (t + 1) from nI_1 t]
          exact ih (t + 1) _ _ _ _ _ _ _ c (by omega) (by rw [allE, hall, okE, q, dd]; rfl)
    · have : t = s := by omega
      subst this
      rw [if_pos (nI_le (Nat.le_refl _) (by omega)), hall]
      exact ⟨_, _, _, _, _, _, _, rfl⟩
theorem s_TL_least_loop {sz le : Nat} {mv fi : Nat → Nat} {v g : Nat → Int32} (h8 : sz ≤ 8) (hle : le ≤ 3) (hv : rI 24 mv v) (hg : rI 8 fi g) (hm : mok sz le mv) (hfi : ∀ k, k < 8 → fi k ≤ 1) :
    ∀ (n s : Nat) (sn qu og ar lt : Nat → Int32) (ln qd : Int32), s ≤ sz → sz - s < n → ∃ sn' qu' og' ar' lt' ln' qd', itr (fun _ _ _ _ _ _ _ _ _ => none) (f_TL_leastStates_L15 (nI sz) (nI le) v g (fun x2 x3 v_search_seen_1 v_search_queue_1 v_search_origin_1 v_search_arrival_1 v_search_letters_1 v_search_length_1 v_search_queued_1 => (some (x2, v_search_seen_1, v_search_queue_1, v_search_origin_1, v_search_arrival_1, v_search_letters_1, v_search_length_1, v_search_queued_1)))) n (nI (fb_ct (frs mv fi sz le) s)) (nI s) sn qu og ar lt ln qd = some (nI (lst mv fi sz le), sn', qu', og', ar', lt', ln', qd') := by
  intro n
  induction n with
  | zero => intro s _ _ _ _ _ _ _ _ h; omega
  | succ n ih =>
    intro s sn qu og ar lt ln qd hs hn
    rw [itr_s, f_TL_leastStates_L15]
    rcases Nat.lt_or_ge s sz with c | c
    · rw [if_neg (nI_ge c (by omega)), s_Au_distanceTo h8 hle hv hm c, bd1_s]
      have hnext := ih (s + 1)
      rw [fb_ct_succ, frs] at hnext
      cases q : rch mv sz le (sz - 1) s with
      | false =>
        rw [if_pos ((dN_neg hm h8 c).mpr q), f_TL_leastStates_J43, bnd_eq, show nI s + 1 = nI (s + 1) from nI_1 s]
        rw [q] at hnext
        exact hnext _ _ _ _ _ _ _ c (by omega)
      | true =>
        rw [if_neg (fun h => by rw [(dN_neg hm h8 c).mp h] at q; cases q), f_TL_hasEarlierEqual]
        obtain ⟨sn', qu', og', ar', lt', ln', qd', e1⟩ := s_TL_hee h8 hle hv hg hm hfi c FU 0 sn qu og ar lt ln qd (Nat.zero_le _) (by rw [FU_eq]; omega) rfl
        rw [nI_0] at e1
        rw [e1, bd8_s]
        rw [q, Bool.true_and] at hnext
        cases a : allE mv fi sz le s s with
        | true =>
          rw [if_pos rfl, if_pos rfl, bnd_eq, f_TL_leastStates_J43, bnd_eq, show nI s + 1 = nI (s + 1) from nI_1 s, show nI (fb_ct (frs mv fi sz le) s) + 1 = nI (fb_ct (frs mv fi sz le) s + 1) from nI_1 _]
          rw [a] at hnext
          exact hnext _ _ _ _ _ _ _ c (by omega)
        | false =>
          rw [if_neg (by decide), f_TL_leastStates_J43, bnd_eq, show nI s + 1 = nI (s + 1) from nI_1 s]
          rw [a] at hnext
          exact hnext _ _ _ _ _ _ _ c (by omega)
    · have : s = sz := by omega
      subst this
      rw [if_pos (nI_le (Nat.le_refl _) (by omega))]
      exact ⟨_, _, _, _, _, _, _, rfl⟩
theorem s_TL_leastStates {sz le : Nat} {mv fi : Nat → Nat} {v g : Nat → Int32} (h8 : sz ≤ 8) (hle : le ≤ 3) (hv : rI 24 mv v) (hg : rI 8 fi g) (hm : mok sz le mv) (hfi : ∀ k, k < 8 → fi k ≤ 1) (sn qu og ar lt : Nat → Int32) (ln qd : Int32) :
    ∃ sn' qu' og' ar' lt' ln' qd', f_TL_leastStates (nI sz) (nI le) v g ln qd sn qu og ar lt = some (nI (lst mv fi sz le), sn', qu', og', ar', lt', ln', qd') := by
  have := s_TL_least_loop h8 hle hv hg hm hfi FU 0 sn qu og ar lt ln qd (Nat.zero_le _) (by rw [FU_eq]; omega)
  exact this
theorem s_Mo_least_inner {sz le : Nat} {mv fi : Nat → Nat} {m far : Nat → Int32} (h8 : sz ≤ 8) (hle : le ≤ 3) (hv : rIo 2 24 mv m) (hg : rIo 26 8 fi m) (hml : m 1 = nI le) (hm : mok sz le mv) (hfi : ∀ k, k < 8 → fi k ≤ 1) (hfar : ∀ s, s < sz → far s = dN mv sz le s) {s : Nat} (hs : s < sz)
    {K : Int32 → Int32 → (Nat → Int32) → (Nat → Int32) → (Nat → Int32) → (Nat → Int32) → (Nat → Int32) → Int32 → Option (Int32 × (Nat → Int32) × (Nat → Int32) × (Nat → Int32) × (Nat → Int32) × (Nat → Int32) × (Nat → Int32) × Int32)} {R : Int32 → (Nat → Int32) → (Nat → Int32) → (Nat → Int32) → (Nat → Int32) → (Nat → Int32) → Int32 → Option (Int32 × (Nat → Int32) × (Nat → Int32) × (Nat → Int32) × (Nat → Int32) × (Nat → Int32) × (Nat → Int32) × Int32)} (hK : ∀ x y a b c d e f, K x y a b c d e f = R x a b c d e f) :
    ∀ (n t : Nat) (qu og ar sn pa : Nat → Int32) (st : Int32) (x : Bool), t ≤ s → s - t < n → x = (rch mv sz le (sz - 1) s && allE mv fi sz le s t) → ∃ qu' og' ar' sn' pa' st', itr (fun _ _ _ _ _ _ _ _ => none) (f_Mo_leastStates_L37 m far (nI s) K) n (if x then 1 else 0) (nI t) qu og ar sn pa st = R (if frs mv fi sz le s then 1 else 0) qu' og' ar' sn' pa' st' := by
  intro n
  induction n with
  | zero => intro t _ _ _ _ _ _ _ _ h; omega
  | succ n ih =>
    intro t qu og ar sn pa st x ht hn hx
    rw [itr_s, f_Mo_leastStates_L37]
    rcases Nat.lt_or_ge t s with c | c
    · rw [if_neg (nI_ge c (by omega))]
      cases x with
      | false =>
        rw [if_neg (show ¬ false = true by decide), if_pos rfl, hK]
        have : frs mv fi sz le s = false := by
          rw [frs]
          cases q : rch mv sz le (sz - 1) s with
          | false => rfl
          | true =>
            rw [q, Bool.true_and] at hx
            rw [allE_false ht hx.symm]; rfl
        rw [this]
        exact ⟨_, _, _, _, _, _, rfl⟩
      | true =>
        have hx' := hx.symm
        rw [Bool.and_eq_true] at hx'
        rw [if_pos rfl, if_neg (show ¬ (1 : Int32) = 0 by decide), gIn_nI (by omega) (by omega), nI_clamp (by omega), hfar t (by omega)]
        cases q : rch mv sz le (sz - 1) t with
        | false =>
          rw [if_pos ((dN_neg hm h8 (by omega)).mpr q), f_Mo_leastStates_J69, f_Mo_leastStates_J74, bnd_eq, show nI t + 1 = nI (t + 1) from nI_1 t]
          have := ih (t + 1) qu og ar sn pa st true c (by omega) (by rw [allE, okE, q, hx'.1, hx'.2]; rfl)
          rw [if_pos rfl] at this
          exact this
        | true =>
          rw [if_neg (fun h => by rw [(dN_neg hm h8 (by omega)).mp h] at q; cases q)]
          obtain ⟨qu', og', ar', sn', st', e1, -⟩ := s_Mo_parts (h := 0) (pa := pa) (sn := sn) (qu := qu) (og := og) (ar := ar) (st := st) (show sz ≤ 40 by omega) h8 (by omega) hml (fun s' a' h1' h2' => hv (3 * s' + a') (by omega)) (fun k hk => hg k (by omega)) (fun _ => h8) hv hg hle hm hm (fun k hk => hfi k (by omega)) (fun k hk => hfi k (by omega)) (show t < sz by omega) hs
          rw [nI_0] at e1
          rw [e1, bd7_s, bnd_eq, bnd_eq, show nI t + 1 = nI (t + 1) from nI_1 t]
          have h1 := ih (t + 1) qu' og' ar' sn' (difL pa (dif fi fi mv mv le t s)) st' ((dif fi fi mv mv le t s).isSome) c (by omega) (by rw [allE, okE, q, hx'.1, hx'.2]; rfl)
          have e2 : (if difI (dif fi fi mv mv le t s) = 0 then (0 : Int32) else 1) = if (dif fi fi mv mv le t s).isSome = true then 1 else 0 := by
            cases dif fi fi mv mv le t s <;> rfl
          rw [e2]
          exact h1
    · have : t = s := by omega
      subst this
      rw [if_pos (nI_le (Nat.le_refl _) (by omega)), hK, hx, frs]
      exact ⟨_, _, _, _, _, _, rfl⟩
theorem s_Mo_least_loop {sz le : Nat} {mv fi : Nat → Nat} {m far : Nat → Int32} (h8 : sz ≤ 8) (hle : le ≤ 3) (hv : rIo 2 24 mv m) (hg : rIo 26 8 fi m) (hms : m 0 = nI sz) (hml : m 1 = nI le) (hm : mok sz le mv) (hfi : ∀ k, k < 8 → fi k ≤ 1) (hfar : ∀ s, s < sz → far s = dN mv sz le s) :
    ∀ (n s : Nat) (qu og ar sn pa : Nat → Int32) (st : Int32), s ≤ sz → sz - s < n → ∃ qu' og' ar' sn' pa' st', itr (fun _ _ _ _ _ _ _ _ => none) (f_Mo_leastStates_L8 m far (fun x1 x2 v_queue_1 v_parent_1 v_by_1 v_seen_1 v_path_1 v_steps_1 => (some (x1, far, v_queue_1, v_parent_1, v_by_1, v_seen_1, v_path_1, v_steps_1)))) n (nI (fb_ct (frs mv fi sz le) s)) (nI s) qu og ar sn pa st = some (nI (lst mv fi sz le), far, qu', og', ar', sn', pa', st') := by
  intro n
  induction n with
  | zero => intro s _ _ _ _ _ _ _ h; omega
  | succ n ih =>
    intro s qu og ar sn pa st hs hn
    rw [itr_s, f_Mo_leastStates_L8, hms]
    rcases Nat.lt_or_ge s sz with c | c
    · rw [if_neg (nI_ge c (by omega)), gIn_nI (by omega) (by omega), bnd_eq, nI_clamp (by omega), hfar s c]
      have e0 : (if dN mv sz le s = -1 then (0 : Int32) else 1) = if rch mv sz le (sz - 1) s = true then 1 else 0 := by
        cases q : rch mv sz le (sz - 1) s with
        | false => rw [if_pos ((dN_neg hm h8 c).mpr q)]; rfl
        | true => rw [if_neg (fun h => by rw [(dN_neg hm h8 c).mp h] at q; cases q)]; rfl
      rw [e0]
      obtain ⟨qu', og', ar', sn', pa', st', e1⟩ := s_Mo_least_inner h8 hle hv hg hml hm hfi hfar c (K := fun x3 x4 v_queue_1 v_parent_1 v_by_1 v_seen_1 v_path_1 v_steps_1 => (bnd (if x3 = 0 then (0 : Int32) else (1 : Int32)) (fun t_1 => (bnd (nI (fb_ct (frs mv fi sz le) s) + t_1) (fun x1_1 => (bnd (nI s + 1) (fun x2_1 => (itr (fun _ _ _ _ _ _ _ _ => none) (f_Mo_leastStates_L8 m far (fun x1 x2 v_queue_1 v_parent_1 v_by_1 v_seen_1 v_path_1 v_steps_1 => (some (x1, far, v_queue_1, v_parent_1, v_by_1, v_seen_1, v_path_1, v_steps_1)))) n x1_1 x2_1 v_queue_1 v_parent_1 v_by_1 v_seen_1 v_path_1 v_steps_1)))))))) (R := fun x3 v_queue_1 v_parent_1 v_by_1 v_seen_1 v_path_1 v_steps_1 => itr (fun _ _ _ _ _ _ _ _ => none) (f_Mo_leastStates_L8 m far (fun x1 x2 v_queue_1 v_parent_1 v_by_1 v_seen_1 v_path_1 v_steps_1 => (some (x1, far, v_queue_1, v_parent_1, v_by_1, v_seen_1, v_path_1, v_steps_1)))) n (nI (fb_ct (frs mv fi sz le) s) + (if x3 = 0 then (0 : Int32) else (1 : Int32))) (nI s + 1) v_queue_1 v_parent_1 v_by_1 v_seen_1 v_path_1 v_steps_1) (fun _ _ _ _ _ _ _ _ => rfl) FU 0 qu og ar sn pa st (rch mv sz le (sz - 1) s) (Nat.zero_le _) (by rw [FU_eq]; omega) (by rw [allE, Bool.and_true])
      rw [nI_0] at e1
      rw [e1]
      have hnext := ih (s + 1) qu' og' ar' sn' pa' st' c (by omega)
      rw [fb_ct_succ] at hnext
      rw [show nI s + 1 = nI (s + 1) from nI_1 s]
      cases a : frs mv fi sz le s with
      | true =>
        rw [a, if_pos rfl] at hnext
        rw [if_neg (show ¬ (if true = true then (1 : Int32) else 0) = 0 by decide), show nI (fb_ct (frs mv fi sz le) s) + 1 = nI (fb_ct (frs mv fi sz le) s + 1) from nI_1 _]
        exact hnext
      | false =>
        rw [a] at hnext
        rw [if_pos (show (if false = true then (1 : Int32) else 0) = 0 from rfl), show (0 : Int32) = nI 0 from rfl, nI_add]
        exact hnext
    · have : s = sz := by omega
      subst this
      rw [if_pos (nI_le (Nat.le_refl _) (by omega))]
      exact ⟨_, _, _, _, _, _, rfl⟩
theorem s_Mo_leastStates {sz le : Nat} {mv fi : Nat → Nat} {m : Nat → Int32} (h8 : sz ≤ 8) (hle : le ≤ 3) (hle0 : 0 < le) (hv : rIo 2 24 mv m) (hg : rIo 26 8 fi m) (hms : m 0 = nI sz) (hml : m 1 = nI le) (hm : mok sz le mv) (hfi : ∀ k, k < 8 → fi k ≤ 1) (far qu og ar sn pa : Nat → Int32) (st : Int32) :
    ∃ far' qu' og' ar' sn' pa' st', f_Mo_leastStates st m far qu og ar sn pa = some (nI (lst mv fi sz le), far', qu', og', ar', sn', pa', st') := by
  obtain ⟨f', h1, h2⟩ := s_Mo_distances (f := far) h8 hle hle0 hv hms hml hm
  rw [f_Mo_leastStates, h1, bd1_s]
  obtain ⟨a, b, c, d, e, f, h3⟩ := s_Mo_least_loop h8 hle hv hg hms hml hm hfi h2 FU 0 qu og ar sn pa st (Nat.zero_le _) (by rw [FU_eq]; omega)
  exact ⟨_, _, _, _, _, _, _, h3⟩

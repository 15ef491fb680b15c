/-! ===== the reference: what was asked, and asking ===== -/
def RQM (al : Wrd → Option Nat) (n : Nat) (m : Nat → Int32) (w : Nat → Int64) : Prop := ∃ Q : List (Wrd × Nat), qok Q ∧ srt eM Q ∧ Q.length = n ∧ (∀ v, lk Q v = al v) ∧ m 37 = nI n ∧ (∀ k (h : k < Q.length), w (4 + k) = lN (eM Q[k].1)) ∧ ∀ k (h : k < Q.length), m (45 + k) = nI Q[k].2
theorem s_Mo_place_loop {Q : List (Wrd × Nat)} {w : Nat → Int64} (hq : qok Q) (hs : srt eM Q) (hE : ∀ k (h : k < Q.length), w (4 + k) = lN (eM Q[k].1)) (hn : Q.length ≤ 300) {u : Wrd} (hu : wok u) (hul : u.length ≤ 16) :
    ∀ (n lo hi : Nat), lo ≤ hi → hi ≤ Q.length → hi - lo < n → (∀ k (h : k < Q.length), k < lo → eM Q[k].1 < eM u) → (∀ k (h : k < Q.length), hi ≤ k → eM u ≤ eM Q[k].1) →
      ∃ p, isPl eM Q u p ∧ itr (fun _ _ => none) (f_Mo_place_L11 w (lN (eM u)) (fun x3 _ => some x3)) n (nI lo) (nI hi) = some (nI p) := by
  intro n
  induction n with
  | zero => intro lo hi _ _ h; omega
  | succ n ih =>
    intro lo hi h1 h2 h5 h6 h7
    rw [itr_s, f_Mo_place_L11]
    by_cases c2 : hi ≤ lo
    · rw [if_pos (nI_le c2 (by omega))]
      exact ⟨lo, ⟨by omega, h6, fun k hk hkl => h7 k hk (by omega)⟩, rfl⟩
    · rw [if_neg (nI_ge (by omega) (by omega))]
      simp only [bnd]
      have e2 : nI (lo + hi) / (2 : Int32) = nI ((lo + hi) / 2) := pk_div (d := 2) (by omega) (by omega) (by omega)
      rw [nI_add, e2, show (4 : Int32) + nI ((lo + hi) / 2) = nI (4 + (lo + hi) / 2) from nI_add 4 _, gIn_nI (by omega) (by omega), nI_clamp (by omega)]
      have hm : (lo + hi) / 2 < Q.length := by omega
      obtain ⟨q1, q2, q3⟩ := hq _ (List.getElem_mem hm)
      have q4 := eM_small q1 (by omega)
      have q5 := eM_small hu (by omega)
      rw [hE _ hm]
      by_cases c3 : eM Q[(lo + hi) / 2].1 < eM u
      · rw [if_pos ((pk_lLT (by omega) (by omega)).mpr c3), if_neg (by decide), if_neg (by decide), show nI ((lo + hi) / 2) + 1 = nI ((lo + hi) / 2 + 1) from nI_1 _]
        refine ih ((lo + hi) / 2 + 1) hi (by omega) h2 (by omega) (fun k hk hkl => ?_) h7
        rcases Nat.lt_or_ge k ((lo + hi) / 2) with z | z
        · exact Nat.lt_trans (hs k _ hk hm z) c3
        · have : k = (lo + hi) / 2 := by omega
          subst this; exact c3
      · rw [if_neg (fun h => c3 ((pk_lLT (by omega) (by omega)).mp h)), if_pos rfl, if_pos rfl]
        refine ih lo ((lo + hi) / 2) (by omega) (by omega) (by omega) h6 (fun k hk hkl => ?_)
        rcases Nat.lt_or_ge ((lo + hi) / 2) k with z | z
        · have := hs _ k hm hk z; omega
        · have : k = (lo + hi) / 2 := by omega
          subst this; omega
theorem s_Mo_place {Q : List (Wrd × Nat)} {m : Nat → Int32} {w : Nat → Int64} (hq : qok Q) (hs : srt eM Q) (hm : m 37 = nI Q.length) (hE : ∀ k (h : k < Q.length), w (4 + k) = lN (eM Q[k].1)) (hn : Q.length ≤ 300) {u : Wrd} (hu : wok u) (hul : u.length ≤ 16) :
    ∃ p, isPl eM Q u p ∧ f_Mo_place (lN (eM u)) m w = some (nI p) := by
  obtain ⟨p, h1, h2⟩ := s_Mo_place_loop hq hs hE hn hu hul FU 0 Q.length (Nat.zero_le _) (Nat.le_refl _) (by rw [FU_eq]; omega) (fun k _ h => by omega) (fun k _ h => by omega)
  refine ⟨p, h1, ?_⟩
  rw [f_Mo_place, hm]
  exact h2
theorem qinjM {Q : List (Wrd × Nat)} (hq : qok Q) {u : Wrd} (hu : wok u) : ∀ q ∈ Q, eM q.1 = eM u → q.1 = u := fun q h e => eM_inj (hq q h).1 hu e
theorem s_Mo_known {al : Wrd → Option Nat} {n : Nat} {m : Nat → Int32} {w : Nat → Int64} (hR : RQM al n m w) (hn : n ≤ 300) {u : Wrd} (hu : wok u) (hul : u.length ≤ 16) : f_Mo_known (lN (eM u)) m w = some (ov (al u)) := by
  obtain ⟨Q, hq, hs, rfl, hal, hm, hE, hA⟩ := hR
  obtain ⟨p, hp, hf⟩ := s_Mo_place hq hs hm hE hn hu hul
  rw [f_Mo_known, hf, bd1_s, ← hal, pl_at hs hp (qinjM hq hu), hm]
  have hpl := hp.1
  by_cases c1 : p < Q.length
  · obtain ⟨q1, q2, q3⟩ := hq _ (List.getElem_mem c1)
    have q4 := eM_small q1 (by omega)
    have q5 := eM_small hu (by omega)
    rw [if_neg (nI_ge c1 (by omega)), fl, nI_add, gIn_nI (by omega) (by omega), nI_clamp (by omega), dif_pos c1, hE _ c1]
    by_cases c2 : eM Q[p].1 = eM u
    · rw [if_pos (by rw [c2]), if_pos c2, fl, nI_add, gIn_nI (by omega) (by omega), nI_clamp (by omega), hA _ c1]
      rfl
    · rw [if_neg (fun h => c2 (lN_inj (by omega) (by omega) h)), if_neg c2]
      rfl
  · rw [if_pos (nI_le (by omega) (by omega)), dif_neg c1]
    rfl
/-- a stretch moved by one: places b + p + 1 .. b + n hold what stood one before -/
def shf {α : Type} (f : Nat → α) (b p n : Nat) : Nat → α := fun k => if b + p < k ∧ k ≤ b + n then f (k - 1) else f k
theorem shf_0 {α : Type} (f : Nat → α) (b n : Nat) : shf f b n n = f := by
  funext k; rw [shf, if_neg (by omega)]
theorem shf_I {f : Nat → Int32} {b p n : Nat} (h : p < n) : upd (shf f b (p + 1) n) (b + (p + 1)) (shf f b (p + 1) n (b + (p + 1) - 1)) = shf f b p n := by
  funext k
  simp only [upd, shf]
  by_cases e : k = b + (p + 1)
  · rw [if_pos e, if_neg (by omega), if_pos (by omega)]; congr 1; omega
  · rw [if_neg e]
    by_cases c : b + p < k ∧ k ≤ b + n
    · rw [if_pos c, if_pos (by omega)]
    · rw [if_neg c, if_neg (by omega)]
theorem shf_L {f : Nat → Int64} {b p n : Nat} (h : p < n) : vp_updL (shf f b (p + 1) n) (b + (p + 1)) (shf f b (p + 1) n (b + (p + 1) - 1)) = shf f b p n := by
  funext k
  simp only [vp_updL, shf]
  by_cases e : k = b + (p + 1)
  · rw [if_pos e, if_neg (by omega), if_pos (by omega)]; congr 1; omega
  · rw [if_neg e]
    by_cases c : b + p < k ∧ k ≤ b + n
    · rw [if_pos c, if_pos (by omega)]
    · rw [if_neg c, if_neg (by omega)]
theorem s_Mo_asks_loop {m : Nat → Int32} {w : Nat → Int64} {K : Int32 → (Nat → Int32) → (Nat → Int64) → Option (Int32 × (Nat → Int32) × (Nat → Int64))} {p N : Nat} (hN : N < 300) :
    ∀ (n j : Nat), p ≤ j → j ≤ N → j - p < n → itr (fun _ _ _ => none) (f_Mo_asks_L49 (nI p) K) n (nI j) (shf m 45 j N) (shf w 4 j N) = K (nI p) (shf m 45 p N) (shf w 4 p N) := by
  intro n
  induction n with
  | zero => intro j _ _ h; omega
  | succ n ih =>
    intro j h1 h2 h3
    rw [itr_s, f_Mo_asks_L49]
    rcases Nat.lt_or_ge p j with c | c
    · obtain ⟨i, rfl⟩ : ∃ i, j = i + 1 := ⟨j - 1, by omega⟩
      rw [if_neg (nI_ge c (by omega)), fl, fl, fl, nI_add, nI_add, pk_sub (by omega), pk_sub (by omega), gIn_nI (by omega) (by omega), gIn_nI (by omega) (by omega)]
      simp only [bnd]
      rw [gIn_nI (by omega) (by omega), gIn_nI (by omega) (by omega), nI_clamp (by omega), nI_clamp (by omega), nI_clamp (by omega), nI_clamp (by omega), shf_I (by omega), shf_L (by omega), mI_r, nI_m1 (by omega)]
      exact ih i (by omega) (by omega) (by omega)
    · have : j = p := by omega
      subst this
      rw [if_pos (nI_le (Nat.le_refl _) (by omega))]
theorem s_Mo_asks {al : Wrd → Option Nat} {n b : Nat} {m : Nat → Int32} {w : Nat → Int64} (hR : RQM al n m w) (hbu : m 36 = nI b) (hn : n ≤ b) (hb : b ≤ 300) {L : List Wrd} (hL : lok L) (h4 : L.length ≤ 4) (hlc : m 34 = nI L.length) (hv : ∀ k (h : k < L.length), w k = lN (eM L[k])) {sz le : Nat} {mv fi : Nat → Nat} (hsz : sz ≤ 8) (hp : rIo 2 24 mv m) (hg : rIo 26 8 fi m) (hm : mok sz le mv) (hfi : ∀ k, k < 8 → fi k ≤ 1) (hle : le ≤ 3) {u : Wrd} (hu : wle le u) (hul : u.length ≤ 16) :
    (∃ a, al u = some a ∧ f_Mo_asks (lN (eM u)) m w = some (nI a, m, w)) ∨ (al u = none ∧ n = b ∧ f_Mo_asks (lN (eM u)) m w = some (-4, m, w)) ∨
    (al u = none ∧ n < b ∧ ∃ m' w', f_Mo_asks (lN (eM u)) m w = some (nI (tans L mv fi u), m', w') ∧ RQM (fun x => if x = u then some (tans L mv fi u) else al x) (n + 1) m' w' ∧ (∀ k, k ≠ 37 → ¬ (45 ≤ k ∧ k < 345) → m' k = m k) ∧ ∀ k, ¬ (4 ≤ k ∧ k < 304) → w' k = w k) := by
  have hst : rn mv 0 u < sz := rn_lt hm hu hm.1
  have h1 := hfi (rn mv 0 u) (by omega)
  have hok := wle_ok hu hle
  rw [f_Mo_asks, s_Mo_known hR (by omega) hok hul, bd1_s]
  obtain ⟨Q, hq, hs, rfl, hal, hmn, hE, hA⟩ := hR
  cases e : al u with
  | some a =>
    refine Or.inl ⟨a, rfl, ?_⟩
    have ha := (hq _ (lk_some ((hal u).trans e))).2.2
    rw [ov, if_neg (by rw [fl, mI_r, nm_eq (by simp only at ha; omega) (by omega) (by omega)]; exact id)]
  | none =>
    rw [ov, if_pos rfl, hmn, hbu]
    rcases Nat.lt_or_ge Q.length b with c | c
    · refine Or.inr (Or.inr ⟨rfl, c, ?_⟩)
      obtain ⟨p, hp1, hf⟩ := s_Mo_place hq hs hmn hE (by omega) hok hul
      have hpl := hp1.1
      rw [if_pos (nI_lt c (by omega)), hf, bd1_s]
      simp only [bnd]
      have hlp := fun K => s_Mo_asks_loop (m := m) (w := w) (K := K) (p := p) (N := Q.length) (by omega) FU Q.length hpl (Nat.le_refl _) (by rw [FU_eq]; omega)
      simp only [shf_0] at hlp
      rw [hlp]
      have lo : ∀ k, k ≤ 45 → shf m 45 p Q.length k = m k := fun k hk => by rw [shf, if_neg (by omega)]
      have lw : ∀ k, k ≤ 4 → shf w 4 p Q.length k = w k := fun k hk => by rw [shf, if_neg (by omega)]
      have hp' : rIo 2 24 mv (shf m 45 p Q.length) := fun k hk => by rw [lo _ (by omega)]; exact hp k hk
      have hg' : rIo 26 8 fi (shf m 45 p Q.length) := fun k hk => by rw [lo _ (by omega)]; exact hg k hk
      have hlc' : shf m 45 p Q.length 34 = nI L.length := by rw [lo _ (by omega)]; exact hlc
      have hv' : ∀ k (h : k < L.length), shf w 4 p Q.length k = lN (eM L[k]) := fun k hk => by rw [lw _ (by omega)]; exact hv k hk
      rw [s_Mo_lieOf hL h4 hlc' hv' hok hul, bd1_s, s_Mo_truth hsz hp' hg' hm hle hu (by omega), bd1_s, bd1_s]
      have hbr : (if fndN L u = (-1 : Int32) then f_Mo_asks_J128 (lN (eM u)) (nI p) (nI (fi (rn mv 0 u))) (shf m 45 p Q.length) (shf w 4 p Q.length) else f_Mo_asks_J128 (lN (eM u)) (nI p) ((1 : Int32) - nI (fi (rn mv 0 u))) (shf m 45 p Q.length) (shf w 4 p Q.length)) = f_Mo_asks_J128 (lN (eM u)) (nI p) (nI (tans L mv fi u)) (shf m 45 p Q.length) (shf w 4 p Q.length) := by
        by_cases cl : u ∈ L
        · rw [if_neg (fndN_yes cl (by omega)), fl, pk_sub h1, tans, if_pos cl]
        · rw [if_pos (fndN_no cl), tans, if_neg cl]
      rw [hbr, f_Mo_asks_J128, fl, fl, nI_add, nI_add, gIn_nI (by omega) (by omega)]
      simp only [bnd]
      rw [gIn_nI (by omega) (by omega), nI_clamp (by omega), nI_clamp (by omega), pk_un (by omega), lo 37 (by omega), hmn, fl, nI_add]
      refine ⟨_, _, rfl, ⟨ins Q p (u, tans L mv fi u), ?_, ?_, ins_len hpl, fun v => ?_, pk_us, fun k hk => ?_, fun k hk => ?_⟩, fun k h1 h2 => ?_, fun k h1 => ?_⟩
      · intro q h
        rcases ins_mem.mp h with rfl | h
        · exact ⟨hok, hul, tans_le h1⟩
        · exact hq q h
      · refine srt_ins hs hp1 (fun q h e2 => ?_)
        exact lk_none.mp ((hal u).trans e) q h (qinjM hq hok q h e2)
      · rw [lk_ins ((hal u).trans e), hal]
      · have hk2 := hk
        rw [ins_len hpl] at hk2
        rcases Nat.lt_trichotomy k p with z | z | z
        · have h1 := ins_lt (x := (u, tans L mv fi u)) hpl z
          rw [List.getElem?_eq_getElem hk, List.getElem?_eq_getElem (by omega)] at h1
          rw [Option.some.inj h1, pk_uLn (by omega), shf, if_neg (by omega)]
          exact hE k (by omega)
        · subst z
          have h1 := ins_eq (x := (u, tans L mv fi u)) hpl
          rw [List.getElem?_eq_getElem hk] at h1
          rw [Option.some.inj h1, pk_uLs]
        · have h1 := ins_gt (x := (u, tans L mv fi u)) hpl z
          rw [List.getElem?_eq_getElem hk, List.getElem?_eq_getElem (by omega)] at h1
          rw [Option.some.inj h1, pk_uLn (by omega), shf, if_pos (by omega), show 4 + k - 1 = 4 + (k - 1) by omega]
          exact hE (k - 1) (by omega)
      · have hk2 := hk
        rw [ins_len hpl] at hk2
        rw [pk_un (by omega)]
        rcases Nat.lt_trichotomy k p with z | z | z
        · have h1 := ins_lt (x := (u, tans L mv fi u)) hpl z
          rw [List.getElem?_eq_getElem hk, List.getElem?_eq_getElem (by omega)] at h1
          rw [Option.some.inj h1, pk_un (by omega), shf, if_neg (by omega)]
          exact hA k (by omega)
        · subst z
          have h1 := ins_eq (x := (u, tans L mv fi u)) hpl
          rw [List.getElem?_eq_getElem hk] at h1
          rw [Option.some.inj h1, pk_us]
        · have h1 := ins_gt (x := (u, tans L mv fi u)) hpl z
          rw [List.getElem?_eq_getElem hk, List.getElem?_eq_getElem (by omega)] at h1
          rw [Option.some.inj h1, pk_un (by omega), shf, if_pos (by omega), show 45 + k - 1 = 45 + (k - 1) by omega]
          exact hA (k - 1) (by omega)
      · rw [pk_un h1, pk_un (by omega), shf, if_neg (by omega)]
      · rw [pk_uLn (by omega), shf, if_neg (by omega)]
    · refine Or.inr (Or.inl ⟨rfl, by omega, ?_⟩)
      rw [if_neg (nI_nlt c (by omega))]

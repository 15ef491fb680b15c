/-! ===== asking, and the questions of a split, on both sides ===== -/
/-- what was asked is kept, and may have grown -/
def aleq (al al' : Wrd → Option Nat) : Prop := ∀ x a, al x = some a → al' x = some a
/-- the reference's lies: the same words, perhaps in another order -/
def L2M (L : List Wrd) (m : Nat → Int32) (w : Nat → Int64) : Prop := ∃ L2 : List Wrd, lok L2 ∧ L2.length = L.length ∧ (∀ u, u ∈ L2 ↔ u ∈ L) ∧ L2.Nodup ∧ m 34 = nI L2.length ∧ ∀ k (h : k < L2.length), w k = lN (eM L2[k])
theorem tans_L2 {L L2 : List Wrd} (h : ∀ u, u ∈ L2 ↔ u ∈ L) (mv fi : Nat → Nat) (u : Wrd) : tans L2 mv fi u = tans L mv fi u := by
  rw [tans, tans]
  by_cases z : u ∈ L
  · rw [if_pos z, if_pos ((h u).mpr z)]
  · rw [if_neg z, if_neg (fun q => z ((h u).mp q))]
theorem ask2 {al : Wrd → Option Nat} {n b : Nat} {E : Nat → Int64} {m : Nat → Int32} {w : Nat → Int64} (hal : aok al) (hX : RQX al n E) (hM : RQM al n m w) (hbu : m 36 = nI b) (hn : n ≤ b) (hb : b ≤ 300) {L : List Wrd} (hL : lok L) (h4 : L.length ≤ 4) {lv : Nat → Int64} (hlv : ∀ k (h : k < L.length), lv k = lN (eX L[k])) (hl2 : L2M L m w) {sz le : Nat} {mv fi : Nat → Nat} {p g : Nat → Int32} (hsz : sz ≤ 8) (hp' : rI 24 mv p) (hg' : rI 8 fi g) (hp : rIo 2 24 mv m) (hg : rIo 26 8 fi m) (hm : mok sz le mv) (hfi : ∀ k, k < 8 → fi k ≤ 1) (hle : le ≤ 3) {u : Wrd} (hu : wle le u) (hul : u.length ≤ 16) :
    ∃ r al' n' E' m' w', f_Le_askAbout (lN (eX u)) (nI b) (nI n) E (nI L.length) p g lv = some (r, E', nI n') ∧ f_Mo_asks (lN (eM u)) m w = some (r, m', w') ∧ RQX al' n' E' ∧ RQM al' n' m' w' ∧ aok al' ∧ aleq al al' ∧ n' ≤ b ∧ (∀ k, k ≠ 37 → ¬ (45 ≤ k ∧ k < 345) → m' k = m k) ∧ (∀ k, ¬ (4 ≤ k ∧ k < 304) → w' k = w k) ∧ ((r = -4 ∧ al' = al) ∨ ∃ a, a ≤ 1 ∧ r = nI a ∧ al' u = some a) := by
  obtain ⟨L2, k1, k2, k3, -, hlc, hv⟩ := hl2
  have hst : rn mv 0 u < sz := rn_lt hm hu hm.1
  have hf1 := hfi (rn mv 0 u) (by omega)
  have ht : tans L mv fi u ≤ 1 := by
    rw [tans]
    by_cases z : u ∈ L
    · rw [if_pos z]; omega
    · rw [if_neg z]; omega
  rcases s_Le_askAbout hX hn hb hL h4 hlv hsz hp' hg' hm hfi hle hu hul with ⟨a, h1, h2⟩ | ⟨h1, h1', h2⟩ | ⟨h1, h1', E', h2, h2'⟩
  · rcases s_Mo_asks hM hbu hn hb k1 (by omega) hlc hv hsz hp hg hm hfi hle hu hul with ⟨a', g1, g2⟩ | ⟨g1, -, -⟩ | ⟨g1, -, -⟩
    · rw [h1] at g1
      cases g1
      exact ⟨nI a, al, n, E, m, w, h2, g2, hX, hM, hal, fun _ _ h => h, hn, fun _ _ _ => rfl, fun _ _ => rfl, Or.inr ⟨a, hal _ _ h1, rfl, h1⟩⟩
    · rw [h1] at g1; cases g1
    · rw [h1] at g1; cases g1
  · rcases s_Mo_asks hM hbu hn hb k1 (by omega) hlc hv hsz hp hg hm hfi hle hu hul with ⟨a', g1, g2⟩ | ⟨g1, -, g2⟩ | ⟨g1, g1', -⟩
    · rw [h1] at g1; cases g1
    · exact ⟨-4, al, n, E, m, w, h2, g2, hX, hM, hal, fun _ _ h => h, hn, fun _ _ _ => rfl, fun _ _ => rfl, Or.inl ⟨rfl, rfl⟩⟩
    · omega
  · rcases s_Mo_asks hM hbu hn hb k1 (by omega) hlc hv hsz hp hg hm hfi hle hu hul with ⟨a', g1, g2⟩ | ⟨g1, g1', g2⟩ | ⟨g1, g1', m', w', g2, g3, g4, g5⟩
    · rw [h1] at g1; cases g1
    · omega
    · rw [tans_L2 k3] at g2 g3
      refine ⟨nI (tans L mv fi u), _, n + 1, E', m', w', h2, g2, h2', g3, ?_, ?_, h1', g4, g5, Or.inr ⟨_, ht, rfl, if_pos rfl⟩⟩
      · intro x a hx
        replace hx : (if x = u then some (tans L mv fi u) else al x) = some a := hx
        by_cases z : x = u
        · rw [if_pos z] at hx; cases hx; exact ht
        · rw [if_neg z] at hx; exact hal x a hx
      · intro x a hx
        show (if x = u then some (tans L mv fi u) else al x) = some a
        rw [if_neg (fun z => by rw [z, h1] at hx; cases hx), hx]
/-- the word of a split's question at k -/
def qv (ml re : Nat → Nat) (P : List Wrd) (u : Wrd) (k : Nat) : Wrd := pw P (re (rn ml 0 (u.take k))) ++ u.drop k
def qw (ml re : Nat → Nat) (P : List Wrd) (u : Wrd) (k : Nat) : Option Wrd := if (qv ml re P u k).length ≤ 16 then some (qv ml re P u k) else none
theorem s_Le_question {le sz : Nat} {P S : List Wrd} {ml re : Nat → Nat} {mv rv' : Nat → Int32} {pv : Nat → Int64} {u : Wrd} (hT : tok le P S) (h3 : le ≤ 3) (hsz : sz ≤ 40) (hmv : rI 120 ml mv) (hml : mok sz le ml) (hre : ∀ j, j < sz → rv' j = nI (re j) ∧ re j < P.length) (hpv : rX P pv) (hu : wle le u) (h16 : u.length ≤ 16) {k : Nat} (hk : k ≤ u.length) : f_Le_question (lN (eX u)) (nI k) pv mv rv' = some (wvX (qw ml re P u k)) := by
  have hs : rn ml 0 (u.take k) < sz := rn_lt hml (fun a ha => hu a (List.mem_of_mem_take ha)) hml.1
  obtain ⟨r1, r2⟩ := hre _ hs
  have h40 := hT.2.2.2.1
  have hp := tok_wfP hT h3 _ (List.getElem_mem r2)
  have hd : wok (u.drop k) := wok_drop (wle_ok hu h3) k
  have hdl : (u.drop k).length ≤ 16 := by rw [List.length_drop]; omega
  rw [f_Le_question, s_Au_follow (by omega) (by omega) hmv hml h3 hu h16 hk, bd1_s, gIn_nI (by omega) (by omega), bnd_eq, nI_clamp (by omega), r1, gIn_nI (by omega) (by omega), bnd_eq, nI_clamp (by omega), hpv _ r2, s_Ws_tailFrom (wle_ok hu h3) h16 hk, bd1_s, s_Ws_lengthOf hp.1 hp.2, bd1_s, s_Ws_lengthOf hd hdl, bd1_s, bnd_eq, nI_add, qw, qv, pw_eq r2, List.length_append]
  rcases Nat.lt_or_ge 16 ((P[re (rn ml 0 (u.take k))]).length + (u.drop k).length) with z | z
  · rw [if_pos (show (16 : Int32) < nI _ from Int32.not_le.mp (nI_ge (a := 16) z (by omega))), if_pos (show (0 : Int32) = 0 from rfl), if_neg (by omega)]
    rfl
  · rw [if_neg (show ¬ (16 : Int32) < nI _ from Int32.not_lt.mpr (nI_le (b := 16) z (by omega))), if_neg (show ¬ (1 : Int32) = 0 by decide), s_Ws_join hp.1 hd (by omega) hp.2, bd1_s, if_pos z]
    rfl

/-! ===== the digest: the table, and the whole ===== -/
section
variable {tS tL : Int32} {tM tF : Nat → Int32} {lc : Int32} {lv : Nat → Int64} {mode budget formed : Int32} {ce : Int64} {corr dec qn : Int32} {E : Nat → Int64} {tl pn pl : Int32} {pv : Nat → Int64} {sn sl : Int32} {sv : Nat → Int64} {kn bi : Nat → Int32} {hs hl : Int32} {hm hf rep m : Nat → Int32} {w : Nat → Int64} {tn tn2 : Int32} {tx tx2 : Nat → Int32}
/-- a cell's answer -/
def cV (tL qn : Int32) (E : Nat → Int64) (pn : Int32) (pv : Nat → Int64) (sn : Int32) (sv : Nat → Int64) (x1 x2 x3 : Int32) : Int32 := (f_TL_cell x1 x2 x3 tL qn E pn pv sn sv).getD 0
theorem cV_eq (h : RW tS tL tM tF lc lv mode budget formed ce corr dec qn E tl pn pl pv sn sl sv kn bi hs hl hm hf rep m w) (x1 x2 x3 : Int32) : f_TL_cell x1 x2 x3 tL qn E pn pv sn sv = some (cV tL qn E pn pv sn sv x1 x2 x3) ∧ f_Mo_cell x1 x2 x3 m w = some (cV tL qn E pn pv sn sv x1 x2 x3) := by
  obtain ⟨r, e1, e2⟩ := s_cell h x1 x2 x3
  rw [cV, e1, e2]; exact ⟨rfl, rfl⟩
def rwF (c : Int32 → Int32 → Int32 → Int32) (S : Nat) (x1 x2 : Int32) (h : Int64) : Int64 := itN (fun s h => mx h (c x1 x2 (nI s))) S 0 h
theorem s_TL_mixRow {c : Int32 → Int32 → Int32 → Int32} {S : Nat} (hS : S ≤ 16) (hc : ∀ x1 x2 x3, f_TL_cell x1 x2 x3 tL qn E pn pv (nI S) sv = some (c x1 x2 x3)) (h : Int64) (x1 x2 : Int32) : f_TL_mixRow h x1 x2 tL qn E pn pv (nI S) sv = some (rwF c S x1 x2 h) := by
  have : ∀ (n k : Nat) (h : Int64), k ≤ S → S - k < n → itr (fun _ _ => none) (f_TL_mixRow_L24 tL qn E pn pv (nI S) sv x1 x2 (nI S) (fun x5 _ => some x5)) n h (nI k) = some (itN (fun s h => mx h (c x1 x2 (nI s))) (S - k) k h) := by
    intro n
    induction n with
    | zero => intro k h _ e; omega
    | succ n ih =>
      intro k h hk hn
      rw [itr_s, f_TL_mixRow_L24]
      rcases Nat.lt_or_ge k S with z | z
      · rw [if_neg (nI_ge z (by omega)), hc, bd1_s]
        simp only [bnd_eq]
        rw [show nI k + 1 = nI (k + 1) from nI_1 k, ih (k + 1) _ (by omega) (by omega), itN_s _ h z]
        rfl
      · rw [if_pos (nI_le z (by omega)), itN_z _ h z]
  exact this FU 0 h (Nat.zero_le _) (by rw [FU_eq]; omega)
theorem s_Mo_mixesRow {c : Int32 → Int32 → Int32 → Int32} {S : Nat} (hS : S ≤ 16) (h39 : m 39 = nI S) (hc : ∀ x1 x2 x3, f_Mo_cell x1 x2 x3 m w = some (c x1 x2 x3)) (h : Int64) (x1 x2 : Int32) : f_Mo_mixesRow x1 x2 h m w = some (rwF c S x1 x2 h) := by
  have : ∀ (n k : Nat) (h : Int64), k ≤ S → S - k < n → itr (fun _ _ => none) (f_Mo_mixesRow_L2 m w x1 x2 (fun _ x5 => some x5)) n (nI k) h = some (itN (fun s h => mx h (c x1 x2 (nI s))) (S - k) k h) := by
    intro n
    induction n with
    | zero => intro k h _ e; omega
    | succ n ih =>
      intro k h hk hn
      rw [itr_s, f_Mo_mixesRow_L2, h39]
      rcases Nat.lt_or_ge k S with z | z
      · rw [if_neg (nI_ge z (by omega)), hc, bd1_s, s_mixes, bd1_s]
        simp only [bnd_eq]
        rw [show nI k + 1 = nI (k + 1) from nI_1 k, ih (k + 1) _ (by omega) (by omega), itN_s _ h z]
      · rw [if_pos (nI_le z (by omega)), itN_z _ h z]
  exact this FU 0 h (Nat.zero_le _) (by rw [FU_eq]; omega)
/-- the prefixes with their rows, the extensions' rows, the suffixes -/
def t1F (c : Int32 → Int32 → Int32 → Int32) (P : List Wrd) (S k : Nat) (h : Int64) : Int64 := rwF c S (nI k) (-1) (ltF (pw P k) (mx h (nI (pw P k).length)))
def t2F (c : Int32 → Int32 → Int32 → Int32) (S k a : Nat) (h : Int64) : Int64 := rwF c S (nI k) (nI a) h
def t3F (S : List Wrd) (k : Nat) (h : Int64) : Int64 := ltF (pw S k) (mx h (nI (pw S k).length))
theorem s_TL_mixTable {c : Int32 → Int32 → Int32 → Int32} {P S : List Wrd} {le : Nat} (hT : tok le P S) (h3 : le ≤ 3) (hpv : rX P pv) (hsv : rX S sv) (hc : ∀ x1 x2 x3, f_TL_cell x1 x2 x3 tL qn E (nI P.length) pv (nI S.length) sv = some (c x1 x2 x3)) (h : Int64) :
    f_TL_mixTable_a h tL qn E (nI le) (nI P.length) pv (nI S.length) sv = some (itN (t3F S) S.length 0 (itN (fun k h => itN (t2F c S.length k) le 0 h) P.length 0 (itN (t1F c P S.length) P.length 0 h))) := by
  have h40 := hT.2.2.2.1
  have h16 := hT.2.2.2.2.1
  have hP := tok_wfP hT h3
  have hS := tok_wfS hT h3
  have e1 : ∀ {K : Int64 → Int32 → Option Int64} (n k : Nat) (h : Int64), k ≤ P.length → P.length - k < n → itr (fun _ _ => none) (f_TL_mixTable_a_L6 tL qn E (nI P.length) pv (nI S.length) sv K) n h (nI k) = K (itN (t1F c P S.length) (P.length - k) k h) (nI P.length) := by
    intro K n
    induction n with
    | zero => intro k h _ e; omega
    | succ n ih =>
      intro k h hk hn
      rw [itr_s, f_TL_mixTable_a_L6]
      rcases Nat.lt_or_ge k P.length with z | z
      · obtain ⟨w1, w2⟩ := hP _ (List.getElem_mem z)
        rw [if_neg (nI_ge z (by omega)), gIn_nI (by omega) (by omega), nI_clamp (by omega), hpv k z, s_Ws_lengthOf w1 w2, bd1_s, bnd_eq, gIn_nI (by omega) (by omega), s_TL_mixLetters w1 w2, bd1_s, s_TL_mixRow h16 hc, bd1_s]
        simp only [bnd_eq]
        rw [show nI k + 1 = nI (k + 1) from nI_1 k, ih (k + 1) _ (by omega) (by omega), itN_s _ h z, t1F, pw_eq z]
        rfl
      · rw [if_pos (nI_le z (by omega)), itN_z _ h z, show k = P.length by omega]
  have e2 : ∀ {K : Int64 → Int32 → Option Int64} (p : Nat) (n k : Nat) (h : Int64), k ≤ le → le - k < n → itr (fun _ _ => none) (f_TL_mixTable_a_L93 tL qn E (nI le) (nI P.length) pv (nI S.length) sv (nI p) K) n h (nI k) = K (itN (t2F c S.length p) (le - k) k h) (nI le) := by
    intro K p n
    induction n with
    | zero => intro k h _ e; omega
    | succ n ih =>
      intro k h hk hn
      rw [itr_s, f_TL_mixTable_a_L93]
      rcases Nat.lt_or_ge k le with z | z
      · rw [if_neg (nI_ge z (by omega)), s_TL_mixRow h16 hc, bd1_s]
        simp only [bnd_eq]
        rw [show nI k + 1 = nI (k + 1) from nI_1 k, ih (k + 1) _ (by omega) (by omega), itN_s _ h z]
        rfl
      · rw [if_pos (nI_le z (by omega)), itN_z _ h z, show k = le by omega]
  have e3 : ∀ {K : Int64 → Int32 → Option Int64} (n k : Nat) (h : Int64), k ≤ P.length → P.length - k < n → itr (fun _ _ => none) (f_TL_mixTable_a_L78 tL qn E (nI le) (nI P.length) pv (nI S.length) sv K) n h (nI k) = K (itN (fun k h => itN (t2F c S.length k) le 0 h) (P.length - k) k h) (nI P.length) := by
    intro K n
    induction n with
    | zero => intro k h _ e; omega
    | succ n ih =>
      intro k h hk hn
      rw [itr_s, f_TL_mixTable_a_L78]
      rcases Nat.lt_or_ge k P.length with z | z
      · rw [if_neg (nI_ge z (by omega)), show (0 : Int32) = nI 0 from rfl, e2 k FU 0 h (Nat.zero_le _) (by rw [FU_eq]; omega)]
        simp only [bnd_eq]
        rw [show nI k + 1 = nI (k + 1) from nI_1 k, ih (k + 1) _ (by omega) (by omega), itN_s _ h z]
        rfl
      · rw [if_pos (nI_le z (by omega)), itN_z _ h z, show k = P.length by omega]
  have e4 : ∀ {K : Int64 → Int32 → Option Int64} (n k : Nat) (h : Int64), k ≤ S.length → S.length - k < n → itr (fun _ _ => none) (f_TL_mixTable_a_L129 (nI S.length) sv K) n h (nI k) = K (itN (t3F S) (S.length - k) k h) (nI S.length) := by
    intro K n
    induction n with
    | zero => intro k h _ e; omega
    | succ n ih =>
      intro k h hk hn
      rw [itr_s, f_TL_mixTable_a_L129]
      rcases Nat.lt_or_ge k S.length with z | z
      · obtain ⟨w1, w2⟩ := hS _ (List.getElem_mem z)
        rw [if_neg (nI_ge z (by omega)), gIn_nI (by omega) (by omega), nI_clamp (by omega), hsv k z, s_Ws_lengthOf w1 w2, bd1_s, bnd_eq, gIn_nI (by omega) (by omega), s_TL_mixLetters w1 w2, bd1_s]
        simp only [bnd_eq]
        rw [show nI k + 1 = nI (k + 1) from nI_1 k, ih (k + 1) _ (by omega) (by omega), itN_s _ h z, t3F, pw_eq z]
        rfl
      · rw [if_pos (nI_le z (by omega)), itN_z _ h z, show k = S.length by omega]
  rw [f_TL_mixTable_a, show (0 : Int32) = nI 0 from rfl, e1 FU 0 h (Nat.zero_le _) (by rw [FU_eq]; omega), e3 FU 0 _ (Nat.zero_le _) (by rw [FU_eq]; omega), e4 FU 0 _ (Nat.zero_le _) (by rw [FU_eq]; omega)]
  rfl
theorem s_dg_table {c : Int32 → Int32 → Int32 → Int32} {P S : List Wrd} {le : Nat} (hT : tok le P S) (h0 : 0 < le) (h3 : le ≤ 3) (hM : tabM le P S m w) (hc : ∀ x1 x2 x3, f_Mo_cell x1 x2 x3 m w = some (c x1 x2 x3))
    {K : Int32 → Int64 → Option (Int64 × (Nat → Int32) × (Nat → Int32) × (Nat → Int32) × (Nat → Int32) × (Nat → Int32) × (Nat → Int32) × Int32 × Int64)} (h : Int64) :
    itr (fun _ _ => none) (f_Mo_digest_L105 m w (fun _ v_hash_4 => (itr (fun _ _ => none) (f_Mo_digest_L144 m w (fun _ v_hash_5 => (itr (fun _ _ => none) (f_Mo_digest_L190 m w K) FU (0 : Int32) v_hash_5))) FU (0 : Int32) v_hash_4))) FU (0 : Int32) h = K (nI S.length) (itN (t3F S) S.length 0 (itN (fun k h => itN (t2F c S.length k) le 0 h) P.length 0 (itN (t1F c P S.length) P.length 0 h))) := by
  have h40 := hT.2.2.2.1
  have h16 := hT.2.2.2.2.1
  have hP := tok_wfP hT h3
  have hS := tok_wfS hT h3
  have hPl : P.length * le ≤ 40 * 3 := Nat.mul_le_mul h40 h3
  have e1 : ∀ {K : Int32 → Int64 → Option (Int64 × (Nat → Int32) × (Nat → Int32) × (Nat → Int32) × (Nat → Int32) × (Nat → Int32) × (Nat → Int32) × Int32 × Int64)} (n k : Nat) (h : Int64), k ≤ P.length → P.length - k < n → itr (fun _ _ => none) (f_Mo_digest_L105 m w K) n (nI k) h = K (nI P.length) (itN (t1F c P S.length) (P.length - k) k h) := by
    intro K n
    induction n with
    | zero => intro k h _ e; omega
    | succ n ih =>
      intro k h hk hn
      rw [itr_s, f_Mo_digest_L105, hM.2.1]
      rcases Nat.lt_or_ge k P.length with z | z
      · obtain ⟨w1, w2⟩ := hP _ (List.getElem_mem z)
        rw [if_neg (nI_ge z (by omega)), show (304 : Int32) = nI 304 from rfl, nI_add, gIn_nI (by omega) (by omega), nI_clamp (by omega), hM.2.2.2.1 k z, s_Mo_mixesWord w1 w2, bd1_s, s_Mo_mixesRow h16 hM.2.2.1 hc, bd1_s]
        simp only [bnd_eq]
        rw [show nI k + 1 = nI (k + 1) from nI_1 k, ih (k + 1) _ (by omega) (by omega), itN_s _ h z, t1F, pw_eq z]
      · rw [if_pos (nI_le z (by omega)), itN_z _ h z, show k = P.length by omega]
  have e3 : ∀ {K : Int32 → Int64 → Option (Int64 × (Nat → Int32) × (Nat → Int32) × (Nat → Int32) × (Nat → Int32) × (Nat → Int32) × (Nat → Int32) × Int32 × Int64)} (n k : Nat) (h : Int64), k ≤ P.length * le → P.length * le - k < n → itr (fun _ _ => none) (f_Mo_digest_L144 m w K) n (nI k) h = K (nI (P.length * le)) (itN (fun i => t2F c S.length (i / le) (i % le)) (P.length * le - k) k h) := by
    intro K n
    induction n with
    | zero => intro k h _ e; omega
    | succ n ih =>
      intro k h hk hn
      rw [itr_s, f_Mo_digest_L144, hM.1, hM.2.1, pk_mul]
      rcases Nat.lt_or_ge k (P.length * le) with z | z
      · rw [if_neg (nI_ge z (by omega)), gNz_nI h0 (by omega), gNz_nI h0 (by omega), pk_div (by omega) h0 (by omega), show nI k - nI (k / le) * nI le = nI (k % le) by rw [← pk_div (by omega) h0 (by omega)]; exact pk_rem (by omega) h0 (by omega), s_Mo_mixesRow h16 hM.2.2.1 hc, bd1_s]
        simp only [bnd_eq]
        rw [show nI k + 1 = nI (k + 1) from nI_1 k, ih (k + 1) _ (by omega) (by omega), itN_s _ h z]
        rfl
      · rw [if_pos (nI_le z (by omega)), itN_z _ h z, show k = P.length * le by omega]
  have e4 : ∀ {K : Int32 → Int64 → Option (Int64 × (Nat → Int32) × (Nat → Int32) × (Nat → Int32) × (Nat → Int32) × (Nat → Int32) × (Nat → Int32) × Int32 × Int64)} (n k : Nat) (h : Int64), k ≤ S.length → S.length - k < n → itr (fun _ _ => none) (f_Mo_digest_L190 m w K) n (nI k) h = K (nI S.length) (itN (t3F S) (S.length - k) k h) := by
    intro K n
    induction n with
    | zero => intro k h _ e; omega
    | succ n ih =>
      intro k h hk hn
      rw [itr_s, f_Mo_digest_L190, hM.2.2.1]
      rcases Nat.lt_or_ge k S.length with z | z
      · obtain ⟨w1, w2⟩ := hS _ (List.getElem_mem z)
        rw [if_neg (nI_ge z (by omega)), show (344 : Int32) = nI 344 from rfl, nI_add, gIn_nI (by omega) (by omega), nI_clamp (by omega), hM.2.2.2.2 k z, s_Mo_mixesWord w1 w2, bd1_s]
        simp only [bnd_eq]
        rw [show nI k + 1 = nI (k + 1) from nI_1 k, ih (k + 1) _ (by omega) (by omega), itN_s _ h z, t3F, pw_eq z]
      · rw [if_pos (nI_le z (by omega)), itN_z _ h z, show k = S.length by omega]
  rw [show (0 : Int32) = nI 0 from rfl, e1 FU 0 h (Nat.zero_le _) (by rw [FU_eq]; omega), e3 FU 0 _ (Nat.zero_le _) (by rw [FU_eq]; omega), e4 FU 0 _ (Nat.zero_le _) (by rw [FU_eq]; omega)]
  have := itN_flat h0 (t2F c S.length) P.length 0 (itN (t1F c P S.length) P.length 0 h)
  rw [Nat.zero_mul] at this
  rw [Nat.sub_zero, Nat.sub_zero, Nat.sub_zero, this]
theorem s_digest (h : RW tS tL tM tF lc lv mode budget formed ce corr dec qn E tl pn pl pv sn sl sv kn bi hs hl hm hf rep m w) (hX : RX tn tx tn2 tx2) (len qd : Int32) (se qu og ar lt far q2 p2 b2 s2 pa : Nat → Int32) (st : Int32) :
    ∃ r se' qu' og' ar' lt' len' qd' far' q2' p2' b2' s2' pa' st' hash', f_TL_digest tn lc tS tL tM tF mode budget ce corr dec qn E tl pn pv sn sv hs hl hm hf tx len qd se qu og ar lt = some (r, se', qu', og', ar', lt', len', qd') ∧ f_Mo_digest tn2 st m w tx2 far q2 p2 b2 s2 pa = some (r, far', q2', p2', b2', s2', pa', st', hash') := by
  have hcnt := fun x => s_count h hX x
  have hcel := fun x1 x2 x3 => cV_eq h x1 x2 x3
  obtain ⟨rL, se', qu', og', ar', lt', len', qd', far', q2', p2', b2', s2', pa', st', l1, l2⟩ := s_leastStates h len qd se qu og ar lt far q2 p2 b2 s2 pa st
  generalize cV tL qn E pn pv sn sv = c at hcel
  obtain ⟨sz, le, b, n, mo, szh, al, L, tm, tf, ml, mf, re, P, S, hR⟩ := h
  obtain ⟨t1, t2, t3, rfl, rfl, t6, t7, -, -, -, -, -, -, t19, t20, t21, t22, t23, t24⟩ := RA_RT hR
  obtain ⟨a1, a2, a3, a4, a5, a6, hA, a8, a9, a10, a11, a12, a13, a14, a15, a16, a17, a18, rfl, rfl, rfl, a22, rfl, rfl, a25, hT, hM, hC, rfl, h2, h3, rfl, h5⟩ := hR
  obtain ⟨T, g1, g2, rfl, rfl, g5, g6⟩ := hX
  -- counts
  have cnt : ∀ {Kc : Int64 → Int32 → Option (Int64 × (Nat → Int32) × (Nat → Int32) × (Nat → Int32) × (Nat → Int32) × (Nat → Int32) × Int32 × Int32)} {Kr : Int32 → Int64 → Option (Int64 × (Nat → Int32) × (Nat → Int32) × (Nat → Int32) × (Nat → Int32) × (Nat → Int32) × (Nat → Int32) × Int32 × Int64)} (n k : Nat) (h : Int64), k ≤ 13 → 13 - k < n → ∃ h', itr (fun _ _ => none) (f_TL_digest_L15 (nI T.length) lc (nI sz) (nI le) tF mode budget corr dec qn (nI P.length) (nI S.length) (nI szh) Kc) n h (nI k) = Kc h' (nI 13) ∧ itr (fun _ _ => none) (f_Mo_digest_L9 (nI T.length) m Kr) n (nI k) h = Kr (nI 13) h' := by
    intro Kc Kr n
    induction n with
    | zero => intro k h _ e; omega
    | succ n ih =>
      intro k h hk hn
      rw [itr_s, itr_s, f_TL_digest_L15, f_Mo_digest_L9]
      rcases Nat.lt_or_ge k 13 with z | z
      · obtain ⟨r, k1, k2⟩ := hcnt (nI k)
        rw [if_neg (show ¬ (12 : Int32) < nI k by rw [fl, nI_ltI (by omega) (by omega)]; omega), if_neg (show ¬ (13 : Int32) ≤ nI k from nI_ge (b := 13) z (by omega)), k1, k2, bd1_s, bd1_s, s_mixes, bd1_s]
        simp only [bnd_eq]
        rw [show nI k + 1 = nI (k + 1) from nI_1 k]
        exact ih (k + 1) _ (by omega) (by omega)
      · have : k = 13 := by omega
        subst this
        rw [if_pos (show (12 : Int32) < nI 13 by decide), if_pos (show (13 : Int32) ≤ nI 13 by decide)]
        exact ⟨_, rfl, rfl⟩
  rw [f_TL_digest, f_Mo_digest, show (0 : Int32) = nI 0 from rfl]
  obtain ⟨h1, w1, w2⟩ := cnt FU 0 59 (by omega) (by rw [FU_eq]; omega)
  rw [w1, w2]
  rw [s_mixA (by decide) (by decide) t2 (show 3 * sz ≤ 24 by omega) (show sz ≤ 8 by omega) t19 t20, bd1_s, l1, bd8_s, bnd_eq]
  rw [s_dg_L32 t2 t3 t6 t7 t21 t22 FU 0 _ (Nat.zero_le _) (by rw [FU_eq]; omega), l2, bd8_s, s_mixes, bd1_s]
  rw [s_TL_mixTable hT t2 a22 a25 (fun x1 x2 x3 => (hcel x1 x2 x3).1), bd1_s]
  have tb := fun K => s_dg_table (K := K) hT t1 t2 hM (fun x1 x2 x3 => (hcel x1 x2 x3).2) (mx (itN (fun s h => mx (auI tm le s h) (nI (tf s))) (sz - 0) 0 h1) rL)
  rw [show (0 : Int32) = nI 0 from rfl] at tb
  rw [tb]
  have hau : ∀ {K : Int32 → Int64 → Option (Int64 × (Nat → Int32) × (Nat → Int32) × (Nat → Int32) × (Nat → Int32) × (Nat → Int32) × (Nat → Int32) × Int32 × Int64)} (h : Int64), f_TL_mixAutomaton 120 40 h (nI szh) (nI le) hm hf = some (auF ml mf le szh h) ∧ itr (fun _ _ => none) (f_Mo_digest_L223 m K) FU (nI 0) h = K (nI szh) (auF ml mf le szh h) := by
    intro K h
    by_cases z : szh = 0
    · subst z
      refine ⟨rfl, ?_⟩
      rw [show FU = 4999 + 1 from rfl, itr_s, f_Mo_digest_L223, h2, if_pos (show nI 0 ≤ nI 0 by decide)]
      rfl
    · obtain ⟨u1, u2, u3, u4, u5, u6, u7, u8, u9⟩ := h5 (by omega)
      exact ⟨s_mixA (by decide) (by decide) t2 (by omega) (by omega) u2 u3 h, s_dg_L223 t2 h3 h2 t7 u7 u8 FU 0 h (Nat.zero_le _) (by rw [FU_eq]; omega)⟩
  rw [(hau (K := fun _ _ => none) _).1, bd1_s, (hau _).2]
  rcases a15 with ⟨c1, c2⟩ | ⟨u, c1, c2, c3, c4, c5⟩
  · rw [if_pos c1, f_TL_digest_J108, show (0 : Int32) = nI 0 from rfl, s_dt_L111 g1 g5 FU 0 _ (Nat.zero_le _) (by rw [FU_eq]; omega)]
    have e292 : ∀ {K : Int32 → Int64 → Option (Int64 × (Nat → Int32) × (Nat → Int32) × (Nat → Int32) × (Nat → Int32) × (Nat → Int32) × (Nat → Int32) × Int32 × Int64)} (h : Int64), itr (fun _ _ => none) (f_Mo_digest_L292 m K) FU (nI 0) h = K (nI 0) h := fun {K} h => by
      rw [show FU = 4999 + 1 from rfl, itr_s, f_Mo_digest_L292, c2, if_pos (show (-1 : Int32) ≤ nI 0 by decide)]
    rw [e292, s_dg_L325 g1 g6 FU 0 _ (Nat.zero_le _) (by rw [FU_eq]; omega)]
    exact ⟨_, _, _, _, _, _, _, _, _, _, _, _, _, _, _, _, rfl, rfl⟩
  · have hsm := eX_small c1 (by omega)
    rw [c3, if_neg (lN_m1 (by omega)), s_TL_mixLetters c1 c2, bd1_s, f_TL_digest_J108, show (0 : Int32) = nI 0 from rfl, s_dt_L111 g1 g5 FU 0 _ (Nat.zero_le _) (by rw [FU_eq]; omega)]
    rw [s_dg_L292 c2 c4 c5 FU 0 _ (Nat.zero_le _) (by rw [FU_eq]; omega), s_dg_L325 g1 g6 FU 0 _ (Nat.zero_le _) (by rw [FU_eq]; omega)]
    exact ⟨_, _, _, _, _, _, _, _, _, _, _, _, _, _, _, _, rfl, rfl⟩
end

/-! ===== a step, on both sides: a correction's end, and the whole ===== -/
theorem s_Le_finish (x : Int64) (s c : Int32) : f_Le_finishCorrection x s c = some ((if s = 0 then 7 else 5), x, c + 1, (if s = 0 then 1 else 0)) := by
  rw [f_Le_finishCorrection]
  simp only [bnd_eq]
  by_cases h : s = 0
  · rw [if_pos h, if_pos h]; rfl
  · rw [if_neg h, if_neg h]; rfl
theorem s_corr_end {sz le b n n' mo szh : Nat} {al al' : Wrd → Option Nat} {L : List Wrd} {tm tf ml mf re : Nat → Nat} {P S P' S' X Y : List Wrd} {tS tL : Int32} {tM tF : Nat → Int32} {lc : Int32} {lv : Nat → Int64} {mode budget formed : Int32} {ce : Int64} {corr dec qn : Int32} {E E' : Nat → Int64} {tl pn pl : Int32} {pv pv' : Nat → Int64} {sn sl : Int32} {sv sv' : Nat → Int64} {kn bi : Nat → Int32} {hs hl : Int32} {hm hf rep m m' : Nat → Int32} {w w' : Nat → Int64} {u : Wrd} {s0 fo' : Int32}
    (h : RA sz le b n mo szh al L tm tf ml mf re P S tS tL tM tF lc lv mode budget formed ce corr dec qn E tl pn pl pv sn sl sv kn bi hs hl hm hf rep m w)
    (hA : ACx le sz b n' al' L tm tf E' lv tM tF m' w') (hal : aleq al al') (hT : tok le P' S') (hM : tabM le P' S' m' w') (hP : P' = P ++ X) (hS : S' = S ++ Y) (hpv : rX P' pv') (hsv : rX S' sv') (hu : wok u) (h16 : u.length ≤ 16) (hCR : CRm s0 fo' u m m')
    (len qd : Int32) (se qu og ar lt q2 p2 b2 s2 pa row so : Nat → Int32) (st mos : Int32) (mi : Int64) (mo2 : Nat → Int64) :
    SO tS tL tM tF lc lv mode budget tl (f_Le_doStep_J210 (lN (eX u)) s0 fo' ce corr dec (nI n') E' (nI P'.length) (nI (lg P')) pv' (nI S'.length) (nI (lg S')) sv' kn bi hs hl hm hf rep len qd se qu og ar lt) (some ((if 0 ≤ s0 then (if s0 = 0 then 7 else 5) else s0), m', w', q2, p2, b2, s2, pa, st, row, mi, mo2, mos, so)) := by
  obtain ⟨k1, k2, k3, k4, k5⟩ := hCR
  have h' := h
  obtain ⟨a1, a2, a3, a4, a5, a6, a7, a8, a9, a10, a11, a12, a13, a14, a15, a16, a17, a18, a19, a20, a21, a22, a23, a24, a25, a26, a27, a28, a29⟩ := h'
  have h41 : m' 41 = 0 ∨ (m' 41 = 1 ∧ 0 < szh) := by
    rw [k3]
    rcases k4 with q | q
    · rw [q]; exact a14
    · exact Or.inl q
  have hc : cch al' P' S' le kn bi := by
    subst hP hS
    exact cch_grow a28 hal hT.2.2.2.1 hA.2.2.2.2.2.2.2.2.2.2.2.2.2.2.2.2.2
  rw [f_Le_doStep_J210]
  by_cases z : 0 ≤ s0
  · rw [if_pos z, if_pos z, s_Le_finish, bd4_s]
    obtain ⟨g1, g2, g3, g4⟩ := k1 z
    refine ⟨_, _, _, _, _, _, _, _, _, _, _, _, _, _, _, _, _, _, _, _, _, _, _, _, _, _, _, _, _, _, _, _, _, _, _, _, _, _, _, _, rfl, rfl, RW_mk h (fun x hx => k5 x (by omega)) hA hT hM hP hpv hsv hc k3.symm h41 (Or.inr ⟨u, hu, h16, rfl, g1, g2⟩) (by rw [g3, a16]) g4.symm ?_⟩
    rw [g4]
    by_cases y : s0 = 0
    · rw [if_pos y]; exact Or.inr rfl
    · rw [if_neg y]; exact Or.inl rfl
  · rw [if_neg z, if_neg z]
    obtain ⟨g1, g2, g3, g4⟩ := k2 z
    refine ⟨_, _, _, _, _, _, _, _, _, _, _, _, _, _, _, _, _, _, _, _, _, _, _, _, _, _, _, _, _, _, _, _, _, _, _, _, _, _, _, _, rfl, rfl, RW_mk h (fun x hx => k5 x (by omega)) hA hT hM hP hpv hsv hc k3.symm h41 (RC_fr a15 (fun x hx => ?_)) (by rw [g3, a16]) (by rw [g4, a17]) (by rw [g4]; exact a18)⟩
    rcases hx with rfl | hx
    · exact g1
    · exact g2 x hx.1 hx.2
theorem wri_pth (f : Nat → Int32) (u : Wrd) : pthR u (wri f u) := fun k hk => by
  rw [wri_at hk, List.getD_eq_getElem?_getD, List.getElem?_eq_getElem hk, Option.getD_some]
theorem tok_pos {le : Nat} {P S : List Wrd} (hT : tok le P S) : 0 < P.length := by
  have h := hT.2.2.2.2.2.1
  rcases Nat.eq_zero_or_pos P.length with z | z
  · rw [List.length_eq_zero_iff.mp z] at h; cases h
  · exact z
theorem tok_pw0 {le : Nat} {P S : List Wrd} (hT : tok le P S) : pw P 0 = [] := by
  rw [pw, List.getD_eq_getElem?_getD, hT.2.2.2.2.2.1]; rfl
/-- the hypothesis that both form -/
theorem RH_forms {le : Nat} {al : Wrd → Option Nat} {P S : List Wrd} {m' fi' mv' re' : Nat → Int32} (hT : tok le P S) (h3 : le ≤ 3) (hcl : clsd al P S le) (e2 : rI 120 (hmv al P S le) mv') (e3 : rI 40 (hfi al P S) fi') (e4 : ∀ j, j < (rps al P S P.length).length → re' j = nI (rp al P S P.length j)) (g4 : m' 40 = nI (rps al P S P.length).length) (g6 : rIm 361 (rps al P S P.length).length le (hmv al P S le) m') (g7 : rIo 481 (rps al P S P.length).length (hfi al P S) m') (g8 : rIo 521 (rps al P S P.length).length (rp al P S P.length) m') :
    0 < (rps al P S P.length).length ∧ RH le P (rps al P S P.length).length (hmv al P S le) (hfi al P S) (rp al P S P.length) (nI (rps al P S P.length).length) (nI le) mv' fi' re' m' := by
  have hp := tok_pos hT
  have h40 := hT.2.2.2.1
  have hlen := rps_le (al := al) (P := P) (S := S) P.length
  have hR0 : isR al P S 0 = true := by
    rw [isR_iff]
    obtain ⟨j, q1, q2⟩ := prf_at (al := al) (S := S) hp
    rw [q1, show j = 0 by omega]
  have h0 := rps_at hR0 P.length hp
  have hz : (rps al P S 0).length = 0 := rfl
  rw [hz] at h0
  have hpos : 0 < (rps al P S P.length).length := by
    rcases Nat.eq_zero_or_pos (rps al P S P.length).length with z | z
    · rw [List.length_eq_zero_iff.mp z] at h0; cases h0
    · exact z
  refine ⟨hpos, rfl, g4, by omega, rfl, fun _ => ⟨⟨hpos, fun s a hs ha => ?_⟩, e2, e3, fun j hj => ?_, fun j hj => ⟨e4 j hj, (rp_mem hj).1⟩, ?_, g6, g7, g8⟩⟩
  · rw [hmv_at hs ha h3]
    exact st_lt (hcl _ _ (rp_mem hs).1 ha)
  · rw [hfi, if_pos hj]; omega
  · rw [rp, List.getD_eq_getElem?_getD, h0]; rfl

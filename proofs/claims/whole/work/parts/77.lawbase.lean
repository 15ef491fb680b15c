/-! ===== what the law's cases stand on ===== -/
theorem pm1 {α : Type} (M X N T : List α) : ((M ++ X) ++ (N ++ T)).Perm (T ++ (M ++ (N ++ X))) := by
  refine List.perm_append_comm.trans ?_
  rw [List.append_assoc]
  refine List.perm_append_comm.trans ?_
  rw [List.append_assoc, List.append_assoc]
  exact (List.perm_append_comm.append_left M).append_left T
theorem pm2 {α : Type} (M X N T : List α) : ((M ++ X) ++ (N ++ T)).Perm (T ++ (M ++ (X ++ N))) := (pm1 M X N T).trans ((List.perm_append_comm.append_left M).append_left T)
theorem pm3 {α : Type} (M X Y T : List α) : (T ++ (M ++ (X ++ Y))).Perm ((X ++ T) ++ (M ++ Y)) := by
  have h1 : (M ++ (X ++ Y)).Perm (X ++ (M ++ Y)) := by
    rw [← List.append_assoc, ← List.append_assoc]
    exact List.perm_append_comm.append_right Y
  refine (h1.append_left T).trans ?_
  rw [← List.append_assoc]
  exact List.perm_append_comm.append_right (M ++ Y)
theorem pm4 {α : Type} (M X Y T : List α) : (T ++ (M ++ (X ++ Y))).Perm ((Y ++ T) ++ (M ++ X)) := ((List.perm_append_comm.append_left M).append_left T).trans (pm3 M Y X T)
theorem rp_refl (ws : va_W) : Rp ws ws := by
  refine ⟨List.range ws.length, ?_, nd_va List.nodup_range⟩
  apply List.ext_getElem?
  intro i
  rw [List.getElem?_map, List.getElem?_map]
  by_cases h : i < ws.length
  · rw [List.getElem?_range h, Option.map_some, List.getElem?_eq_getElem h, Option.map_some]
  · rw [List.getElem?_eq_none (by rw [List.length_range]; omega), List.getElem?_eq_none (by omega)]; rfl
section
variable {tS tL : Int32} {tM tF : Nat → Int32} {lc : Int32} {lv : Nat → Int64} {mode budget formed : Int32} {ce : Int64} {corr dec qn : Int32} {E : Nat → Int64} {tl pn pl : Int32} {pv : Nat → Int64} {sn sl : Int32} {sv : Nat → Int64} {kn bi : Nat → Int32} {hs hl : Int32} {hm hf rep m m' : Nat → Int32} {w w' : Nat → Int64}
theorem RW_37 (h : RW tS tL tM tF lc lv mode budget formed ce corr dec qn E tl pn pl pv sn sl sv kn bi hs hl hm hf rep m w) : qn = m 37 := by
  obtain ⟨sz, le, b, n, mo, szh, al, L, tm, tf, ml, mf, re, P, S, hR⟩ := h
  obtain ⟨a1, a2, a3, a4, a5, a6, ⟨b1, b2, ⟨Q, c1, c2, c3, c4, c5, c6⟩, b4⟩, a8, a9, a10, a11, a12, a13⟩ := hR
  rw [a12, c5]
theorem RW_cg (h : RW tS tL tM tF lc lv mode budget formed ce corr dec qn E tl pn pl pv sn sl sv kn bi hs hl hm hf rep m w) (em : ∀ k, k < 561 → m' k = m k) (ew : ∀ k, k < 360 → w' k = w k) : RW tS tL tM tF lc lv mode budget formed ce corr dec qn E tl pn pl pv sn sl sv kn bi hs hl hm hf rep m' w' := by
  obtain ⟨sz, le, b, n, mo, szh, al, L, tm, tf, ml, mf, re, P, S, hR⟩ := h
  exact ⟨sz, le, b, n, mo, szh, al, L, tm, tf, ml, mf, re, P, S, RA_cg hR (fun _ _ => rfl) (fun _ _ => rfl) (fun _ _ => rfl) (fun _ _ => rfl) (fun _ _ => rfl) (fun _ _ => rfl) (fun _ _ => rfl) (fun _ _ => rfl) (fun _ _ => rfl) (fun _ _ => rfl) (fun _ _ => rfl) em ew⟩
end
theorem SlotOK_cg {cI cJ : ClassId} {X : va_W} {o o' : Option Nat} {fl fl' : Int32} {m m' : Nat → Int32} {w w' : Nat → Int64} (h : SlotOK cI cJ X o fl m w) (eo : o' = o) (ef : fl' = fl) (em : ∀ k, k < 561 → m' k = m k) (ew : ∀ k, k < 360 → w' k = w k) : SlotOK cI cJ X o' fl' m' w' := by
  subst eo ef
  rcases h with h | ⟨a, x1, x2, x3, x4, x5, x6, x7, x8, x9, x10, x11, x12, x13, x14, x15, x16, x17, x18, x19, x20, x21, x22, x23, x24, x25, x26, x27, x28, h1, h2, h3, h4⟩
  · exact Or.inl h
  · exact Or.inr ⟨a, x1, x2, x3, x4, x5, x6, x7, x8, x9, x10, x11, x12, x13, x14, x15, x16, x17, x18, x19, x20, x21, x22, x23, x24, x25, x26, x27, x28, h1, h2, h3, RW_cg h4 em ew⟩
theorem sl_bad {x : Int32} (h : x < 0 ∨ 2 ≤ x) : x < 0 ∨ 1 < x := by
  rcases h with h | h
  · exact Or.inl h
  · refine Or.inr ?_
    rw [fa_le] at h
    rw [fa_lt]
    have e2 : (2 : Int32).toInt = 2 := by decide
    have e1 : (1 : Int32).toInt = 1 := by decide
    omega
theorem sl_ok {x : Int32} (h : ¬ (x < 0 ∨ 2 ≤ x)) : x = nI 0 ∨ x = nI 1 := by
  have h0 : ¬ x < 0 := fun q => h (Or.inl q)
  obtain ⟨k, hk, rfl⟩ := nI_of h0
  have h2 : ¬ 2 ≤ k := fun q => h (Or.inr (nI_le (a := 2) q hk))
  rcases (show k = 0 ∨ k = 1 by omega) with e | e
  · exact Or.inl (by rw [e])
  · exact Or.inr (by rw [e])
theorem s_Mo_save_bad {x : Int32} (h : x < 0 ∨ 2 ≤ x) (m sa : Nat → Int32) (w sw : Nat → Int64) (iS : Nat → Int32) : f_Mo_save x m sa w sw iS = some ((-2 : Int32), sa, sw, iS) := by
  rw [f_Mo_save, s_Mo_in, bd1_s, if_pos (show (if x < 0 ∨ 1 < x then (0 : Int32) else 1) = 0 from if_pos (sl_bad h))]
theorem s_Mo_restore_bad {x : Int32} (h : x < 0 ∨ 2 ≤ x) (m sa : Nat → Int32) (w sw : Nat → Int64) (iS : Nat → Int32) : f_Mo_restore x m sa w sw iS = some ((-2 : Int32), m, w) := by
  rw [f_Mo_restore, s_Mo_in, bd1_s, if_pos (show (if x < 0 ∨ 1 < x then (0 : Int32) else 1) = 0 from if_pos (sl_bad h))]
/-- what holds of the law's own frame -/
def LG (p : Program) (s : State) (m : MethodId) (args : Array Value) (c : Code) (A : Nat → Prop) (D : va_G) (cI cJ cZ cO : ClassId) (sb L : Nat) (xs : Nat → Int32) : Prop := Cx p s m args c A D cI cJ cZ cO cL_law 4 RL ∧ Nz s ∧ va_X sb L xs s s.heap ∧ sb < s.heap.size ∧ ¬ A sb
def LN (p : Program) (l : Launch) (e : Env) (s : State) (m : MethodId) (args : Array Value) (below : List Frame) (meth : Method) (c : Code) (cells slots : Nat) (Q : State → Prop) (A : Nat → Prop) (D : va_G) (cI cJ cZ cO : ClassId) (a b : Nat → Nat) (sb i : Nat) : Prop :=
  ∀ (ws : va_W) (H : Heap) (locs : List Loc) (ls : Array Slot), LawOK cI cJ cZ cO a b ws → Wd s A D ws H locs → lv_has ls 4 [(0, .ref sb), (1, .ref (a 0)), (2, .ref (b 0)), (3, .int (nI i))] → W p l e room_1 s m args below meth c H locs (cells + 20) (slots + 948) Q (F0 m 779 ls [])
section LW
variable {p : Program} {l : Launch} {e : Env} {R : Room} {s : State} {m : MethodId} {args : Array Value} {below : List Frame} {meth : Method} {c : Code} {H : Heap} {locs : List Loc} {cells slots : Nat} {Q : State → Prop} {A : Nat → Prop} {D : va_G} {cI cJ cZ cO : ClassId}
variable {sb L i pc : Nat} {xs : Nat → Int32} {ls : Array Slot} {ws : va_W} {rest : List Value}
theorem r_sld (G : LG p s m args c A D cI cJ cZ cO sb L xs) (w : Wd s A D ws H locs) (k : Nat) (hik : i + k < L) (hL : L ≤ 2048) (hdg : decode cL_law pc = .ok (.iaload, 1))
    (kk : W p l e R s m args below meth c H locs cells slots Q (F0 m (pc + 1) ls (.int (xs (i + k)) :: rest))) : W p l e R s m args below meth c H locs cells slots Q (F0 m pc ls (.int (nI i + nI k) :: .ref sb :: rest)) := by
  obtain ⟨⟨hx, hb, hml, hown, hts, hA, hK⟩, hz, hX, hbl, hbA⟩ := G
  rw [nI_add]
  refine va_sld hx hb hX hbl hbA w.2.2 (vp_in_nI hik (by omega)) hdg ?_
  rw [nI_clamp (by omega)]
  exact kk
theorem r_sld0 (G : LG p s m args c A D cI cJ cZ cO sb L xs) (w : Wd s A D ws H locs) (hik : i < L) (hL : L ≤ 2048) (hdg : decode cL_law pc = .ok (.iaload, 1))
    (kk : W p l e R s m args below meth c H locs cells slots Q (F0 m (pc + 1) ls (.int (xs i) :: rest))) : W p l e R s m args below meth c H locs cells slots Q (F0 m pc ls (.int (nI i) :: .ref sb :: rest)) := by
  obtain ⟨⟨hx, hb, hml, hown, hts, hA, hK⟩, hz, hX, hbl, hbA⟩ := G
  refine va_sld hx hb hX hbl hbA w.2.2 (vp_in_nI hik (by omega)) hdg ?_
  rw [nI_clamp (by omega)]
  exact kk
/-- a truth value out of an int -/
theorem r_bool (G : LG p s m args c A D cI cJ cZ cO sb L xs) {x : Int32} {pc1 pc2 : Nat} {o1 o2 : Int} (d1 : decode cL_law pc = .ok (.ifCond .eq o1, 3)) (t1 : (pc : Int) + o1 = (pc1 : Int)) (d2 : decode cL_law (pc + 3) = .ok (.iconst 1, 1)) (d3 : decode cL_law (pc + 3 + 1) = .ok (.goto o2, 3)) (t3 : ((pc + 3 + 1 : Nat) : Int) + o2 = (pc2 : Int)) (d4 : decode cL_law pc1 = .ok (.iconst 0, 1)) (e4 : pc1 + 1 = pc2)
    (kk : W p l e R s m args below meth c H locs cells slots Q (F0 m pc2 ls (.int (if x = 0 then 0 else 1) :: rest))) : W p l e R s m args below meth c H locs cells slots Q (F0 m pc ls (.int x :: rest)) := by
  obtain ⟨⟨hx, hb, hml, hown, hts, hA, hK⟩, hz, hX, hbl, hbA⟩ := G
  refine lv_if_eq hx hb d1 t1 (fun hc => ?_) (fun hc => ?_)
  · rw [if_pos hc] at kk
    refine lv_iconst (v := (0 : Int32)) hx hb d4 (by decide) ?_
    rw [e4]
    exact kk
  · rw [if_neg hc] at kk
    refine lv_iconst (v := (1 : Int32)) hx hb d2 (by decide) ?_
    exact lv_goto hx hb d3 t3 kk
end LW

/-! ===== calls out of the first part of a world ===== -/
theorem map_lt {a b : va_W} {is : List Nat} (h : is.map (fun i => a[i]?) = b.map some) : ∀ i ∈ is, i < a.length := by
  intro i hi
  obtain ⟨k, hk⟩ := List.mem_iff_getElem?.mp hi
  have h2 := congrArg (fun l => l[k]?) h
  simp only [List.getElem?_map, hk, Option.map_some] at h2
  cases hw : b[k]? with
  | none => rw [hw] at h2; cases h2
  | some q => rw [hw] at h2; exact (List.getElem?_eq_some_iff.mp (Option.some.inj h2)).1
theorem ext_map {a b : va_W} {is : List Nat} (h : is.map (fun i => a[i]?) = b.map some) (Y : va_W) : (is ++ (List.range Y.length).map (fun i => i + a.length)).map (fun i => (a ++ Y)[i]?) = (b ++ Y).map some := by
  have h1 : is.map (fun i => (a ++ Y)[i]?) = b.map some := by
    rw [← h]
    apply List.map_congr_left
    intro i hi
    exact List.getElem?_append_left (map_lt h i hi)
  have h2 : ((List.range Y.length).map (fun i => i + a.length)).map (fun i => (a ++ Y)[i]?) = Y.map some := by
    apply List.ext_getElem?
    intro i
    rw [List.getElem?_map, List.getElem?_map, List.getElem?_map]
    by_cases hi : i < Y.length
    · rw [List.getElem?_range hi, Option.map_some, Option.map_some, List.getElem?_append_right (by omega), show i + a.length - a.length = i by omega, List.getElem?_eq_getElem hi, Option.map_some]
    · rw [List.getElem?_eq_none (by rw [List.length_range]; omega), List.getElem?_eq_none (by omega)]; rfl
  rw [List.map_append, List.map_append, h1, h2]
theorem ext_nd {a : va_W} {is : List Nat} (hlt : ∀ i ∈ is, i < a.length) (h : va_nd is = true) (n : Nat) : va_nd (is ++ (List.range n).map (fun i => i + a.length)) = true := by
  apply nd_va
  rw [List.nodup_append]
  refine ⟨va_ndN h, ?_, ?_⟩
  · rw [List.nodup_iff_pairwise_ne, List.pairwise_map]
    exact List.nodup_range.imp (fun h e => h (by omega))
  · intro x hx y hy e
    obtain ⟨j, hj, rfl⟩ := List.mem_map.mp hy
    have := hlt x hx
    omega
theorem Sp.ext {ws wc wr : va_W} (h : Sp ws wc wr) (Y : va_W) : Sp (ws ++ Y) wc (wr ++ Y) := by
  obtain ⟨isC, isR, e1, e2, e0, e3, e4⟩ := h
  have l1 := map_lt e1
  have l2 := map_lt e2
  refine ⟨isC, isR ++ (List.range Y.length).map (fun i => i + ws.length), ?_, ext_map e2 Y, e0, ext_nd l2 e3 _, ?_⟩
  · rw [← e1]
    apply List.map_congr_left
    intro i hi
    exact List.getElem?_append_left (l1 i hi)
  · rw [List.all_eq_true]
    intro i hi
    rcases List.mem_append.mp hi with q | q
    · exact (List.all_eq_true.mp e4) i q
    · obtain ⟨j, hj, rfl⟩ := List.mem_map.mp q
      have hn : j + ws.length ∉ isC := fun z => by have := l1 _ z; omega
      simp [hn]
theorem Rp.ext {a b : va_W} (h : Rp a b) (Y : va_W) : Rp (a ++ Y) (b ++ Y) := by
  obtain ⟨is, h1, h2⟩ := h
  exact ⟨_, ext_map h1 Y, ext_nd (map_lt h1) h2 _⟩
theorem pmM {α : Type} (T M X : List α) : (T ++ (M ++ X)).Perm (M ++ (T ++ X)) := by
  rw [← List.append_assoc, ← List.append_assoc]
  exact List.perm_append_comm.append_right X
theorem pmY {α : Type} (r Y c : List α) : ((r ++ Y) ++ c).Perm ((r ++ c) ++ Y) := by
  rw [List.append_assoc, List.append_assoc]
  exact List.perm_append_comm.append_left r
section LX
variable {p : Program} {l : Launch} {e : Env} {R : Room} {s : State} {m : MethodId} {args : Array Value} {below : List Frame} {meth : Method} {c : Code} {H : Heap} {locs : List Loc} {cells slots : Nat} {Q : State → Prop} {A : Nat → Prop} {D : va_G} {cI cJ cZ cO : ClassId}
variable {cc bytes : ByteArray} {nL maxL idx n pc : Nat} {own C : String} {y : MethodName} {rt : FieldType} {rm : Room} {b : Addr} {As rest st : List Value} {ls : Array Slot} {ws ws' wc wc' wr Y : va_W}
theorem r_VIf (C0 : Cx p s m args c A D cI cJ cZ cO cc nL own) (w : Wd s A D (ws ++ Y) H locs) {r : Int32} (hM : ctI l D cI cJ cZ cO y bytes maxL rt rm (.ref b :: As) wc wc' r) (hp : Sp ws wc wr) (hp' : Rp (wr ++ wc') ws') (hl : Cond.methodLink own idx y ∈ gt_tbl) (F : MV y bytes maxL (some rt) n) (hrm : rm.cells = 0 ∧ rm.slots = 0) (hR : rm.frames + 1 ≤ R.frames ∧ 8 + (maxL + 11) + rm.locals ≤ R.locals) (hcs : cells ≤ R.cells ∧ slots ≤ R.slots)
    {q0 ci : Nat} {fs : List Value} {k : vw_C} (he : (ws ++ Y)[q0]? = some (b, .inr (ci, fs))) (hc : vwCl[ci]? = some k) (hk : k.1 = y.cls) (hn : As.length = n) {nl : List (Nat × Value)} (hls : lv_has ls nL nl) (hst : st = As.reverse ++ .ref b :: rest) (hcat : (rest.map fun v => v.category).sum ≤ 8) (hdg : decode cc pc = .ok (.invokevirtual idx, 3))
    (kk : ∀ (H : Heap) (locs : List Loc), Wd s A D (ws' ++ Y) H locs → W p l e R s m args below meth c H locs cells slots Q (F0 m (pc + 3) ls (.int r :: rest))) : W p l e R s m args below meth c H locs cells slots Q (F0 m pc ls st) :=
  r_VI C0 w hM (hp.ext Y) (rp_refl _) hl F hrm hR hcs he hc hk hn hls hst hcat hdg (fun H locs w => kk H locs ((w.perm (pmY wr Y wc')).rp (hp'.ext Y)))
theorem r_VJf (C0 : Cx p s m args c A D cI cJ cZ cO cc nL own) (w : Wd s A D (ws ++ Y) H locs) {r : Int64} (hM : ctJ l D cI cJ cZ cO y bytes maxL rm (.ref b :: As) wc wc' r) (hp : Sp ws wc wr) (hp' : Rp (wr ++ wc') ws') (hl : Cond.methodLink own idx y ∈ gt_tbl) (F : MV y bytes maxL (some .long) n) (hrm : rm.cells = 0 ∧ rm.slots = 0) (hR : rm.frames + 1 ≤ R.frames ∧ 8 + (maxL + 11) + rm.locals ≤ R.locals) (hcs : cells ≤ R.cells ∧ slots ≤ R.slots)
    {q0 ci : Nat} {fs : List Value} {k : vw_C} (he : (ws ++ Y)[q0]? = some (b, .inr (ci, fs))) (hc : vwCl[ci]? = some k) (hk : k.1 = y.cls) (hn : As.length = n) {nl : List (Nat × Value)} (hls : lv_has ls nL nl) (hst : st = As.reverse ++ .ref b :: rest) (hcat : (rest.map fun v => v.category).sum ≤ 8) (hdg : decode cc pc = .ok (.invokevirtual idx, 3))
    (kk : ∀ (H : Heap) (locs : List Loc), Wd s A D (ws' ++ Y) H locs → W p l e R s m args below meth c H locs cells slots Q (F0 m (pc + 3) ls (.long r :: rest))) : W p l e R s m args below meth c H locs cells slots Q (F0 m pc ls st) :=
  r_VJ C0 w hM (hp.ext Y) (rp_refl _) hl F hrm hR hcs he hc hk hn hls hst hcat hdg (fun H locs w => kk H locs ((w.perm (pmY wr Y wc')).rp (hp'.ext Y)))
end LX

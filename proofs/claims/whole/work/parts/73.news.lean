/-! ===== making objects: rows for constructors ===== -/
/-- links among nest mates, and the class of an array of worlds -/
def Nz (U : State) : Prop := va_Nw (.methodLinkNest RX8 18 yX1_init RX9) U ∧ va_Nw (.methodLinkNest RX1 11 yX2_init RX9) U ∧ va_Nw (.methodLinkNest RX1 20 yX4_init RX9) U ∧ va_Nw (.methodLinkNest RX9 30 yX3_init RX9) U ∧ va_AO RX8 U
theorem Nz.warm {s U : State} (hW : s.WarmedH U.vm) (h : Nz s) : Nz U := ⟨va_Nw.warmM hW h.1, va_Nw.warmM hW h.2.1, va_Nw.warmM hW h.2.2.1, va_Nw.warmM hW h.2.2.2.1, va_AO.moved hW.alike h.2.2.2.2⟩
theorem Nz.same {u U : State} (e : u.vm = U.vm) (h : Nz u) : Nz U := ⟨va_Nw.same rfl e h.1, va_Nw.same rfl e h.2.1, va_Nw.same rfl e h.2.2.1, va_Nw.same rfl e h.2.2.2.1, va_AO.moved (by rw [e]; exact Vm.Alike.refl _) h.2.2.2.2⟩
def ctPN (D : va_G) (cI cJ cZ cO : ClassId) (av : List Value) (wc : va_W) (sz : Nat) : Array Value → State → Prop := va_Pc av (fun U => U.heap.size = sz ∧ va_P D vwCl wc U.heap ∧ va_K D vwCl (tysA cI cJ cZ cO) U ∧ va_D (fun _ => True) wc ∧ Nz U)
def ctBN (D : va_G) (wc : va_W) (sz : Nat) : va_W → State → Prop := fun w' t => va_P D vwCl w' t.heap ∧ va_D (va_A wc sz) w'
def ctN (l : Launch) (D : va_G) (cI cJ cZ cO : ClassId) (y : MethodName) (cc : ByteArray) (mL : Nat) (rm : Room) (mc ms : Nat) (av : List Value) (wc : va_W) (Po : va_W → Prop) : Prop :=
  ∀ sz : Nat, Met l y (wsA y cc mL none) rm (ctPN D cI cJ cZ cO av wc sz) (va_Qv Po (ctBN D wc sz) (va_A wc sz)) mc ms (va_A wc sz)
section CN
variable {p : Program} {l : Launch} {e : Env} {R : Room} {s : State} {m : MethodId} {args : Array Value} {below : List Frame} {meth : Method} {c : Code} {H : Heap} {locs : List Loc} {cells slots : Nat} {Q : State → Prop} {A : Nat → Prop} {D : va_G} {cI cJ cZ cO : ClassId}
variable {cc bytes : ByteArray} {nL maxL idx n pc mc ms : Nat} {own C : String} {y : MethodName} {rm : Room} {b : Addr} {As rest st : List Value} {ls : Array Slot} {ws ws' wc wc' wr : va_W} {Po : va_W → Prop} {a : Nat}
def RtN (p : Program) (l : Launch) (e : Env) (R : Room) (s : State) (m : MethodId) (args : Array Value) (below : List Frame) (meth : Method) (c : Code) (Q : State → Prop) (A : Nat → Prop) (D : va_G) (cc : ByteArray) (mc ms : Nat) (Po : va_W → Prop) : Prop :=
  ∀ (pc : Nat) (ls : Array Slot) (H : Heap) (locs : List Loc) (ws : va_W), decode cc pc = .ok (.return_, 1) → Po ws → Wd s A D ws H locs → W p l e R s m args below meth c H locs mc ms Q (F0 m pc ls [])
theorem ctN_of {av : List Value} (hy : plainName y.cls = true) (hyn : y.name = "<init>") (hlen : (lg_sl av).length ≤ maxL)
    (body : ∀ (p : Program) (e : Env) (s : State) (m : MethodId) (below : List Frame) (meth : Method) (c : Code) (Q : State → Prop) (A : Nat → Prop) (ls : Array Slot), Cx p s m av.toArray c A D cI cJ cZ cO cc maxL y.cls → Nz s → meth.name = "<init>" → RtN p l e rm s m av.toArray below meth c Q A D cc mc ms Po → Wd s A D wc s.heap [] → lv_has ls maxL (lv_args 0 av) → W p l e rm s m av.toArray below meth c s.heap [] 0 0 Q (F0 m 0 ls [])) :
    ctN l D cI cJ cZ cO y cc maxL rm mc ms av wc Po := by
  intro sz
  refine Met.ofW (cc := cc) (maxL := maxL) (ret := none) hy rfl ?_
  intro p e s m args below meth c s₁ B hml hv
  obtain ⟨rfl, hsz, hP, hK, hD0, hNz⟩ := hv
  have hts := atoms_spec (ws := wsA y cc maxL none) B.pre
  have hlocks := B.notSynchronized
  have hin : meth.name = "<init>" := ((name_of_methodNamed B.named B.method).1).trans hyn
  subst hsz
  have hl := lv_entry av (n := maxL) hlen
  rw [lg_entry_eq]
  refine body p e s m below meth c _ (va_A wc s.heap.size) _ ⟨B.exec, B.bytes, hml, findClass_of_methodNamed B.named, fun w hw => hts w (List.mem_cons_of_mem _ hw), fun q h => Or.inr h, hK⟩ hNz hin ?_ ⟨hP, hD0.self, va_S.rf⟩ hl
  intro pc ls H locs ws hdg hPo w
  exact W.vret B.exec B.bytes B.returns (fun t ht hW => ⟨⟨ws, rfl, hPo, by rw [ht]; exact w.1, w.2.1⟩, w.2.2.F ht⟩) w.2.2.2.2 hdg
theorem r_new (C0 : Cx p s m args c A D cI cJ cZ cO cc nL own) (w : Wd s A D ws H locs) {ci N : Nat} {Cn : String} {T : u_T} {ty0 : Nat → FieldType} (F : KF ci Cn T N ty0) (hcl : Cond.classLink own idx Cn ∈ gt_tbl) (hinst : Cond.instantiable Cn N ∈ gt_tbl) (hini : Cond.initialized Cn ∈ gt_tbl) {fs : List Value} (hfs : ∀ j, j < N → defaultValue (ty0 j) = vp_V fs j) (hcs : cells + 1 ≤ R.cells ∧ slots + N ≤ R.slots) (hdg : decode cc pc = .ok (.new idx, 3))
    (kk : ∀ (q : Nat) (H : Heap), Wd s A D (ws ++ [(q, .inr (ci, fs))]) H locs → W p l e R s m args below meth c H locs (cells + 1) (slots + N) Q (F0 m (pc + 3) ls (.ref q :: rest))) : W p l e R s m args below meth c H locs cells slots Q (F0 m pc ls rest) := by
  obtain ⟨hx, hb, hml, hown, hts, hA, hK⟩ := id C0
  exact va_new hx hb hts F.2.1 ty0 F.2.2.1 hown (hts _ hcl) (hts _ hinst) (hts _ hini) hK w.1 w.2.1 w.2.2 hA F.1 hfs hcs.1 hcs.2 hdg (fun q H hP hD hS => kk q H ⟨hP, hD, hS⟩)
theorem r_newI (C0 : Cx p s m args c A D cI cJ cZ cO cc nL own) (w : Wd s A D ws H locs) (ha : Cond.arrayClass .int ∈ gt_tbl) {k : Int32} {N : Nat} (hk : ¬ k < 0) (hN : k.toNatClampNeg = N) (hby : N * 4 ≤ 536870912) (hcs : cells + 1 ≤ R.cells ∧ slots + N ≤ R.slots) (hdg : decode cc pc = .ok (.newarray .int, 2))
    (kk : ∀ (q : Nat) (H : Heap), Wd s A D (ws ++ [(q, .inl (cI, N, .inl (fun _ => 0)))]) H locs → W p l e R s m args below meth c H locs (cells + 1) (slots + N) Q (F0 m (pc + 2) ls (.ref q :: rest))) : W p l e R s m args below meth c H locs cells slots Q (F0 m pc ls (.int k :: rest)) := by
  obtain ⟨hx, hb, hml, hown, hts, hA, hK⟩ := id C0
  refine va_newa (atype := .int) (ty := .int) (a0 := (N, .inl (fun _ => 0))) hx hb (hts _ ha) rfl hK w.1 w.2.1 w.2.2 hA (fun _ => rfl) hk hN hby hcs.1 hcs.2 hdg (fun q cA H hK1 hP hD hS => ?_)
  have e : cA = cI := Option.some.inj ((va_nm_int (hK1.2 4 _ rfl).2).symm.trans (va_nm_int (hK.2 0 _ rfl).2))
  subst e
  exact kk q H ⟨hP, hD, hS⟩
theorem r_newJ (C0 : Cx p s m args c A D cI cJ cZ cO cc nL own) (w : Wd s A D ws H locs) (ha : Cond.arrayClass .long ∈ gt_tbl) {k : Int32} {N : Nat} (hk : ¬ k < 0) (hN : k.toNatClampNeg = N) (hby : N * 8 ≤ 536870912) (hcs : cells + 1 ≤ R.cells ∧ slots + N ≤ R.slots) (hdg : decode cc pc = .ok (.newarray .long, 2))
    (kk : ∀ (q : Nat) (H : Heap), Wd s A D (ws ++ [(q, .inl (cJ, N, .inr (.inl (fun _ => 0))))]) H locs → W p l e R s m args below meth c H locs (cells + 1) (slots + N) Q (F0 m (pc + 2) ls (.ref q :: rest))) : W p l e R s m args below meth c H locs cells slots Q (F0 m pc ls (.int k :: rest)) := by
  obtain ⟨hx, hb, hml, hown, hts, hA, hK⟩ := id C0
  refine va_newa (atype := .long) (ty := .long) (a0 := (N, .inr (.inl (fun _ => 0)))) hx hb (hts _ ha) rfl hK w.1 w.2.1 w.2.2 hA (fun _ => rfl) hk hN hby hcs.1 hcs.2 hdg (fun q cA H hK1 hP hD hS => ?_)
  have e : cA = cJ := Option.some.inj ((va_nm_long (hK1.2 4 _ rfl).2).symm.trans (va_nm_long (hK.2 1 _ rfl).2))
  subst e
  exact kk q H ⟨hP, hD, hS⟩
theorem r_newZ (C0 : Cx p s m args c A D cI cJ cZ cO cc nL own) (w : Wd s A D ws H locs) (ha : Cond.arrayClass .boolean ∈ gt_tbl) {k : Int32} {N : Nat} (hk : ¬ k < 0) (hN : k.toNatClampNeg = N) (hby : N * 1 ≤ 536870912) (hcs : cells + 1 ≤ R.cells ∧ slots + N ≤ R.slots) (hdg : decode cc pc = .ok (.newarray .boolean, 2))
    (kk : ∀ (q : Nat) (H : Heap), Wd s A D (ws ++ [(q, .inl (cZ, N, .inl (fun _ => 0)))]) H locs → W p l e R s m args below meth c H locs (cells + 1) (slots + N) Q (F0 m (pc + 2) ls (.ref q :: rest))) : W p l e R s m args below meth c H locs cells slots Q (F0 m pc ls (.int k :: rest)) := by
  obtain ⟨hx, hb, hml, hown, hts, hA, hK⟩ := id C0
  refine va_newa (atype := .boolean) (ty := .boolean) (a0 := (N, .inl (fun _ => 0))) hx hb (hts _ ha) rfl hK w.1 w.2.1 w.2.2 hA (fun _ => rfl) hk hN hby hcs.1 hcs.2 hdg (fun q cA H hK1 hP hD hS => ?_)
  have e : cA = cZ := Option.some.inj ((va_nm_boolean (hK1.2 4 _ rfl).2).symm.trans (va_nm_boolean (hK.2 2 _ rfl).2))
  subst e
  exact kk q H ⟨hP, hD, hS⟩
theorem r_newq (C0 : Cx p s m args c A D cI cJ cZ cO cc nL own) (hz : Nz s) (w : Wd s A D ws H locs) (hcl : Cond.classLink own idx RX8 ∈ gt_tbl) {k : Int32} {N : Nat} (hk : ¬ k < 0) (hN : k.toNatClampNeg = N) (hby : N * 4 ≤ 536870912) (hcs : cells + 1 ≤ R.cells ∧ slots + N ≤ R.slots) (hdg : decode cc pc = .ok (.anewarray idx, 3))
    (kk : ∀ (q : Nat) (H : Heap), Wd s A D (ws ++ [(q, .inl (cO, N, .inr (.inr (.inr (.inr (fun _ => none))))))]) H locs → W p l e R s m args below meth c H locs (cells + 1) (slots + N) Q (F0 m (pc + 3) ls (.ref q :: rest))) : W p l e R s m args below meth c H locs cells slots Q (F0 m pc ls (.int k :: rest)) := by
  obtain ⟨hx, hb, hml, hown, hts, hA, hK⟩ := id C0
  refine va_newq hx hb hown (hts _ hcl) hz.2.2.2.2 hK w.1 w.2.1 w.2.2 hA hk hN hby hcs.1 hcs.2 hdg (fun q cA H hK1 hP hD hS => ?_)
  have e : cA = cO := Option.some.inj ((va_nmO (hK1.2 4 _ rfl).2 rfl).symm.trans (va_nmO (hK.2 3 _ rfl).2 rfl))
  subst e
  exact kk q H ⟨hP, hD, hS⟩
theorem r_putF (C0 : Cx p s m args c A D cI cJ cZ cO cc nL own) (hin : meth.name = "<init>") (w : Wd s A D ws H locs) (q0 : Nat) {ci N : Nat} {Cn : String} {T : u_T} {ty0 : Nat → FieldType} {fs : List Value} (he : ws[q0]? = some (a, .inr (ci, fs))) (F : KF ci Cn T N ty0) (k : Nat) (hk : k < N) (hl : Cond.fieldLink own idx (T k).1 (T k).2.1 (T k).2.2.1 ∈ gt_tbl) {v : Value} (hfin : (T k).2.2.2 = true) (hdecl : (T k).1 = own) (hn : narrow (ty0 k) v = v) (hfit : fits (ty0 k) v = true) (hlt : k < fs.length) (hdg : decode cc pc = .ok (.putfield idx, 3)) {ws' : va_W} (hw : ws.set q0 (a, .inr (ci, fs.set k v)) = ws')
    (kk : ∀ (H : Heap) (locs : List Loc), Wd s A D ws' H locs → W p l e R s m args below meth c H locs cells slots Q (F0 m (pc + 3) ls rest)) : W p l e R s m args below meth c H locs cells slots Q (F0 m pc ls (v :: .ref a :: rest)) := by
  obtain ⟨hx, hb, hml, hown, hts, hA, hK⟩ := id C0
  subst hw
  exact va_putF hx hb hts F.2.1 ty0 F.2.2.1 F.2.2.2 hown hK w.1 w.2.1 w.2.2 q0 he F.1 k hk (hts _ hl) (fun _ h => h) hfin hin hdecl (F.2.2.1 k hk) hn hfit hlt hdg (fun H locs hP hD hS => kk H locs ⟨hP, hD, hS⟩)
theorem r_objInit (C0 : Cx p s m args c A D cI cJ cZ cO cc nL own) {nl : List (Nat × Value)} (hls : lv_has ls nL nl) (hl : Cond.methodLink own idx Lib.objectInit ∈ gt_tbl) (hi : Cond.instanceMethod Lib.objectInit ∈ gt_tbl) (hc : Cond.code Lib.objectInit ⟨#[0xb1]⟩ 1 none ∈ gt_tbl) (hR : 1 ≤ R.frames ∧ 20 ≤ R.locals) (hcat : (rest.map fun v => v.category).sum ≤ 8) (hdg : decode cc pc = .ok (.invokespecial idx, 3))
    (kk : W p l e R s m args below meth c H locs cells slots Q (F0 m (pc + 3) ls rest)) : W p l e R s m args below meth c H locs cells slots Q (F0 m pc ls (.ref a :: rest)) := by
  obtain ⟨hx, hb, hml, hown, hts, hA, hK⟩ := id C0
  exact W.objInit hx hb hown (hts _ hl) (hts _ hi) (hts _ hc) rfl (by rw [hml]; exact hls.1) rfl hdg hR.1 (Nat.le_trans (Nat.add_le_add_right (lv_room (m := m) (pc := pc) (ls := ls) (rest := Value.ref a :: rest) (st := rest) hcat) 12) hR.2) kk
/-- what the tables say of a constructor -/
def MI (y : MethodName) (cc : ByteArray) (mL n : Nat) : Prop := Cond.code y cc mL none ∈ gt_tbl ∧ Cond.initialized y.cls ∈ gt_tbl ∧ Cond.instanceMethod y ∈ gt_tbl ∧ y.name = "<init>" ∧ y.cls ≠ "java/lang/invoke/MethodHandle" ∧ y.cls ≠ "java/lang/invoke/VarHandle" ∧ (parseMethodDescriptor y.desc).map (fun d => d.parameters.length) = some n
theorem ctPN_blind {av : List Value} {sz : Nat} : FrameBlind (ctPN D cI cJ cZ cO av wc sz) := by
  intro a U g mk q
  obtain ⟨q0, q1, qP, qK, qD, qN⟩ := q
  exact ⟨q0, q1, qP, va_K.moved (u := U) (U := U.calling g mk a) (Vm.Alike.refl U.vm) qK, qD, Nz.same rfl qN⟩
theorem cx_preN (C0 : Cx p s m args c A D cI cJ cZ cO cc nL own) (hz : Nz s) (w : Wd s A D ws H locs) (hp : Sp ws wc wr) {av : List Value} : PreS s H (ctPN D cI cJ cZ cO av wc H.size) av := by
  obtain ⟨isC, isR, e1, e2, e0, e3, e4⟩ := hp
  refine ⟨ctPN_blind, fun U hU hW => ⟨rfl, by rw [hU], by rw [hU]; exact va_subP e1 w.1, va_K.moved hW.alike C0.2.2.2.2.2.2, ?_, Nz.warm hW hz⟩⟩
  exact (w.2.1.sub isC e0 e1).weaken (fun _ _ _ _ => trivial)
theorem cx_joinN (hA : ∀ q : Nat, s.heap.size ≤ q → A q) (w : Wd s A D ws H locs) (hp : Sp ws wc wr) {ws1 : va_W} {t : State} {H1 : Heap} {locs1 : List Loc} (ht : t.heap = H1) (hB : ctBN D wc H.size ws1 t) (hk : ∀ q : Nat, q < H.size → ¬ va_A wc H.size q → H1[q]? = H[q]?) (hS : va_S A s.heap H1 locs1) : Wd s A D (wr ++ ws1) H1 locs1 := by
  obtain ⟨isC, isR, e1, e2, e0, e3, e4⟩ := hp
  have hF := va_free (wc := wc) w.2.1 w.2.2 hA isC e1
  have hP1 := hB.1
  rw [ht] at hP1
  obtain ⟨hP, hD⟩ := va_join (wr := wr) (w1 := ws1) w.1 w.2.1 isC isR e1 e2 e3 (fun i hi hc => by
    have := List.all_eq_true.mp e4 i hi
    simp only [Bool.not_eq_true', List.contains_eq_mem, decide_eq_false_iff_not] at this
    exact this hc) hk hF hP1 hB.2
  exact ⟨hP, hD, hS⟩
/-- a constructor is called -/
theorem r_N (C0 : Cx p s m args c A D cI cJ cZ cO cc nL own) (hz : Nz s) (w : Wd s A D ws H locs) (hM : ctN l D cI cJ cZ cO y bytes maxL rm mc ms (.ref b :: As) wc Po) (hp : Sp ws wc wr) (hl : Cond.methodLink own idx y ∈ gt_tbl) (F : MI y bytes maxL n) (hrm : rm.cells = mc ∧ rm.slots = ms) (hR : rm.frames + 1 ≤ R.frames ∧ 8 + (maxL + 11) + rm.locals ≤ R.locals) (hcs : cells + mc ≤ R.cells ∧ slots + ms ≤ R.slots)
    (hn : As.length = n) {nl : List (Nat × Value)} (hls : lv_has ls nL nl) (hst : st = As.reverse ++ .ref b :: rest) (hcat : (rest.map fun v => v.category).sum ≤ 8) (hdg : decode cc pc = .ok (.invokespecial idx, 3))
    (kk : ∀ (ws1 : va_W) (H : Heap) (locs : List Loc), Po ws1 → Wd s A D (wr ++ ws1) H locs → W p l e R s m args below meth c H locs (cells + mc) (slots + ms) Q (F0 m (pc + 3) ls rest)) : W p l e R s m args below meth c H locs cells slots Q (F0 m pc ls st) := by
  obtain ⟨hx, hb, hml, hown, hts, hA, hK⟩ := id C0
  subst hst
  have hf := cx_free hA w hp
  refine va_callv (va_runI (As := As) (rest := rest) ⟨hx, hb, hml, hown, hts⟩ (hM H.size) (cwI n hts (wsA_good F.1) rfl hrm.1 hrm.2 (hts _ F.2.1) (hts _ hl) (hts _ F.2.2.1) F.2.2.2.1 F.2.2.2.2 hR) (cx_preN C0 hz w hp) rfl hn hls.1 rfl (lv_room hcat) hdg hcs) w.2.2 (fun q _ h => hf q h) hf (fun u t H1 locs1 ht hvm hw hB hz1 hk1 hS => ?_)
  exact kk u H1 locs1 hw (cx_joinN hA w hp ht hB hk1 hS)
theorem r_NN (C0 : Cx p s m args c A D cI cJ cZ cO cc nL own) (hz : Nz s) (w : Wd s A D ws H locs) (hM : ctN l D cI cJ cZ cO y bytes maxL rm mc ms (.ref b :: As) wc Po) (hp : Sp ws wc wr) {host : String} (hl : va_Nw (.methodLinkNest own idx y host) s) (F : MI y bytes maxL n) (hrm : rm.cells = mc ∧ rm.slots = ms) (hR : rm.frames + 1 ≤ R.frames ∧ 8 + (maxL + 11) + rm.locals ≤ R.locals) (hcs : cells + mc ≤ R.cells ∧ slots + ms ≤ R.slots)
    (hn : As.length = n) {nl : List (Nat × Value)} (hls : lv_has ls nL nl) (hst : st = As.reverse ++ .ref b :: rest) (hcat : (rest.map fun v => v.category).sum ≤ 8) (hdg : decode cc pc = .ok (.invokespecial idx, 3))
    (kk : ∀ (ws1 : va_W) (H : Heap) (locs : List Loc), Po ws1 → Wd s A D (wr ++ ws1) H locs → W p l e R s m args below meth c H locs (cells + mc) (slots + ms) Q (F0 m (pc + 3) ls rest)) : W p l e R s m args below meth c H locs cells slots Q (F0 m pc ls st) := by
  obtain ⟨hx, hb, hml, hown, hts, hA, hK⟩ := id C0
  subst hst
  have hf := cx_free hA w hp
  refine va_callv (va_runIN (As := As) (rest := rest) ⟨hx, hb, hml, hown, hts⟩ (hM H.size) ⟨va_cnB n hts (wsA_good F.1) rfl hrm.1 hrm.2 hl (hts _ F.2.1) F.2.2.2.2 hR, F.2.2.2.1, hts _ F.2.2.1⟩ (cx_preN C0 hz w hp) rfl hn hls.1 rfl (lv_room hcat) hdg hcs) w.2.2 (fun q _ h => hf q h) hf (fun u t H1 locs1 ht hvm hw hB hz1 hk1 hS => ?_)
  exact kk u H1 locs1 hw (cx_joinN hA w hp ht hB hk1 hS)
end CN

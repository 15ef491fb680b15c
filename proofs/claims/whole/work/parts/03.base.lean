/-! ===== my own layer over the kit's rows: one context, one world, contracts by a pure function ===== -/
abbrev vwCl : List vw_C := [(RX0, TX0, 4), (RX1, TX1, 10), (RX2, TX2, 2), (RX3, TX3, 7), (RX4, TX4, 5), (RX5, TX5, 3), (RX6, TX6, 3), (RX8, TX8, 2), (RX9, TX9, 5), (RX10, TX10, 20)]
def gt_tbl : List Cond := lw_tbl.filter goodWord
theorem gt_good : GoodIn gt_tbl gt_tbl := fun w hw => ⟨hw, good_of_word (List.mem_filter.mp hw).2⟩
theorem gt_of {w : Cond} (h : w ∈ lw_tbl) (hg : goodWord w = true) : w ∈ gt_tbl := List.mem_filter.mpr ⟨h, hg⟩
theorem tb_1 {w : Cond} (h : w ∈ tables_1_1) : w ∈ lw_tbl := List.mem_append_right _ (List.mem_append_left _ h)
theorem tb_2 {w : Cond} (h : w ∈ tables_1_2) : w ∈ lw_tbl := List.mem_append_right _ (List.mem_append_right _ (List.mem_append_left _ h))
theorem tb_3 {w : Cond} (h : w ∈ tables_1_3) : w ∈ lw_tbl := List.mem_append_right _ (List.mem_append_right _ (List.mem_append_right _ (List.mem_append_left _ h)))
theorem tb_4 {w : Cond} (h : w ∈ tables_1_4) : w ∈ lw_tbl := List.mem_append_right _ (List.mem_append_right _ (List.mem_append_right _ (List.mem_append_right _ (List.mem_append_left _ h))))
theorem tb_5 {w : Cond} (h : w ∈ tables_1_5) : w ∈ lw_tbl := List.mem_append_right _ (List.mem_append_right _ (List.mem_append_right _ (List.mem_append_right _ (List.mem_append_right _ h))))
theorem tb_0 {w : Cond} (h : w ∈ k2_sels lw_privs) : w ∈ lw_tbl := List.mem_append_left _ h
/-- the words of every method: its code, and the whole table -/
def wsA (y : MethodName) (cc : ByteArray) (mL : Nat) (rt : Option FieldType) : List Cond := .code y cc mL rt :: gt_tbl
abbrev tysA (cI cJ cZ cO : ClassId) : List (ClassId × FieldType) := [(cI, .int), (cJ, .long), (cZ, .boolean), (cO, .object "TableLearner$World")]
def Cx (p : Program) (s : State) (m : MethodId) (args : Array Value) (c : Code) (A : Nat → Prop) (D : va_G) (cI cJ cZ cO : ClassId) (cc : ByteArray) (nL : Nat) (own : String) : Prop :=
  p.tables.exec = Jvm.exec ∧ c.code = cc ∧ c.maxLocals = nL ∧ s.vm.findClass own = some m.cls ∧ (∀ w ∈ gt_tbl, w.before args s = true) ∧ (∀ q : Nat, s.heap.size ≤ q → A q) ∧ va_K D vwCl (tysA cI cJ cZ cO) s
def Wd (s : State) (A : Nat → Prop) (D : va_G) (ws : va_W) (H : Heap) (locs : List Loc) : Prop := va_P D vwCl ws H ∧ va_D A ws ∧ va_S A s.heap H locs
/-- the callee's start and end -/
def ctP (D : va_G) (cI cJ cZ cO : ClassId) (av : List Value) (wc : va_W) (sz : Nat) : Array Value → State → Prop := va_Pc av (fun U => U.heap.size = sz ∧ va_P D vwCl wc U.heap ∧ va_K D vwCl (tysA cI cJ cZ cO) U ∧ va_D (fun _ => True) wc)
def ctB (D : va_G) (wc wc' : va_W) (sz : Nat) : Unit → State → Prop := fun _ t => va_P D vwCl wc' t.heap ∧ va_D (va_A wc sz) wc'
def ctI (l : Launch) (D : va_G) (cI cJ cZ cO : ClassId) (y : MethodName) (cc : ByteArray) (mL : Nat) (rt : FieldType) (rm : Room) (av : List Value) (wc wc' : va_W) (r : Int32) : Prop :=
  ∀ sz : Nat, Met l y (wsA y cc mL (some rt)) rm (ctP D cI cJ cZ cO av wc sz) (va_Qi (fun r' (_ : Unit) => r' = r) (ctB D wc wc' sz) (va_A wc sz)) 0 0 (va_A wc sz)
def ctJ (l : Launch) (D : va_G) (cI cJ cZ cO : ClassId) (y : MethodName) (cc : ByteArray) (mL : Nat) (rm : Room) (av : List Value) (wc wc' : va_W) (r : Int64) : Prop :=
  ∀ sz : Nat, Met l y (wsA y cc mL (some .long)) rm (ctP D cI cJ cZ cO av wc sz) (va_Ql (fun r' (_ : Unit) => r' = r) (ctB D wc wc' sz) (va_A wc sz)) 0 0 (va_A wc sz)
def ctV (l : Launch) (D : va_G) (cI cJ cZ cO : ClassId) (y : MethodName) (cc : ByteArray) (mL : Nat) (rm : Room) (av : List Value) (wc wc' : va_W) : Prop :=
  ∀ sz : Nat, Met l y (wsA y cc mL none) rm (ctP D cI cJ cZ cO av wc sz) (va_Qv (fun (_ : Unit) => True) (ctB D wc wc' sz) (va_A wc sz)) 0 0 (va_A wc sz)
/-! a world's parts, by their places -/
def Sp (ws wc wr : va_W) : Prop := ∃ isC isR : List Nat, isC.map (fun i => ws[i]?) = wc.map some ∧ isR.map (fun i => ws[i]?) = wr.map some ∧ va_nd isC = true ∧ va_nd isR = true ∧ (isR.all fun i => !(isC.contains i)) = true
def Rp (a b : va_W) : Prop := ∃ is : List Nat, is.map (fun i => a[i]?) = b.map some ∧ va_nd is = true
theorem va_subP {a b : va_W} {D : va_G} {H : Heap} {is : List Nat} (h : is.map (fun i => a[i]?) = b.map some) (hP : va_P D vwCl a H) : va_P D vwCl b H := by
  intro k q hk
  have h1 : (is.map (fun i => a[i]?))[k]? = some (some q) := by rw [h, List.getElem?_map, hk]; rfl
  rw [List.getElem?_map] at h1
  cases hi : is[k]? with
  | none => rw [hi] at h1; cases h1
  | some i => rw [hi] at h1; exact hP i q (Option.some.inj h1)
theorem Wd.rp {s : State} {A : Nat → Prop} {D : va_G} {ws ws' : va_W} {H : Heap} {locs : List Loc} (h : Wd s A D ws H locs) (hp : Rp ws ws') : Wd s A D ws' H locs := by
  obtain ⟨is, h1, h2⟩ := hp
  exact ⟨va_subP h1 h.1, h.2.1.sub is h2 h1, h.2.2⟩
section CT
variable {p : Program} {l : Launch} {e : Env} {R : Room} {s : State} {m : MethodId} {args : Array Value} {below : List Frame} {meth : Method} {c : Code} {H : Heap} {locs : List Loc} {cells slots : Nat} {Q : State → Prop} {A : Nat → Prop} {D : va_G} {cI cJ cZ cO : ClassId}
variable {cc bytes : ByteArray} {nL maxL idx n pc : Nat} {own C : String} {y : MethodName} {rt : FieldType} {rm : Room} {b : Addr} {As rest st : List Value} {ls : Array Slot} {ws ws' wc wc' wr : va_W}
theorem ctP_blind {av : List Value} {sz : Nat} : FrameBlind (ctP D cI cJ cZ cO av wc sz) := by
  intro a U g mk q
  obtain ⟨q0, q1, qP, qK, qD⟩ := q
  exact ⟨q0, q1, qP, va_K.moved (u := U) (U := U.calling g mk a) (Vm.Alike.refl U.vm) qK, qD⟩
/-- what the tables say of a method that is called -/
def MV (y : MethodName) (cc : ByteArray) (mL : Nat) (rt : Option FieldType) (n : Nat) : Prop := Cond.code y cc mL rt ∈ gt_tbl ∧ Cond.initialized y.cls ∈ gt_tbl ∧ Cond.instanceMethod y ∈ gt_tbl ∧ Cond.selects y.cls y y ∈ gt_tbl ∧ y.cls ≠ "java/lang/invoke/MethodHandle" ∧ y.cls ≠ "java/lang/invoke/VarHandle" ∧ (parseMethodDescriptor y.desc).map (fun d => d.parameters.length) = some n
def MS (y : MethodName) (cc : ByteArray) (mL : Nat) (rt : Option FieldType) (n : Nat) : Prop := Cond.code y cc mL rt ∈ gt_tbl ∧ Cond.initialized y.cls ∈ gt_tbl ∧ Cond.static y ∈ gt_tbl ∧ y.cls ≠ "java/lang/invoke/MethodHandle" ∧ y.cls ≠ "java/lang/invoke/VarHandle" ∧ (parseMethodDescriptor y.desc).map (fun d => d.parameters.length) = some n
theorem wsA_good {rt' : Option FieldType} (h : Cond.code y cc nL rt' ∈ gt_tbl) : GoodIn gt_tbl (wsA y cc nL rt') := fun w hw => by
  rcases List.mem_cons.mp hw with rfl | hw
  · exact gt_good _ h
  · exact gt_good _ hw
theorem cx_B {rt' : Option FieldType} (ht : ∀ w ∈ gt_tbl, w.before args s = true) (h1 : Cond.code y bytes maxL rt' ∈ gt_tbl) (h2 : Cond.initialized y.cls ∈ gt_tbl) (hd : y.cls ≠ "java/lang/invoke/MethodHandle" ∧ y.cls ≠ "java/lang/invoke/VarHandle" ∧ (parseMethodDescriptor y.desc).map (fun d => d.parameters.length) = some n) (hl : Cond.methodLink own idx y ∈ gt_tbl) {mc ms : Nat} (hrc : rm.cells = mc) (hrs : rm.slots = ms)
    (hR : rm.frames + 1 ≤ R.frames ∧ 8 + (maxL + 11) + rm.locals ≤ R.locals) : CallB R s args own idx y bytes maxL rt' (wsA y bytes maxL rt') rm mc ms n :=
  callB_of n ht (wsA_good h1) rfl hrc hrs (ht _ h2) (ht _ hl) hd hR
theorem cx_V {rt' : Option FieldType} (ht : ∀ w ∈ gt_tbl, w.before args s = true) (F : MV y bytes maxL rt' n) (hl : Cond.methodLink own idx y ∈ gt_tbl) {mc ms : Nat} (hrc : rm.cells = mc) (hrs : rm.slots = ms)
    (hR : rm.frames + 1 ≤ R.frames ∧ 8 + (maxL + 11) + rm.locals ≤ R.locals) : CallW R s args own y.cls idx y bytes maxL rt' (wsA y bytes maxL rt') rm mc ms n :=
  ⟨cx_B ht F.1 F.2.1 F.2.2.2.2 hl hrc hrs hR, ht _ F.2.2.1, ht _ F.2.2.2.1⟩
theorem cx_S {rt' : Option FieldType} (ht : ∀ w ∈ gt_tbl, w.before args s = true) (F : MS y bytes maxL rt' n) (hl : Cond.methodLink own idx y ∈ gt_tbl) {mc ms : Nat} (hrc : rm.cells = mc) (hrs : rm.slots = ms)
    (hR : rm.frames + 1 ≤ R.frames ∧ 8 + (maxL + 11) + rm.locals ≤ R.locals) : CallB R s args own idx y bytes maxL rt' (wsA y bytes maxL rt') rm mc ms n ∧ (Cond.static y).before args s = true :=
  ⟨cx_B ht F.1 F.2.1 F.2.2.2 hl hrc hrs hR, ht _ F.2.2.1⟩
/-- behind a call: the world again -/
theorem cx_join (hA : ∀ q : Nat, s.heap.size ≤ q → A q) (w : Wd s A D ws H locs) (hp : Sp ws wc wr) (hp' : Rp (wr ++ wc') ws') {t : State} {H1 : Heap} {locs1 : List Loc} (ht : t.heap = H1) (hB : ctB D wc wc' H.size () t) (hk : ∀ q : Nat, q < H.size → ¬ va_A wc H.size q → H1[q]? = H[q]?) (hS : va_S A s.heap H1 locs1) : Wd s A D ws' H1 locs1 := by
  obtain ⟨isC, isR, e1, e2, e0, e3, e4⟩ := hp
  have hF := va_free (wc := wc) w.2.1 w.2.2 hA isC e1
  have hP1 := hB.1
  rw [ht] at hP1
  obtain ⟨hP, hD⟩ := va_join (wr := wr) (w1 := wc') w.1 w.2.1 isC isR e1 e2 e3 (fun i hi hc => by
    have := List.all_eq_true.mp e4 i hi
    simp only [Bool.not_eq_true', List.contains_eq_mem, decide_eq_false_iff_not] at this
    exact this hc) hk hF hP1 hB.2
  exact Wd.rp ⟨hP, hD, hS⟩ hp'
theorem cx_free (hA : ∀ q : Nat, s.heap.size ≤ q → A q) (w : Wd s A D ws H locs) (hp : Sp ws wc wr) : ∀ q, va_A wc H.size q → A q := by
  obtain ⟨isC, isR, e1, -⟩ := hp
  exact va_free (wc := wc) w.2.1 w.2.2 hA isC e1
theorem cx_pre (C0 : Cx p s m args c A D cI cJ cZ cO cc nL own) (w : Wd s A D ws H locs) (hp : Sp ws wc wr) {av : List Value} : PreS s H (ctP D cI cJ cZ cO av wc H.size) av := by
  obtain ⟨isC, isR, e1, e2, e0, e3, e4⟩ := hp
  refine ⟨ctP_blind, fun U hU hW => ⟨rfl, by rw [hU], by rw [hU]; exact va_subP e1 w.1, va_K.moved hW.alike C0.2.2.2.2.2.2, ?_⟩⟩
  exact (w.2.1.sub isC e0 e1).weaken (fun _ _ _ _ => trivial)
theorem cx_preV (C0 : Cx p s m args c A D cI cJ cZ cO cc nL own) (w : Wd s A D ws H locs) (hp : Sp ws wc wr) {q0 ci : Nat} {fs : List Value} {k : vw_C} (hc : vwCl[ci]? = some k) (hk : k.1 = C) (he : ws[q0]? = some (b, .inr (ci, fs))) : PreV s H C b (ctP D cI cJ cZ cO (.ref b :: As) wc H.size) As := by
  have h := cx_pre (av := Value.ref b :: As) C0 w hp
  subst hk
  exact ⟨h.1, va_recv C0.2.2.2.2.2.2 w.1 hc he, h.2⟩
/-- calls: of an instance method, of a static one; int, long, nothing comes back -/
theorem r_VI (C0 : Cx p s m args c A D cI cJ cZ cO cc nL own) (w : Wd s A D ws H locs) {r : Int32} (hM : ctI l D cI cJ cZ cO y bytes maxL rt rm (.ref b :: As) wc wc' r) (hp : Sp ws wc wr) (hp' : Rp (wr ++ wc') ws') (hl : Cond.methodLink own idx y ∈ gt_tbl) (F : MV y bytes maxL (some rt) n) (hrm : rm.cells = 0 ∧ rm.slots = 0) (hR : rm.frames + 1 ≤ R.frames ∧ 8 + (maxL + 11) + rm.locals ≤ R.locals) (hcs : cells ≤ R.cells ∧ slots ≤ R.slots)
    {q0 ci : Nat} {fs : List Value} {k : vw_C} (he : ws[q0]? = some (b, .inr (ci, fs))) (hc : vwCl[ci]? = some k) (hk : k.1 = y.cls) (hn : As.length = n) {nl : List (Nat × Value)} (hls : lv_has ls nL nl) (hst : st = As.reverse ++ .ref b :: rest) (hcat : (rest.map fun v => v.category).sum ≤ 8) (hdg : decode cc pc = .ok (.invokevirtual idx, 3))
    (kk : ∀ (H : Heap) (locs : List Loc), Wd s A D ws' H locs → W p l e R s m args below meth c H locs cells slots Q (F0 m (pc + 3) ls (.int r :: rest))) : W p l e R s m args below meth c H locs cells slots Q (F0 m pc ls st) := by
  obtain ⟨hx, hb, hml, hown, hts, hA, hK⟩ := id C0
  subst hst
  have hf := cx_free hA w hp
  refine va_calli (va_runV (As := As) (rest := rest) ⟨hx, hb, hml, hown, hts⟩ (hM H.size) (cx_V hts F hl hrm.1 hrm.2 hR) (cx_preV C0 w hp hc hk he) rfl hn hls.1 rfl (lv_room hcat) hdg hcs) w.2.2 (fun q _ h => hf q h) hf (fun r1 u t H1 locs1 ht hvm hw hB hz1 hk1 hS => ?_)
  cases hw
  exact kk H1 locs1 (cx_join hA w hp hp' ht hB hk1 hS)
theorem r_VJ (C0 : Cx p s m args c A D cI cJ cZ cO cc nL own) (w : Wd s A D ws H locs) {r : Int64} (hM : ctJ l D cI cJ cZ cO y bytes maxL rm (.ref b :: As) wc wc' r) (hp : Sp ws wc wr) (hp' : Rp (wr ++ wc') ws') (hl : Cond.methodLink own idx y ∈ gt_tbl) (F : MV y bytes maxL (some .long) n) (hrm : rm.cells = 0 ∧ rm.slots = 0) (hR : rm.frames + 1 ≤ R.frames ∧ 8 + (maxL + 11) + rm.locals ≤ R.locals) (hcs : cells ≤ R.cells ∧ slots ≤ R.slots)
    {q0 ci : Nat} {fs : List Value} {k : vw_C} (he : ws[q0]? = some (b, .inr (ci, fs))) (hc : vwCl[ci]? = some k) (hk : k.1 = y.cls) (hn : As.length = n) {nl : List (Nat × Value)} (hls : lv_has ls nL nl) (hst : st = As.reverse ++ .ref b :: rest) (hcat : (rest.map fun v => v.category).sum ≤ 8) (hdg : decode cc pc = .ok (.invokevirtual idx, 3))
    (kk : ∀ (H : Heap) (locs : List Loc), Wd s A D ws' H locs → W p l e R s m args below meth c H locs cells slots Q (F0 m (pc + 3) ls (.long r :: rest))) : W p l e R s m args below meth c H locs cells slots Q (F0 m pc ls st) := by
  obtain ⟨hx, hb, hml, hown, hts, hA, hK⟩ := id C0
  subst hst
  have hf := cx_free hA w hp
  refine va_calll (va_runV (As := As) (rest := rest) ⟨hx, hb, hml, hown, hts⟩ (hM H.size) (cx_V hts F hl hrm.1 hrm.2 hR) (cx_preV C0 w hp hc hk he) rfl hn hls.1 rfl (lv_room hcat) hdg hcs) w.2.2 (fun q _ h => hf q h) hf (fun r1 u t H1 locs1 ht hvm hw hB hz1 hk1 hS => ?_)
  cases hw
  exact kk H1 locs1 (cx_join hA w hp hp' ht hB hk1 hS)
theorem r_VV (C0 : Cx p s m args c A D cI cJ cZ cO cc nL own) (w : Wd s A D ws H locs) (hM : ctV l D cI cJ cZ cO y bytes maxL rm (.ref b :: As) wc wc') (hp : Sp ws wc wr) (hp' : Rp (wr ++ wc') ws') (hl : Cond.methodLink own idx y ∈ gt_tbl) (F : MV y bytes maxL none n) (hrm : rm.cells = 0 ∧ rm.slots = 0) (hR : rm.frames + 1 ≤ R.frames ∧ 8 + (maxL + 11) + rm.locals ≤ R.locals) (hcs : cells ≤ R.cells ∧ slots ≤ R.slots)
    {q0 ci : Nat} {fs : List Value} {k : vw_C} (he : ws[q0]? = some (b, .inr (ci, fs))) (hc : vwCl[ci]? = some k) (hk : k.1 = y.cls) (hn : As.length = n) {nl : List (Nat × Value)} (hls : lv_has ls nL nl) (hst : st = As.reverse ++ .ref b :: rest) (hcat : (rest.map fun v => v.category).sum ≤ 8) (hdg : decode cc pc = .ok (.invokevirtual idx, 3))
    (kk : ∀ (H : Heap) (locs : List Loc), Wd s A D ws' H locs → W p l e R s m args below meth c H locs cells slots Q (F0 m (pc + 3) ls rest)) : W p l e R s m args below meth c H locs cells slots Q (F0 m pc ls st) := by
  obtain ⟨hx, hb, hml, hown, hts, hA, hK⟩ := id C0
  subst hst
  have hf := cx_free hA w hp
  refine va_callv (va_runV (As := As) (rest := rest) ⟨hx, hb, hml, hown, hts⟩ (hM H.size) (cx_V hts F hl hrm.1 hrm.2 hR) (cx_preV C0 w hp hc hk he) rfl hn hls.1 rfl (lv_room hcat) hdg hcs) w.2.2 (fun q _ h => hf q h) hf (fun u t H1 locs1 ht hvm hw hB hz1 hk1 hS => ?_)
  exact kk H1 locs1 (cx_join hA w hp hp' ht hB hk1 hS)
theorem r_SI (C0 : Cx p s m args c A D cI cJ cZ cO cc nL own) (w : Wd s A D ws H locs) {r : Int32} (hM : ctI l D cI cJ cZ cO y bytes maxL rt rm As wc wc' r) (hp : Sp ws wc wr) (hp' : Rp (wr ++ wc') ws') (hl : Cond.methodLink own idx y ∈ gt_tbl) (F : MS y bytes maxL (some rt) n) (hrm : rm.cells = 0 ∧ rm.slots = 0) (hR : rm.frames + 1 ≤ R.frames ∧ 8 + (maxL + 11) + rm.locals ≤ R.locals) (hcs : cells ≤ R.cells ∧ slots ≤ R.slots)
    (hn : As.length = n) {nl : List (Nat × Value)} (hls : lv_has ls nL nl) (hst : st = As.reverse ++ rest) (hcat : (rest.map fun v => v.category).sum ≤ 8) (hdg : decode cc pc = .ok (.invokestatic idx, 3))
    (kk : ∀ (H : Heap) (locs : List Loc), Wd s A D ws' H locs → W p l e R s m args below meth c H locs cells slots Q (F0 m (pc + 3) ls (.int r :: rest))) : W p l e R s m args below meth c H locs cells slots Q (F0 m pc ls st) := by
  obtain ⟨hx, hb, hml, hown, hts, hA, hK⟩ := id C0
  subst hst
  have hf := cx_free hA w hp
  refine va_calli (va_runS (As := As) (rest := rest) ⟨hx, hb, hml, hown, hts⟩ (hM H.size) (cx_S hts F hl hrm.1 hrm.2 hR) (cx_pre C0 w hp) rfl hn hls.1 rfl (lv_room hcat) hdg hcs) w.2.2 (fun q _ h => hf q h) hf (fun r1 u t H1 locs1 ht hvm hw hB hz1 hk1 hS => ?_)
  cases hw
  exact kk H1 locs1 (cx_join hA w hp hp' ht hB hk1 hS)
theorem r_SJ (C0 : Cx p s m args c A D cI cJ cZ cO cc nL own) (w : Wd s A D ws H locs) {r : Int64} (hM : ctJ l D cI cJ cZ cO y bytes maxL rm As wc wc' r) (hp : Sp ws wc wr) (hp' : Rp (wr ++ wc') ws') (hl : Cond.methodLink own idx y ∈ gt_tbl) (F : MS y bytes maxL (some .long) n) (hrm : rm.cells = 0 ∧ rm.slots = 0) (hR : rm.frames + 1 ≤ R.frames ∧ 8 + (maxL + 11) + rm.locals ≤ R.locals) (hcs : cells ≤ R.cells ∧ slots ≤ R.slots)
    (hn : As.length = n) {nl : List (Nat × Value)} (hls : lv_has ls nL nl) (hst : st = As.reverse ++ rest) (hcat : (rest.map fun v => v.category).sum ≤ 8) (hdg : decode cc pc = .ok (.invokestatic idx, 3))
    (kk : ∀ (H : Heap) (locs : List Loc), Wd s A D ws' H locs → W p l e R s m args below meth c H locs cells slots Q (F0 m (pc + 3) ls (.long r :: rest))) : W p l e R s m args below meth c H locs cells slots Q (F0 m pc ls st) := by
  obtain ⟨hx, hb, hml, hown, hts, hA, hK⟩ := id C0
  subst hst
  have hf := cx_free hA w hp
  refine va_calll (va_runS (As := As) (rest := rest) ⟨hx, hb, hml, hown, hts⟩ (hM H.size) (cx_S hts F hl hrm.1 hrm.2 hR) (cx_pre C0 w hp) rfl hn hls.1 rfl (lv_room hcat) hdg hcs) w.2.2 (fun q _ h => hf q h) hf (fun r1 u t H1 locs1 ht hvm hw hB hz1 hk1 hS => ?_)
  cases hw
  exact kk H1 locs1 (cx_join hA w hp hp' ht hB hk1 hS)
theorem r_SV (C0 : Cx p s m args c A D cI cJ cZ cO cc nL own) (w : Wd s A D ws H locs) (hM : ctV l D cI cJ cZ cO y bytes maxL rm As wc wc') (hp : Sp ws wc wr) (hp' : Rp (wr ++ wc') ws') (hl : Cond.methodLink own idx y ∈ gt_tbl) (F : MS y bytes maxL none n) (hrm : rm.cells = 0 ∧ rm.slots = 0) (hR : rm.frames + 1 ≤ R.frames ∧ 8 + (maxL + 11) + rm.locals ≤ R.locals) (hcs : cells ≤ R.cells ∧ slots ≤ R.slots)
    (hn : As.length = n) {nl : List (Nat × Value)} (hls : lv_has ls nL nl) (hst : st = As.reverse ++ rest) (hcat : (rest.map fun v => v.category).sum ≤ 8) (hdg : decode cc pc = .ok (.invokestatic idx, 3))
    (kk : ∀ (H : Heap) (locs : List Loc), Wd s A D ws' H locs → W p l e R s m args below meth c H locs cells slots Q (F0 m (pc + 3) ls rest)) : W p l e R s m args below meth c H locs cells slots Q (F0 m pc ls st) := by
  obtain ⟨hx, hb, hml, hown, hts, hA, hK⟩ := id C0
  subst hst
  have hf := cx_free hA w hp
  refine va_callv (va_runS (As := As) (rest := rest) ⟨hx, hb, hml, hown, hts⟩ (hM H.size) (cx_S hts F hl hrm.1 hrm.2 hR) (cx_pre C0 w hp) rfl hn hls.1 rfl (lv_room hcat) hdg hcs) w.2.2 (fun q _ h => hf q h) hf (fun u t H1 locs1 ht hvm hw hB hz1 hk1 hS => ?_)
  exact kk H1 locs1 (cx_join hA w hp hp' ht hB hk1 hS)
/-! a world's parts by places alone -/
def pk (ws : va_W) (is : List Nat) : va_W := is.filterMap (fun i => ws[i]?)
theorem pk_map {ws : va_W} : ∀ {is : List Nat}, (is.all fun i => decide (i < ws.length)) = true → is.map (fun i => ws[i]?) = (pk ws is).map some
  | [], _ => rfl
  | i :: is, h => by
    simp only [List.all_cons, Bool.and_eq_true, decide_eq_true_eq] at h
    have h1 : ws[i]? = some ws[i] := List.getElem?_eq_getElem h.1
    simp only [List.map_cons, pk, List.filterMap_cons, h1]
    rw [pk_map h.2]
    rfl
theorem sp_of {ws wc : va_W} (isC isR : List Nat) (h1 : isC.map (fun i => ws[i]?) = wc.map some) (h2 : (va_nd isC && va_nd isR && (isR.all fun i => decide (i < ws.length)) && (isR.all fun i => !(isC.contains i))) = true) : Sp ws wc (pk ws isR) := by
  simp only [Bool.and_eq_true] at h2
  exact ⟨isC, isR, h1, pk_map h2.1.2, h2.1.1.1, h2.1.1.2, h2.2⟩
/-- a callee that leaves its cells as they were: the whole world stays -/
theorem rd_of {ws wc : va_W} (isC : List Nat) (h1 : isC.map (fun i => ws[i]?) = wc.map some) (h2 : va_nd isC = true) : ∃ wr, Sp ws wc wr ∧ Rp (wr ++ wc) ws := by
  have hlt : ∀ (k i : Nat), isC[k]? = some i → ∃ q, ws[i]? = some q ∧ wc[k]? = some q := by
    intro k i hi
    have := congrArg (fun l => l[k]?) h1
    simp only [List.getElem?_map, hi, Option.map_some] at this
    cases hw : wc[k]? with
    | none => rw [hw] at this; cases this
    | some q => rw [hw] at this; exact ⟨q, Option.some.inj this, rfl⟩
  have hlen : isC.length = wc.length := by simpa using congrArg List.length h1
  let isR := (List.range ws.length).filter (fun i => !(isC.contains i))
  have hndR : ∀ (l : List Nat), l.Nodup → va_nd l = true := by
    intro l h
    induction l with
    | nil => rfl
    | cons a l ih =>
      rw [List.nodup_cons] at h
      simp [va_nd, h.1, ih h.2]
  have hR1 : (isR.all fun i => decide (i < ws.length)) = true := by
    rw [List.all_eq_true]
    intro i hi
    have := (List.mem_filter.mp hi).1
    simpa using this
  refine ⟨pk ws isR, ⟨isC, isR, h1, pk_map hR1, h2, hndR _ (List.nodup_range.filter _), ?_⟩, ?_⟩
  · rw [List.all_eq_true]
    intro i hi
    exact (List.mem_filter.mp hi).2
  · have hmapR : isR.map (fun i => ws[i]?) = (pk ws isR).map some := pk_map hR1
    have hlenR : isR.length = (pk ws isR).length := by simpa using congrArg List.length hmapR
    have hidx : ∀ i, i < ws.length → i ∈ isR ∨ i ∈ isC := by
      intro i hi
      by_cases h : i ∈ isC
      · exact Or.inr h
      · refine Or.inl (List.mem_filter.mpr ⟨List.mem_range.mpr hi, ?_⟩)
        simp [h]
    refine ⟨(List.range ws.length).map (fun i => (isR ++ isC).idxOf i), ?_, ?_⟩
    · rw [List.map_map]
      apply List.ext_getElem?
      intro i
      rw [List.getElem?_map, List.getElem?_map]
      by_cases hi : i < ws.length
      · rw [List.getElem?_range hi, List.getElem?_eq_getElem hi]
        simp only [Option.map_some, Function.comp]
        congr 1
        have hm : i ∈ isR ++ isC := List.mem_append.mpr (hidx i hi)
        have hlt2 : (isR ++ isC).idxOf i < (isR ++ isC).length := List.idxOf_lt_length_of_mem hm
        have hget : (isR ++ isC)[(isR ++ isC).idxOf i]? = some i := by rw [List.getElem?_eq_getElem hlt2, List.getElem_idxOf hlt2]
        generalize (isR ++ isC).idxOf i = k at hget hlt2 ⊢
        by_cases hk : k < isR.length
        · rw [List.getElem?_append_left hk] at hget
          rw [List.getElem?_append_left (by omega)]
          have := congrArg (fun l => l[k]?) hmapR
          simp only [List.getElem?_map, hget, Option.map_some] at this
          cases hw : (pk ws isR)[k]? with
          | none => rw [hw] at this; cases this
          | some q =>
            rw [hw] at this
            have h3 := Option.some.inj this
            rw [List.getElem?_eq_getElem hi] at h3
            exact h3.symm
        · rw [List.getElem?_append_right (by omega)] at hget
          rw [List.getElem?_append_right (by omega)]
          obtain ⟨q, h3, h4⟩ := hlt _ _ hget
          rw [← hlenR, h4, ← h3, List.getElem?_eq_getElem hi]
      · rw [List.getElem?_eq_none (by simp; omega), List.getElem?_eq_none (by omega)]; rfl
    · apply hndR
      rw [List.nodup_iff_pairwise_ne, List.pairwise_map]
      refine List.nodup_range.imp_of_mem ?_
      intro i j hi hj hne heq
      have mi : i ∈ isR ++ isC := List.mem_append.mpr (hidx i (List.mem_range.mp hi))
      have mj : j ∈ isR ++ isC := List.mem_append.mpr (hidx j (List.mem_range.mp hj))
      have e1 := List.getElem_idxOf (List.idxOf_lt_length_of_mem mi)
      have e2 := List.getElem_idxOf (List.idxOf_lt_length_of_mem mj)
      apply hne
      rw [← e1, ← e2]
      congr 1
/-! a contract out of one walk: the end is a hypothesis of the walk -/
def RtI (p : Program) (l : Launch) (e : Env) (R : Room) (s : State) (m : MethodId) (args : Array Value) (below : List Frame) (meth : Method) (c : Code) (Q : State → Prop) (A : Nat → Prop) (D : va_G) (cc : ByteArray) (rt : FieldType) (ws : va_W) (r : Int32) : Prop :=
  ∀ (pc : Nat) (ls : Array Slot) (H : Heap) (locs : List Loc), decode cc pc = .ok (.ireturn, 1) → narrow rt (.int r) = .int r → Wd s A D ws H locs → W p l e R s m args below meth c H locs 0 0 Q (F0 m pc ls [.int r])
def RtJ (p : Program) (l : Launch) (e : Env) (R : Room) (s : State) (m : MethodId) (args : Array Value) (below : List Frame) (meth : Method) (c : Code) (Q : State → Prop) (A : Nat → Prop) (D : va_G) (cc : ByteArray) (ws : va_W) (r : Int64) : Prop :=
  ∀ (pc : Nat) (ls : Array Slot) (H : Heap) (locs : List Loc), decode cc pc = .ok (.lreturn, 1) → Wd s A D ws H locs → W p l e R s m args below meth c H locs 0 0 Q (F0 m pc ls [.long r])
def RtV (p : Program) (l : Launch) (e : Env) (R : Room) (s : State) (m : MethodId) (args : Array Value) (below : List Frame) (meth : Method) (c : Code) (Q : State → Prop) (A : Nat → Prop) (D : va_G) (cc : ByteArray) (ws : va_W) : Prop :=
  ∀ (pc : Nat) (ls : Array Slot) (H : Heap) (locs : List Loc), decode cc pc = .ok (.return_, 1) → Wd s A D ws H locs → W p l e R s m args below meth c H locs 0 0 Q (F0 m pc ls [])
theorem ctI_of {av : List Value} {r : Int32} (hy : plainName y.cls = true) (hlen : (lg_sl av).length ≤ maxL)
    (body : ∀ (p : Program) (e : Env) (s : State) (m : MethodId) (below : List Frame) (meth : Method) (c : Code) (Q : State → Prop) (A : Nat → Prop) (ls : Array Slot), Cx p s m av.toArray c A D cI cJ cZ cO cc maxL y.cls → RtI p l e rm s m av.toArray below meth c Q A D cc rt wc' r → Wd s A D wc s.heap [] → lv_has ls maxL (lv_args 0 av) → W p l e rm s m av.toArray below meth c s.heap [] 0 0 Q (F0 m 0 ls [])) :
    ctI l D cI cJ cZ cO y cc maxL rt rm av wc wc' r := by
  intro sz
  refine Met.ofW (cc := cc) (maxL := maxL) (ret := some rt) hy rfl ?_
  intro p e s m args below meth c s₁ B hml hv
  obtain ⟨rfl, hsz, hP, hK, hD0⟩ := hv
  have hts := atoms_spec (ws := wsA y cc maxL (some rt)) B.pre
  have hlocks := B.notSynchronized
  subst hsz
  have hl := lv_entry av (n := maxL) hlen
  rw [lg_entry_eq]
  refine body p e s m below meth c _ (va_A wc s.heap.size) _ ⟨B.exec, B.bytes, hml, findClass_of_methodNamed B.named, fun w hw => hts w (List.mem_cons_of_mem _ hw), fun q h => Or.inr h, hK⟩ ?_ ⟨hP, hD0.self, va_S.rf⟩ hl
  intro pc ls H locs hdg hn w
  exact W.zret (v := r) B.exec B.bytes B.returns hn (fun t ht hW => ⟨⟨r, (), rfl, rfl, by rw [ht]; exact w.1, w.2.1⟩, w.2.2.F ht⟩) w.2.2.2.2 hdg
theorem ctJ_of {av : List Value} {r : Int64} (hy : plainName y.cls = true) (hlen : (lg_sl av).length ≤ maxL)
    (body : ∀ (p : Program) (e : Env) (s : State) (m : MethodId) (below : List Frame) (meth : Method) (c : Code) (Q : State → Prop) (A : Nat → Prop) (ls : Array Slot), Cx p s m av.toArray c A D cI cJ cZ cO cc maxL y.cls → RtJ p l e rm s m av.toArray below meth c Q A D cc wc' r → Wd s A D wc s.heap [] → lv_has ls maxL (lv_args 0 av) → W p l e rm s m av.toArray below meth c s.heap [] 0 0 Q (F0 m 0 ls [])) :
    ctJ l D cI cJ cZ cO y cc maxL rm av wc wc' r := by
  intro sz
  refine Met.ofW (cc := cc) (maxL := maxL) (ret := some .long) hy rfl ?_
  intro p e s m args below meth c s₁ B hml hv
  obtain ⟨rfl, hsz, hP, hK, hD0⟩ := hv
  have hts := atoms_spec (ws := wsA y cc maxL (some .long)) B.pre
  have hlocks := B.notSynchronized
  subst hsz
  have hl := lv_entry av (n := maxL) hlen
  rw [lg_entry_eq]
  refine body p e s m below meth c _ (va_A wc s.heap.size) _ ⟨B.exec, B.bytes, hml, findClass_of_methodNamed B.named, fun w hw => hts w (List.mem_cons_of_mem _ hw), fun q h => Or.inr h, hK⟩ ?_ ⟨hP, hD0.self, va_S.rf⟩ hl
  intro pc ls H locs hdg w
  exact W.lret (v := r) B.exec B.bytes B.returns (fun t ht hW => ⟨⟨r, (), rfl, rfl, by rw [ht]; exact w.1, w.2.1⟩, w.2.2.F ht⟩) w.2.2.2.2 hdg
theorem ctV_of {av : List Value} (hy : plainName y.cls = true) (hlen : (lg_sl av).length ≤ maxL)
    (body : ∀ (p : Program) (e : Env) (s : State) (m : MethodId) (below : List Frame) (meth : Method) (c : Code) (Q : State → Prop) (A : Nat → Prop) (ls : Array Slot), Cx p s m av.toArray c A D cI cJ cZ cO cc maxL y.cls → RtV p l e rm s m av.toArray below meth c Q A D cc wc' → Wd s A D wc s.heap [] → lv_has ls maxL (lv_args 0 av) → W p l e rm s m av.toArray below meth c s.heap [] 0 0 Q (F0 m 0 ls [])) :
    ctV l D cI cJ cZ cO y cc maxL rm av wc wc' := by
  intro sz
  refine Met.ofW (cc := cc) (maxL := maxL) (ret := none) hy rfl ?_
  intro p e s m args below meth c s₁ B hml hv
  obtain ⟨rfl, hsz, hP, hK, hD0⟩ := hv
  have hts := atoms_spec (ws := wsA y cc maxL none) B.pre
  have hlocks := B.notSynchronized
  subst hsz
  have hl := lv_entry av (n := maxL) hlen
  rw [lg_entry_eq]
  refine body p e s m below meth c _ (va_A wc s.heap.size) _ ⟨B.exec, B.bytes, hml, findClass_of_methodNamed B.named, fun w hw => hts w (List.mem_cons_of_mem _ hw), fun q h => Or.inr h, hK⟩ ?_ ⟨hP, hD0.self, va_S.rf⟩ hl
  intro pc ls H locs hdg w
  exact W.vret B.exec B.bytes B.returns (fun t ht hW => ⟨⟨(), rfl, trivial, by rw [ht]; exact w.1, w.2.1⟩, w.2.2.F ht⟩) w.2.2.2.2 hdg
end CT

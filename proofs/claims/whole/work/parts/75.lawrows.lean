/-! ===== the law's world, and rows for it ===== -/
theorem va_P_mem {D : va_G} {cl : List vw_C} {ws : va_W} {H : Heap} : va_P D cl ws H ↔ ∀ q ∈ ws, va_at D cl q H := by
  constructor
  · intro h q hq
    obtain ⟨k, hk⟩ := List.mem_iff_getElem?.mp hq
    exact h k q hk
  · intro h k q hk
    exact h q (List.mem_of_getElem? hk)
theorem va_D_mem {A : Nat → Prop} {ws : va_W} : va_D A ws ↔ (ws.map Prod.fst).Nodup ∧ ∀ q ∈ ws, A q.1 := by
  constructor
  · intro h
    refine ⟨List.pairwise_iff_getElem.mpr (fun i j hi hj hij e => ?_), fun q hq => ?_⟩
    · rw [List.length_map] at hi hj
      rw [List.getElem_map, List.getElem_map] at e
      have := h.1 i j _ _ (List.getElem?_eq_getElem hi) (List.getElem?_eq_getElem hj) e
      omega
    · obtain ⟨k, hk⟩ := List.mem_iff_getElem?.mp hq
      exact h.2 k q hk
  · intro h
    refine ⟨fun i j p q hi hj e => ?_, fun k q hk => h.2 q (List.mem_of_getElem? hk)⟩
    obtain ⟨hi1, rfl⟩ := List.getElem?_eq_some_iff.mp hi
    obtain ⟨hj1, rfl⟩ := List.getElem?_eq_some_iff.mp hj
    have hp := List.pairwise_iff_getElem.mp h.1
    rcases Nat.lt_trichotomy i j with z | z | z
    · exact absurd (by rw [List.getElem_map, List.getElem_map]; exact e) (hp i j (by rw [List.length_map]; exact hi1) (by rw [List.length_map]; exact hj1) z)
    · exact z
    · exact absurd (by rw [List.getElem_map, List.getElem_map]; exact e.symm) (hp j i (by rw [List.length_map]; exact hj1) (by rw [List.length_map]; exact hi1) z)
theorem Wd.perm {s : State} {A : Nat → Prop} {D : va_G} {ws ws' : va_W} {H : Heap} {locs : List Loc} (h : Wd s A D ws H locs) (hp : ws.Perm ws') : Wd s A D ws' H locs := by
  refine ⟨va_P_mem.mpr (fun q hq => va_P_mem.mp h.1 q (hp.mem_iff.mpr hq)), va_D_mem.mpr ⟨?_, fun q hq => (va_D_mem.mp h.2.1).2 q (hp.mem_iff.mpr hq)⟩, h.2.2⟩
  exact ((hp.map Prod.fst).nodup_iff).mp (va_D_mem.mp h.2.1).1
theorem nd_va : ∀ {l : List Nat}, l.Nodup → va_nd l = true
  | [], _ => rfl
  | a :: l, h => by
    rw [List.nodup_cons] at h
    simp [va_nd, h.1, nd_va h.2]
theorem va_ndN : ∀ {l : List Nat}, va_nd l = true → l.Nodup
  | [], _ => List.nodup_nil
  | a :: l, h => by
    simp only [va_nd, Bool.and_eq_true, decide_eq_true_eq] at h
    rw [List.nodup_cons]
    exact ⟨h.1, va_ndN h.2⟩
/-- the first cells of a world, and the others -/
theorem sp_app (wc wr : va_W) : Sp (wc ++ wr) wc wr := by
  refine ⟨List.range wc.length, (List.range wr.length).map (fun i => i + wc.length), ?_, ?_, nd_va List.nodup_range, nd_va ?_, ?_⟩
  · apply List.ext_getElem?
    intro i
    rw [List.getElem?_map, List.getElem?_map]
    by_cases h : i < wc.length
    · rw [List.getElem?_range h, Option.map_some, List.getElem?_append_left h, List.getElem?_eq_getElem h, Option.map_some]
    · rw [List.getElem?_eq_none (by rw [List.length_range]; omega), List.getElem?_eq_none (by omega)]; rfl
  · apply List.ext_getElem?
    intro i
    rw [List.getElem?_map, List.getElem?_map, List.getElem?_map]
    by_cases h : i < wr.length
    · rw [List.getElem?_range h, Option.map_some, Option.map_some, List.getElem?_append_right (by omega), show i + wc.length - wc.length = i by omega, List.getElem?_eq_getElem h, Option.map_some]
    · rw [List.getElem?_eq_none (by rw [List.length_range]; omega), List.getElem?_eq_none (by omega)]; rfl
  · rw [List.nodup_iff_pairwise_ne, List.pairwise_map]
    exact List.nodup_range.imp (fun h e => h (by omega))
  · rw [List.all_eq_true]
    intro i hi
    obtain ⟨j, hj, rfl⟩ := List.mem_map.mp hi
    simp
/-- cells set at places -/
def setA : va_W → List Nat → va_W → va_W
  | ws, i :: is, x :: xs => setA (ws.set i x) is xs
  | ws, _, _ => ws
theorem setA_len : ∀ (is : List Nat) (xs ws : va_W), (setA ws is xs).length = ws.length
  | [], _, _ => by simp [setA]
  | i :: is, [], _ => by simp [setA]
  | i :: is, x :: xs, ws => by rw [setA, setA_len is xs, List.length_set]
theorem setA_out : ∀ (is : List Nat) (xs ws : va_W) {j : Nat}, j ∉ is → (setA ws is xs)[j]? = ws[j]?
  | [], _, _, _, _ => by simp [setA]
  | i :: is, [], _, _, _ => by simp [setA]
  | i :: is, x :: xs, ws, j, h => by
    rw [List.mem_cons, not_or] at h
    rw [setA, setA_out is xs _ h.2, List.getElem?_set_ne (fun e => h.1 e.symm)]
theorem setA_in : ∀ (is : List Nat) (xs ws : va_W) {k i : Nat}, is.Nodup → (∀ i ∈ is, i < ws.length) → is.length = xs.length → is[k]? = some i → (setA ws is xs)[i]? = xs[k]?
  | [], _, _, k, i, _, _, _, h => by simp at h
  | j :: is, [], _, k, i, _, _, hl, _ => by simp at hl
  | j :: is, x :: xs, ws, 0, i, hn, hb, hl, h => by
    rw [List.getElem?_cons_zero] at h
    have e : j = i := Option.some.inj h
    subst e
    rw [setA, setA_out is xs _ (List.nodup_cons.mp hn).1, List.getElem?_set_self (hb j List.mem_cons_self), List.getElem?_cons_zero]
  | j :: is, x :: xs, ws, k + 1, i, hn, hb, hl, h => by
    rw [List.getElem?_cons_succ] at h
    rw [setA, setA_in is xs _ (List.nodup_cons.mp hn).2 (fun i hi => by rw [List.length_set]; exact hb i (List.mem_cons_of_mem _ hi)) (by simpa using hl) h, List.getElem?_cons_succ]
/-- a callee's cells, by their places; behind it they are set there -/
theorem sp_set {ws wc : va_W} (isC : List Nat) (h1 : isC.map (fun i => ws[i]?) = wc.map some) (h2 : va_nd isC = true) : ∃ wr, Sp ws wc wr ∧ ∀ wc' : va_W, wc'.length = wc.length → Rp (wr ++ wc') (setA ws isC wc') := by
  have hlen : isC.length = wc.length := by simpa using congrArg List.length h1
  have hlt : ∀ i ∈ isC, i < ws.length := by
    intro i hi
    obtain ⟨k, hk⟩ := List.mem_iff_getElem?.mp hi
    have := congrArg (fun l => l[k]?) h1
    simp only [List.getElem?_map, hk, Option.map_some] at this
    cases hw : wc[k]? with
    | none => rw [hw] at this; cases this
    | some q => rw [hw] at this; exact (List.getElem?_eq_some_iff.mp (Option.some.inj this)).1
  have hnd := va_ndN h2
  let isR := (List.range ws.length).filter (fun i => !(isC.contains i))
  have hR1 : (isR.all fun i => decide (i < ws.length)) = true := by
    rw [List.all_eq_true]
    intro i hi
    have := (List.mem_filter.mp hi).1
    simpa using this
  have hmapR : isR.map (fun i => ws[i]?) = (pk ws isR).map some := pk_map hR1
  have hlenR : isR.length = (pk ws isR).length := by simpa using congrArg List.length hmapR
  refine ⟨pk ws isR, ⟨isC, isR, h1, hmapR, h2, nd_va (List.nodup_range.filter _), ?_⟩, fun wc' hwc => ?_⟩
  · rw [List.all_eq_true]
    intro i hi
    exact (List.mem_filter.mp hi).2
  · have hidx : ∀ i, i < ws.length → i ∈ isR ∨ i ∈ isC := by
      intro i hi
      by_cases h : i ∈ isC
      · exact Or.inr h
      · refine Or.inl (List.mem_filter.mpr ⟨List.mem_range.mpr hi, ?_⟩)
        simp [h]
    have hnotR : ∀ i ∈ isR, i ∉ isC := by
      intro i hi
      have := (List.mem_filter.mp hi).2
      simpa using this
    refine ⟨(List.range ws.length).map (fun i => (isR ++ isC).idxOf i), ?_, ?_⟩
    · rw [List.map_map]
      apply List.ext_getElem?
      intro i
      rw [List.getElem?_map, List.getElem?_map]
      by_cases hi : i < ws.length
      · have hi' : i < (setA ws isC wc').length := by rw [setA_len]; exact hi
        rw [List.getElem?_range hi]
        simp only [Option.map_some, Function.comp]
        have hm : i ∈ isR ++ isC := List.mem_append.mpr (hidx i hi)
        have hlt2 : (isR ++ isC).idxOf i < (isR ++ isC).length := List.idxOf_lt_length_of_mem hm
        have hget : (isR ++ isC)[(isR ++ isC).idxOf i]? = some i := by rw [List.getElem?_eq_getElem hlt2, List.getElem_idxOf hlt2]
        generalize (isR ++ isC).idxOf i = k at hget hlt2 ⊢
        have hval : (pk ws isR ++ wc')[k]? = (setA ws isC wc')[i]? := by
          by_cases hk : k < isR.length
          · rw [List.getElem?_append_left hk] at hget
            rw [List.getElem?_append_left (by omega), setA_out isC wc' ws (hnotR i (List.mem_of_getElem? hget))]
            have := congrArg (fun l => l[k]?) hmapR
            simp only [List.getElem?_map, hget, Option.map_some] at this
            cases hw : (pk ws isR)[k]? with
            | none => rw [hw] at this; cases this
            | some q => rw [hw] at this; exact (Option.some.inj this).symm
          · rw [List.getElem?_append_right (by omega)] at hget
            rw [List.getElem?_append_right (by omega), setA_in isC wc' ws hnd hlt (by omega) hget, hlenR]
        rw [hval, List.getElem?_eq_getElem hi']
        rfl
      · rw [List.getElem?_eq_none (by rw [List.length_range]; omega), List.getElem?_eq_none (by rw [setA_len]; omega)]; rfl
    · apply nd_va
      rw [List.nodup_iff_pairwise_ne, List.pairwise_map]
      refine List.nodup_range.imp_of_mem ?_
      intro i j hi hj hne heq
      have mi : i ∈ isR ++ isC := List.mem_append.mpr (hidx i (List.mem_range.mp hi))
      have mj : j ∈ isR ++ isC := List.mem_append.mpr (hidx j (List.mem_range.mp hj))
      have e1 := List.getElem_idxOf (List.idxOf_lt_length_of_mem mi)
      have e2 := List.getElem_idxOf (List.idxOf_lt_length_of_mem mj)
      apply hne
      rw [← e1, ← e2]
      congr 1
section LR
variable {p : Program} {l : Launch} {e : Env} {R : Room} {s : State} {m : MethodId} {args : Array Value} {below : List Frame} {meth : Method} {c : Code} {H : Heap} {locs : List Loc} {cells slots : Nat} {Q : State → Prop} {A : Nat → Prop} {D : va_G} {cI cJ cZ cO : ClassId}
variable {cc bytes : ByteArray} {nL maxL idx n pc mc ms : Nat} {own C : String} {y : MethodName} {rt : FieldType} {rm : Room} {b : Addr} {As rest st : List Value} {ls : Array Slot} {ws ws' wc wc' wr : va_W} {a : Nat}
theorem r_aldq (C0 : Cx p s m args c A D cI cJ cZ cO cc nL own) (w : Wd s A D ws H locs) (q0 : Nat) {n : Nat} {f : Nat → Option Nat} (ha : ws[q0]? = some (a, .inl (cO, n, .inr (.inr (.inr (.inr f)))))) {i : Int32} {k : Nat} (hk : i.toNatClampNeg = k) (hin : vp_in i n) {v : Value} (hv : va_rf (f k) = v) (hdg : decode cc pc = .ok (.aaload, 1))
    (kk : W p l e R s m args below meth c H locs cells slots Q (F0 m (pc + 1) ls (v :: rest))) : W p l e R s m args below meth c H locs cells slots Q (F0 m pc ls (.int i :: .ref a :: rest)) := by
  obtain ⟨hx, hb, hml, hown, hts, hA, hK⟩ := id C0
  subst hk; subst hv
  exact va_aldq hx hb hK w.1 q0 3 ha rfl hin hdg kk
theorem r_astq (C0 : Cx p s m args c A D cI cJ cZ cO cc nL own) (w : Wd s A D ws H locs) (q0 qk : Nat) {n v : Nat} {f : Nat → Option Nat} {vs : List Value} (ha : ws[q0]? = some (a, .inl (cO, n, .inr (.inr (.inr (.inr f)))))) (hv : ws[qk]? = some (v, .inr (7, vs))) {i : Int32} {k : Nat} (hk : i.toNatClampNeg = k) (hin : vp_in i n) (hdg : decode cc pc = .ok (.aastore, 1)) {ws' : va_W} (hw : ws.set q0 (a, .inl (cO, n, .inr (.inr (.inr (.inr (va_up f k (some v))))))) = ws')
    (kk : ∀ (H : Heap) (locs : List Loc), Wd s A D ws' H locs → W p l e R s m args below meth c H locs cells slots Q (F0 m (pc + 1) ls rest)) : W p l e R s m args below meth c H locs cells slots Q (F0 m pc ls (.ref v :: .int i :: .ref a :: rest)) := by
  obtain ⟨hx, hb, hml, hown, hts, hA, hK⟩ := id C0
  subst hk; subst hw
  exact va_astq hx hb hK w.1 w.2.1 w.2.2 q0 3 qk 7 ha rfl hv rfl hin hdg (fun H locs hP hD hS => kk H locs ⟨hP, hD, hS⟩)
/-- an int comes back, and cells may be new -/
def ctIN (l : Launch) (D : va_G) (cI cJ cZ cO : ClassId) (y : MethodName) (cc : ByteArray) (mL : Nat) (rm : Room) (mc ms : Nat) (av : List Value) (wc : va_W) (Po : Int32 → va_W → Prop) : Prop :=
  ∀ sz : Nat, Met l y (wsA y cc mL (some .int)) rm (ctPN D cI cJ cZ cO av wc sz) (va_Qi Po (ctBN D wc sz) (va_A wc sz)) mc ms (va_A wc sz)
def RtIN (p : Program) (l : Launch) (e : Env) (R : Room) (s : State) (m : MethodId) (args : Array Value) (below : List Frame) (meth : Method) (c : Code) (Q : State → Prop) (A : Nat → Prop) (D : va_G) (cc : ByteArray) (mc ms : Nat) (Po : Int32 → va_W → Prop) : Prop :=
  ∀ (pc : Nat) (ls : Array Slot) (H : Heap) (locs : List Loc) (ws : va_W) (r : Int32), decode cc pc = .ok (.ireturn, 1) → Po r ws → Wd s A D ws H locs → W p l e R s m args below meth c H locs mc ms Q (F0 m pc ls [.int r])
theorem ctIN_of {av : List Value} {Po : Int32 → va_W → Prop} (hy : plainName y.cls = true) (hlen : (lg_sl av).length ≤ maxL)
    (body : ∀ (p : Program) (e : Env) (s : State) (m : MethodId) (below : List Frame) (meth : Method) (c : Code) (Q : State → Prop) (A : Nat → Prop) (ls : Array Slot), Cx p s m av.toArray c A D cI cJ cZ cO cc maxL y.cls → Nz s → RtIN p l e rm s m av.toArray below meth c Q A D cc mc ms Po → Wd s A D wc s.heap [] → lv_has ls maxL (lv_args 0 av) → W p l e rm s m av.toArray below meth c s.heap [] 0 0 Q (F0 m 0 ls [])) :
    ctIN l D cI cJ cZ cO y cc maxL rm mc ms av wc Po := by
  intro sz
  refine Met.ofW (cc := cc) (maxL := maxL) (ret := some .int) hy rfl ?_
  intro p e s m args below meth c s₁ B hml hv
  obtain ⟨rfl, hsz, hP, hK, hD0, hNz⟩ := hv
  have hts := atoms_spec (ws := wsA y cc maxL (some .int)) B.pre
  have hlocks := B.notSynchronized
  subst hsz
  have hl := lv_entry av (n := maxL) hlen
  rw [lg_entry_eq]
  refine body p e s m below meth c _ (va_A wc s.heap.size) _ ⟨B.exec, B.bytes, hml, findClass_of_methodNamed B.named, fun w hw => hts w (List.mem_cons_of_mem _ hw), fun q h => Or.inr h, hK⟩ hNz ?_ ⟨hP, hD0.self, va_S.rf⟩ hl
  intro pc ls H locs ws r hdg hPo w
  exact W.zret (v := r) B.exec B.bytes B.returns rfl (fun t ht hW => ⟨⟨r, ws, rfl, hPo, by rw [ht]; exact w.1, w.2.1⟩, w.2.2.F ht⟩) w.2.2.2.2 hdg
theorem cx_preVN (C0 : Cx p s m args c A D cI cJ cZ cO cc nL own) (hz : Nz s) (w : Wd s A D ws H locs) (hp : Sp ws wc wr) {q0 ci : Nat} {fs : List Value} {k : vw_C} (hc : vwCl[ci]? = some k) (hk : k.1 = C) (he : ws[q0]? = some (b, .inr (ci, fs))) : PreV s H C b (ctPN D cI cJ cZ cO (.ref b :: As) wc H.size) As := by
  have h := cx_preN (av := Value.ref b :: As) C0 hz w hp
  subst hk
  exact ⟨h.1, va_recv C0.2.2.2.2.2.2 w.1 hc he, h.2⟩
theorem r_VIN (C0 : Cx p s m args c A D cI cJ cZ cO cc nL own) (hz : Nz s) (w : Wd s A D ws H locs) {Po : Int32 → va_W → Prop} (hM : ctIN l D cI cJ cZ cO y bytes maxL rm mc ms (.ref b :: As) wc Po) (hp : Sp ws wc wr) (hl : Cond.methodLink own idx y ∈ gt_tbl) (F : MV y bytes maxL (some .int) n) (hrm : rm.cells = mc ∧ rm.slots = ms) (hR : rm.frames + 1 ≤ R.frames ∧ 8 + (maxL + 11) + rm.locals ≤ R.locals) (hcs : cells + mc ≤ R.cells ∧ slots + ms ≤ R.slots)
    {q0 ci : Nat} {fs : List Value} {k : vw_C} (he : ws[q0]? = some (b, .inr (ci, fs))) (hc : vwCl[ci]? = some k) (hk : k.1 = y.cls) (hn : As.length = n) {nl : List (Nat × Value)} (hls : lv_has ls nL nl) (hst : st = As.reverse ++ .ref b :: rest) (hcat : (rest.map fun v => v.category).sum ≤ 8) (hdg : decode cc pc = .ok (.invokevirtual idx, 3))
    (kk : ∀ (r : Int32) (ws1 : va_W) (H : Heap) (locs : List Loc), Po r ws1 → Wd s A D (wr ++ ws1) H locs → W p l e R s m args below meth c H locs (cells + mc) (slots + ms) Q (F0 m (pc + 3) ls (.int r :: rest))) : W p l e R s m args below meth c H locs cells slots Q (F0 m pc ls st) := by
  obtain ⟨hx, hb, hml, hown, hts, hA, hK⟩ := id C0
  subst hst
  have hf := cx_free hA w hp
  refine va_calli (va_runV (As := As) (rest := rest) ⟨hx, hb, hml, hown, hts⟩ (hM H.size) (cx_V hts F hl hrm.1 hrm.2 hR) (cx_preVN C0 hz w hp hc hk he) rfl hn hls.1 rfl (lv_room hcat) hdg hcs) w.2.2 (fun q _ h => hf q h) hf (fun r1 u t H1 locs1 ht hvm hw hB hz1 hk1 hS => ?_)
  exact kk r1 u H1 locs1 hw (cx_joinN hA w hp ht hB hk1 hS)
/-- calls out of a world whose end isn't spelled: cells by their places -/
theorem r_VIs (C0 : Cx p s m args c A D cI cJ cZ cO cc nL own) (w : Wd s A D ws H locs) {r : Int32} (hM : ctI l D cI cJ cZ cO y bytes maxL rt rm (.ref b :: As) wc wc' r) (isC : List Nat) (h1 : isC.map (fun i => ws[i]?) = wc.map some) (h2 : va_nd isC = true) (h3 : wc'.length = wc.length) (hw : setA ws isC wc' = ws') (hl : Cond.methodLink own idx y ∈ gt_tbl) (F : MV y bytes maxL (some rt) n) (hrm : rm.cells = 0 ∧ rm.slots = 0) (hR : rm.frames + 1 ≤ R.frames ∧ 8 + (maxL + 11) + rm.locals ≤ R.locals) (hcs : cells ≤ R.cells ∧ slots ≤ R.slots)
    {q0 ci : Nat} {fs : List Value} {k : vw_C} (he : ws[q0]? = some (b, .inr (ci, fs))) (hc : vwCl[ci]? = some k) (hk : k.1 = y.cls) (hn : As.length = n) {nl : List (Nat × Value)} (hls : lv_has ls nL nl) (hst : st = As.reverse ++ .ref b :: rest) (hcat : (rest.map fun v => v.category).sum ≤ 8) (hdg : decode cc pc = .ok (.invokevirtual idx, 3))
    (kk : ∀ (H : Heap) (locs : List Loc), Wd s A D ws' H locs → W p l e R s m args below meth c H locs cells slots Q (F0 m (pc + 3) ls (.int r :: rest))) : W p l e R s m args below meth c H locs cells slots Q (F0 m pc ls st) := by
  obtain ⟨wr, hp, hp'⟩ := sp_set isC h1 h2
  subst hw
  exact r_VI C0 w hM hp (hp' wc' h3) hl F hrm hR hcs he hc hk hn hls hst hcat hdg kk
theorem r_VJs (C0 : Cx p s m args c A D cI cJ cZ cO cc nL own) (w : Wd s A D ws H locs) {r : Int64} (hM : ctJ l D cI cJ cZ cO y bytes maxL rm (.ref b :: As) wc wc' r) (isC : List Nat) (h1 : isC.map (fun i => ws[i]?) = wc.map some) (h2 : va_nd isC = true) (h3 : wc'.length = wc.length) (hw : setA ws isC wc' = ws') (hl : Cond.methodLink own idx y ∈ gt_tbl) (F : MV y bytes maxL (some .long) n) (hrm : rm.cells = 0 ∧ rm.slots = 0) (hR : rm.frames + 1 ≤ R.frames ∧ 8 + (maxL + 11) + rm.locals ≤ R.locals) (hcs : cells ≤ R.cells ∧ slots ≤ R.slots)
    {q0 ci : Nat} {fs : List Value} {k : vw_C} (he : ws[q0]? = some (b, .inr (ci, fs))) (hc : vwCl[ci]? = some k) (hk : k.1 = y.cls) (hn : As.length = n) {nl : List (Nat × Value)} (hls : lv_has ls nL nl) (hst : st = As.reverse ++ .ref b :: rest) (hcat : (rest.map fun v => v.category).sum ≤ 8) (hdg : decode cc pc = .ok (.invokevirtual idx, 3))
    (kk : ∀ (H : Heap) (locs : List Loc), Wd s A D ws' H locs → W p l e R s m args below meth c H locs cells slots Q (F0 m (pc + 3) ls (.long r :: rest))) : W p l e R s m args below meth c H locs cells slots Q (F0 m pc ls st) := by
  obtain ⟨wr, hp, hp'⟩ := sp_set isC h1 h2
  subst hw
  exact r_VJ C0 w hM hp (hp' wc' h3) hl F hrm hR hcs he hc hk hn hls hst hcat hdg kk
end LR
abbrev wWo (cI cJ : ClassId) (a : Nat → Nat) (tS : Int32) (tL : Int32) (tM : Nat → Int32) (tF : Nat → Int32) (lc : Int32) (lv : Nat → Int64) (mode : Int32) (budget : Int32) (formed : Int32) (ce : Int64) (corr : Int32) (dec : Int32) (qn : Int32) (E : Nat → Int64) (tl : Int32) (pn : Int32) (pl : Int32) (pv : Nat → Int64) (sn : Int32) (sl : Int32) (sv : Nat → Int64) (kn : Nat → Int32) (bi : Nat → Int32) (hs : Int32) (hl : Int32) (hm : Nat → Int32) (hf : Nat → Int32) (rep : Nat → Int32) : va_W := [((a 0), .inr (7, [.ref (a 1), .ref (a 6)])), ((a 1), .inr (5, [.ref (a 2), .ref (a 5), .int lc])), ((a 2), .inr (0, [.ref (a 3), .ref (a 4), .int tS, .int tL])), ((a 3), .inl (cI, 24, .inl tM)), ((a 4), .inl (cI, 8, .inl tF)), ((a 5), .inl (cJ, 4, .inr (.inl lv))), ((a 6), .inr (1, [.ref (a 7), .ref (a 9), .ref (a 16), .ref (a 19), .int mode, .int budget, .int formed, .long ce, .int corr, .int dec])), ((a 7), .inr (2, [.ref (a 8), .int qn])), ((a 8), .inl (cJ, 300, .inr (.inl E))), ((a 9), .inr (4, [.ref (a 10), .ref (a 12), .ref (a 14), .ref (a 15), .int tl])), ((a 10), .inr (6, [.ref (a 11), .int pn, .int pl])), ((a 11), .inl (cJ, 40, .inr (.inl pv))), ((a 12), .inr (6, [.ref (a 13), .int sn, .int sl])), ((a 13), .inl (cJ, 16, .inr (.inl sv))), ((a 14), .inl (cI, 160, .inl kn)), ((a 15), .inl (cI, 160, .inl bi)), ((a 16), .inr (0, [.ref (a 17), .ref (a 18), .int hs, .int hl])), ((a 17), .inl (cI, 120, .inl hm)), ((a 18), .inl (cI, 40, .inl hf)), ((a 19), .inl (cI, 40, .inl rep))]
abbrev wT (cI cJ cO : ClassId) (a : Nat → Nat) (f : Nat → Option Nat) (tS : Int32) (tL : Int32) (tM : Nat → Int32) (tF : Nat → Int32) (lc : Int32) (lv : Nat → Int64) (mode : Int32) (budget : Int32) (formed : Int32) (ce : Int64) (corr : Int32) (dec : Int32) (qn : Int32) (E : Nat → Int64) (tl : Int32) (pn : Int32) (pl : Int32) (pv : Nat → Int64) (sn : Int32) (sl : Int32) (sv : Nat → Int64) (kn : Nat → Int32) (bi : Nat → Int32) (hs : Int32) (hl : Int32) (hm : Nat → Int32) (hf : Nat → Int32) (rep : Nat → Int32) (tn : Int32) (tx : Nat → Int32) (len : Int32) (qd : Int32) (se : Nat → Int32) (qu : Nat → Int32) (og : Nat → Int32) (ar : Nat → Int32) (lt : Nat → Int32) : va_W := [((a 0), .inr (8, [.ref (a 1), .ref (a 21), .ref (a 22), .int tn, .ref (a 23)])), ((a 1), .inr (7, [.ref (a 2), .ref (a 7)])), ((a 2), .inr (5, [.ref (a 3), .ref (a 6), .int lc])), ((a 3), .inr (0, [.ref (a 4), .ref (a 5), .int tS, .int tL])), ((a 4), .inl (cI, 24, .inl tM)), ((a 5), .inl (cI, 8, .inl tF)), ((a 6), .inl (cJ, 4, .inr (.inl lv))), ((a 7), .inr (1, [.ref (a 8), .ref (a 10), .ref (a 17), .ref (a 20), .int mode, .int budget, .int formed, .long ce, .int corr, .int dec])), ((a 8), .inr (2, [.ref (a 9), .int qn])), ((a 9), .inl (cJ, 300, .inr (.inl E))), ((a 10), .inr (4, [.ref (a 11), .ref (a 13), .ref (a 15), .ref (a 16), .int tl])), ((a 11), .inr (6, [.ref (a 12), .int pn, .int pl])), ((a 12), .inl (cJ, 40, .inr (.inl pv))), ((a 13), .inr (6, [.ref (a 14), .int sn, .int sl])), ((a 14), .inl (cJ, 16, .inr (.inl sv))), ((a 15), .inl (cI, 160, .inl kn)), ((a 16), .inl (cI, 160, .inl bi)), ((a 17), .inr (0, [.ref (a 18), .ref (a 19), .int hs, .int hl])), ((a 18), .inl (cI, 120, .inl hm)), ((a 19), .inl (cI, 40, .inl hf)), ((a 20), .inl (cI, 40, .inl rep)), ((a 21), .inl (cO, 2, .inr (.inr (.inr (.inr f))))), ((a 22), .inl (cI, 16, .inl tx)), ((a 23), .inr (3, [.ref (a 24), .ref (a 25), .ref (a 26), .ref (a 27), .ref (a 28), .int len, .int qd])), ((a 24), .inl (cI, 320, .inl se)), ((a 25), .inl (cI, 320, .inl qu)), ((a 26), .inl (cI, 320, .inl og)), ((a 27), .inl (cI, 320, .inl ar)), ((a 28), .inl (cI, 320, .inl lt))]
abbrev wM (cI cJ cZ : ClassId) (b : Nat → Nat) (tn2 : Int32) (st : Int32) (mi : Int64) (mos : Int32) (hash : Int64) (m : Nat → Int32) (sa : Nat → Int32) (w : Nat → Int64) (sw : Nat → Int64) (iS : Nat → Int32) (tx2 : Nat → Int32) (far : Nat → Int32) (q2 : Nat → Int32) (p2 : Nat → Int32) (b2 : Nat → Int32) (s2 : Nat → Int32) (pa : Nat → Int32) (row : Nat → Int32) (mo2 : Nat → Int64) (so : Nat → Int32) : va_W := [((b 0), .inr (9, [.ref (b 1), .ref (b 2), .ref (b 3), .ref (b 4), .ref (b 5), .ref (b 6), .int tn2, .ref (b 7), .ref (b 8), .ref (b 9), .ref (b 10), .ref (b 11), .ref (b 12), .int st, .ref (b 13), .long mi, .ref (b 14), .int mos, .ref (b 15), .long hash])), ((b 1), .inl (cI, 561, .inl m)), ((b 2), .inl (cI, 1122, .inl sa)), ((b 3), .inl (cJ, 360, .inr (.inl w))), ((b 4), .inl (cJ, 720, .inr (.inl sw))), ((b 5), .inl (cZ, 2, .inl iS)), ((b 6), .inl (cI, 16, .inl tx2)), ((b 7), .inl (cI, 8, .inl far)), ((b 8), .inl (cI, 320, .inl q2)), ((b 9), .inl (cI, 320, .inl p2)), ((b 10), .inl (cI, 320, .inl b2)), ((b 11), .inl (cZ, 320, .inl s2)), ((b 12), .inl (cI, 320, .inl pa)), ((b 13), .inl (cI, 160, .inl row)), ((b 14), .inl (cJ, 17, .inr (.inl mo2))), ((b 15), .inl (cI, 40, .inl so))]
/-- a slot: nothing, or a world that is a picture of what the reference saved there -/
def SlotOK (cI cJ : ClassId) (X : va_W) (o : Option Nat) (fl : Int32) (m : Nat → Int32) (w : Nat → Int64) : Prop := (o = none ∧ X = [] ∧ fl = 0) ∨ ∃ (a : Nat → Nat) (tS : Int32) (tL : Int32) (tM : Nat → Int32) (tF : Nat → Int32) (lc : Int32) (lv : Nat → Int64) (mode : Int32) (budget : Int32) (formed : Int32) (ce : Int64) (corr : Int32) (dec : Int32) (qn : Int32) (E : Nat → Int64) (tl : Int32) (pn : Int32) (pl : Int32) (pv : Nat → Int64) (sn : Int32) (sl : Int32) (sv : Nat → Int64) (kn : Nat → Int32) (bi : Nat → Int32) (hs : Int32) (hl : Int32) (hm : Nat → Int32) (hf : Nat → Int32) (rep : Nat → Int32), o = some (a 0) ∧ X = wWo cI cJ a tS tL tM tF lc lv mode budget formed ce corr dec qn E tl pn pl pv sn sl sv kn bi hs hl hm hf rep ∧ ¬ fl = 0 ∧ RW tS tL tM tF lc lv mode budget formed ce corr dec qn E tl pn pl pv sn sl sv kn bi hs hl hm hf rep m w
/-- between two calls of the law -/
def LawOK (cI cJ cZ cO : ClassId) (a b : Nat → Nat) (ws : va_W) : Prop := ∃ (f : Nat → Option Nat) (tS : Int32) (tL : Int32) (tM : Nat → Int32) (tF : Nat → Int32) (lc : Int32) (lv : Nat → Int64) (mode : Int32) (budget : Int32) (formed : Int32) (ce : Int64) (corr : Int32) (dec : Int32) (qn : Int32) (E : Nat → Int64) (tl : Int32) (pn : Int32) (pl : Int32) (pv : Nat → Int64) (sn : Int32) (sl : Int32) (sv : Nat → Int64) (kn : Nat → Int32) (bi : Nat → Int32) (hs : Int32) (hl : Int32) (hm : Nat → Int32) (hf : Nat → Int32) (rep : Nat → Int32) (tn : Int32) (tx : Nat → Int32) (len : Int32) (qd : Int32) (se : Nat → Int32) (qu : Nat → Int32) (og : Nat → Int32) (ar : Nat → Int32) (lt : Nat → Int32) (tn2 : Int32) (st : Int32) (mi : Int64) (mos : Int32) (hash : Int64) (m : Nat → Int32) (sa : Nat → Int32) (w : Nat → Int64) (sw : Nat → Int64) (iS : Nat → Int32) (tx2 : Nat → Int32) (far : Nat → Int32) (q2 : Nat → Int32) (p2 : Nat → Int32) (b2 : Nat → Int32) (s2 : Nat → Int32) (pa : Nat → Int32) (row : Nat → Int32) (mo2 : Nat → Int64) (so : Nat → Int32) (X0 X1 : va_W), ws = wT cI cJ cO a f tS tL tM tF lc lv mode budget formed ce corr dec qn E tl pn pl pv sn sl sv kn bi hs hl hm hf rep tn tx len qd se qu og ar lt ++ (wM cI cJ cZ b tn2 st mi mos hash m sa w sw iS tx2 far q2 p2 b2 s2 pa row mo2 so ++ (X0 ++ X1)) ∧ RW tS tL tM tF lc lv mode budget formed ce corr dec qn E tl pn pl pv sn sl sv kn bi hs hl hm hf rep m w ∧ RX tn tx tn2 tx2 ∧ SlotOK cI cJ X0 (f 0) (iS 0) (fun k => sa (561 * 0 + k)) (fun k => sw (360 * 0 + k)) ∧ SlotOK cI cJ X1 (f 1) (iS 1) (fun k => sa (561 * 1 + k)) (fun k => sw (360 * 1 + k))

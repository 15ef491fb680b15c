def R_law : String := "TableLearnerLaw"
def lw_P (b : Addr) (xs : List Int32) (args : Array Value) (s : State) : Prop := args = #[.ref b] ∧ s.IntsAt b xs ∧ xs.length ≤ 2048 ∧ (Jvm.Cond.and given_1 narrow_1).before args s = true
def lw_Q (_ : Array Value) (s : State) (o : Outcome) (t : State) : Prop := o = .returned (some (.int 1)) ∧ Framed s o t [] 600000 7302250
def lw_Z (below : List Frame) (a : Array Value) (s : State) : State → Prop := fun t => ∃ o, t.status = .running ∧ Ended t below o ∧ lw_Q a s o t
/-- the law's own end, with 1 on the stack, nothing written that was there before, its room as the claim has it -/
theorem lw_ret {p : Program} {l : Launch} {e : Env} {s : State} {m : MethodId} {below : List Frame} {meth : Method} {c : Code} {b : Nat} (hx : p.tables.exec = Jvm.exec) (hb : c.code = code) (hr : meth.sig.returnType = ret) (hlocks : meth.locks = false) {pc : Nat} {H : Heap} {ls : Array Slot} (hdg : decode code pc = .ok (.ireturn, 1)) : W p l e room_1 s m #[Value.ref b] below meth c H [] 600000 7302250 (lw_Z below #[Value.ref b] s) (F0 m pc ls [.int 1]) := by
  intro T hT X
  obtain ⟨fs, hret, hrun, hended, hW, hframe⟩ := X.leave (v := some (.int 1)) (hlocks := hlocks) (fun h => by rw [hr] at h; cases h)
  have hmeth' : T.vm.method? m = some meth := X.method'
  refine ⟨T.setFrames fs, ?_, .returned (some (.int 1)), hrun, hended, rfl, ⟨_, rfl⟩, hW, hframe⟩
  jvm_step X.here [X.here.top, hx, hb, hdg, hmeth', hr, ret, narrow_b1]
  (try refine ⟨rfl, ?_⟩); (try refine ⟨rfl, ?_⟩)
  first | (intro acts; rw [hret _ acts rfl rfl rfl]) | rw [hret _ _ rfl rfl rfl]
  exact Steps.refl _
/-- what holds at the law's entry: the machine, the code, the tables' words (any of lw_tbl by 'hts w (by decide +kernel)'), the script of L ints xs at the cell b, what the Statement gives of the start (any of its parts by flat_of_before) -/
def lw_At (p : Program) (s : State) (m : MethodId) (meth : Method) (c : Code) (b L : Nat) (xs : Nat → Int32) : Prop :=
  p.tables.exec = Jvm.exec ∧ c.code = code ∧ meth.sig.returnType = ret ∧ c.maxLocals = 4 ∧ s.vm.findClass R_law = some m.cls ∧ (∀ w ∈ lw_tbl, w.before #[Value.ref b] s = true) ∧ va_X b L xs s s.heap ∧ b < s.heap.size ∧ meth.locks = false ∧ (Jvm.Cond.and given_1 narrow_1).before #[Value.ref b] s = true
theorem tsw24 {x : Int32} (h0 : ¬ x = 0) (h1 : ¬ x = 1) (h2 : ¬ x = 2) (h3 : ¬ x = 3) (h4 : ¬ x = 4) (h5 : ¬ x = 5) (h6 : ¬ x = 6) (h7 : ¬ x = 7) (h8 : ¬ x = 8) (h9 : ¬ x = 9) (h10 : ¬ x = 10) (h11 : ¬ x = 11) (h12 : ¬ x = 12) (h13 : ¬ x = 13) (h14 : ¬ x = 14) (h15 : ¬ x = 15) (h16 : ¬ x = 16) (h17 : ¬ x = 17) (h18 : ¬ x = 18) (h19 : ¬ x = 19) (h20 : ¬ x = 20) (h21 : ¬ x = 21) (h22 : ¬ x = 22) (h23 : ¬ x = 23) : x.toInt < 0 ∨ 23 < x.toInt := by
  have a0 : x.toInt ≠ 0 := tsw_ne h0
  have a1 : x.toInt ≠ 1 := tsw_ne h1
  have a2 : x.toInt ≠ 2 := tsw_ne h2
  have a3 : x.toInt ≠ 3 := tsw_ne h3
  have a4 : x.toInt ≠ 4 := tsw_ne h4
  have a5 : x.toInt ≠ 5 := tsw_ne h5
  have a6 : x.toInt ≠ 6 := tsw_ne h6
  have a7 : x.toInt ≠ 7 := tsw_ne h7
  have a8 : x.toInt ≠ 8 := tsw_ne h8
  have a9 : x.toInt ≠ 9 := tsw_ne h9
  have a10 : x.toInt ≠ 10 := tsw_ne h10
  have a11 : x.toInt ≠ 11 := tsw_ne h11
  have a12 : x.toInt ≠ 12 := tsw_ne h12
  have a13 : x.toInt ≠ 13 := tsw_ne h13
  have a14 : x.toInt ≠ 14 := tsw_ne h14
  have a15 : x.toInt ≠ 15 := tsw_ne h15
  have a16 : x.toInt ≠ 16 := tsw_ne h16
  have a17 : x.toInt ≠ 17 := tsw_ne h17
  have a18 : x.toInt ≠ 18 := tsw_ne h18
  have a19 : x.toInt ≠ 19 := tsw_ne h19
  have a20 : x.toInt ≠ 20 := tsw_ne h20
  have a21 : x.toInt ≠ 21 := tsw_ne h21
  have a22 : x.toInt ≠ 22 := tsw_ne h22
  have a23 : x.toInt ≠ 23 := tsw_ne h23
  omega
theorem lw_cmp {L i : Nat} (hL : L ≤ 2048) (hi : i ≤ 2048) (h : ¬ Int32.ofNat L - (4 : Int32) < nI i) : i + 4 ≤ L := by
  refine Nat.not_lt.mp fun hlt => h ?_
  by_cases h4 : 4 ≤ L
  · obtain ⟨k, rfl⟩ : ∃ k, L = k + 4 := ⟨L - 4, by omega⟩
    have e : Int32.ofNat (k + 4) - (4 : Int32) = nI k := by
      show nI (k + 4) - (4 : Int32) = nI k
      rw [← nI_add, show nI 4 = (4 : Int32) from rfl, Int32.add_sub_cancel]
    rw [e]
    exact nI_lt (by omega) (by omega)
  · rw [Int32.lt_iff_toInt_lt, nI_toInt (by omega)]
    have h5 : L = 0 ∨ L = 1 ∨ L = 2 ∨ L = 3 := by omega
    have e : (Int32.ofNat L - (4 : Int32)).toInt < 0 := by rcases h5 with rfl | rfl | rfl | rfl <;> decide
    omega
set_option maxHeartbeats 4000000 in
set_option maxRecDepth 100000 in
/-- one turn of the law's loop -/
theorem law_head {p : Program} {l : Launch} {e : Env} {s : State} {m : MethodId} {below : List Frame} {meth : Method} {c : Code} {A : Nat → Prop} {D : va_G} {cI cJ cZ cO : ClassId} {a b : Nat → Nat} {sb L : Nat} {xs : Nat → Int32} (G : LG p s m #[Value.ref sb] c A D cI cJ cZ cO sb L xs) (hL : L ≤ 2048) (hr : meth.sig.returnType = ret) (hlocks : meth.locks = false) (hAs : ∀ q, A q → s.heap.size ≤ q) {j : Nat} {ws : va_W} {H : Heap} {locs : List Loc} {ls : Array Slot} (hj : 4 * j ≤ L) (hOK : LawOK cI cJ cZ cO a b ws) (w : Wd s A D ws H locs) (hl : lv_has ls 4 [(0, .ref sb), (1, .ref (a 0)), (2, .ref (b 0)), (3, .int (nI (4 * j)))])
    (hk : ∀ (ws : va_W) (H : Heap) (locs : List Loc) (ls : Array Slot), 4 * (j + 1) ≤ L → LawOK cI cJ cZ cO a b ws → Wd s A D ws H locs → lv_has ls 4 [(0, .ref sb), (1, .ref (a 0)), (2, .ref (b 0)), (3, .int (nI (4 * (j + 1))))] → W p l e room_1 s m #[Value.ref sb] below meth c H locs (45 + 20 * (j + 1)) (7204 + 948 * (j + 1)) (lw_Z below #[Value.ref sb] s) (F0 m 18 ls [])) : W p l e room_1 s m #[Value.ref sb] below meth c H locs (45 + 20 * j) (7204 + 948 * j) (lw_Z below #[Value.ref sb] s) (F0 m 18 ls []) := by
  obtain ⟨C0, hz, hX, hbl, hbA⟩ := id G
  obtain ⟨hx, hb, hml, hown, hts, hA, hK⟩ := id C0
  refine lv_iload_n hx hb dL_law_18 rfl (lv_at hl 3 rfl) ?_
  refine lv_aload_n hx hb dL_law_19 rfl (lv_at hl 0 rfl) ?_
  refine va_slen hx hb hX hbl hbA w.2.2 dL_law_20 ?_
  refine lv_iconst (v := (4 : Int32)) hx hb dL_law_21 (by decide) ?_
  refine lv_isub hx hb dL_law_22 ?_
  refine lv_icmp_gt (tgt := 785) hx hb dL_law_23 (by decide) (fun _ => ?_) (fun hc => ?_)
  · refine lv_iconst (v := (1 : Int32)) hx hb dL_law_785 (by decide) ?_
    refine va_forget (fun q hq => hAs _ (w.2.2.2.2 q hq)) ?_
    refine W.widen (k := 600000) (n := 7302250) (by omega) (by omega) ?_
    exact lw_ret hx hb hr hlocks dL_law_786
  have hi : 4 * j + 4 ≤ L := lw_cmp hL (by omega) hc
  refine lv_aload_n hx hb dL_law_26 rfl (lv_at hl 0 rfl) ?_
  refine lv_iload_n hx hb dL_law_27 rfl (lv_at hl 3 rfl) ?_
  refine r_sld0 G w (by omega) hL dL_law_28 ?_
  refine lv_bipush (v := (31 : Int32)) hx hb dL_law_29 (by decide) ?_
  refine lv_iand hx hb dL_law_31 ?_
  refine lv_topi (fun x _ => ?_)
  have hcs : (45 + 20 * j) + 20 ≤ room_1.cells ∧ (7204 + 948 * j) + 948 ≤ room_1.slots := ⟨show (45 + 20 * j) + 20 ≤ 600000 by omega, show (7204 + 948 * j) + 948 ≤ 7302250 by omega⟩
  have hnext : LN p l e s m #[Value.ref sb] below meth c (45 + 20 * j) (7204 + 948 * j) (lw_Z below #[Value.ref sb] s) A D cI cJ cZ cO a b sb (4 * j) := by
    intro ws H locs ls hOK w hl
    refine lv_iinc (v := nI (4 * (j + 1))) (lv' := [(3, .int (nI (4 * (j + 1)))), (0, .ref sb), (1, .ref (a 0)), (2, .ref (b 0))]) (k := 3) hx hb dL_law_779 hl rfl (by rw [show Int32.ofInt 4 = nI 4 from by decide]; exact nI_add _ _) (by decide) rfl (fun ls hl => ?_)
    refine lv_goto (tgt := 18) hx hb dL_law_782 (by decide) ?_
    have h9 := hk ws H locs ls (by omega) hOK w (lv_sub hl [1, 2, 3, 0] rfl)
    rw [show 45 + 20 * (j + 1) = 45 + 20 * j + 20 by omega, show 7204 + 948 * (j + 1) = 7204 + 948 * j + 948 by omega] at h9
    exact h9
  by_cases e0 : x = 0
  · refine lv_tableIn (off := 112) (tgt := 144) hx hb dL_law_32 (by rw [e0]; decide) (by rw [e0]; decide) (by rw [e0]; decide) (by decide) ?_
    exact law_0 G hi hL hcs hnext hOK w hl
  by_cases e1 : x = 1
  · refine lv_tableIn (off := 145) (tgt := 177) hx hb dL_law_32 (by rw [e1]; decide) (by rw [e1]; decide) (by rw [e1]; decide) (by decide) ?_
    exact law_1 G hi hL hcs hnext hOK w hl
  by_cases e2 : x = 2
  · refine lv_tableIn (off := 188) (tgt := 220) hx hb dL_law_32 (by rw [e2]; decide) (by rw [e2]; decide) (by rw [e2]; decide) (by decide) ?_
    exact law_2 G hi hL hcs hnext hOK w hl
  by_cases e3 : x = 3
  · refine lv_tableIn (off := 237) (tgt := 269) hx hb dL_law_32 (by rw [e3]; decide) (by rw [e3]; decide) (by rw [e3]; decide) (by decide) ?_
    exact law_3 G hi hL hcs hnext hOK w hl
  by_cases e4 : x = 4
  · refine lv_tableIn (off := 250) (tgt := 282) hx hb dL_law_32 (by rw [e4]; decide) (by rw [e4]; decide) (by rw [e4]; decide) (by decide) ?_
    exact law_4 G hi hL hcs hnext hOK w hl
  by_cases e5 : x = 5
  · refine lv_tableIn (off := 283) (tgt := 315) hx hb dL_law_32 (by rw [e5]; decide) (by rw [e5]; decide) (by rw [e5]; decide) (by decide) ?_
    exact law_5 G hi hL hcs hnext hOK w hl
  by_cases e6 : x = 6
  · refine lv_tableIn (off := 326) (tgt := 358) hx hb dL_law_32 (by rw [e6]; decide) (by rw [e6]; decide) (by rw [e6]; decide) (by decide) ?_
    exact law_6 G hi hL hcs hnext hOK w hl
  by_cases e7 : x = 7
  · refine lv_tableIn (off := 339) (tgt := 371) hx hb dL_law_32 (by rw [e7]; decide) (by rw [e7]; decide) (by rw [e7]; decide) (by decide) ?_
    exact law_7 G hi hL hcs hnext hOK w hl
  by_cases e8 : x = 8
  · refine lv_tableIn (off := 352) (tgt := 384) hx hb dL_law_32 (by rw [e8]; decide) (by rw [e8]; decide) (by rw [e8]; decide) (by decide) ?_
    exact law_8 G hi hL hcs hnext hOK w hl
  by_cases e9 : x = 9
  · refine lv_tableIn (off := 375) (tgt := 407) hx hb dL_law_32 (by rw [e9]; decide) (by rw [e9]; decide) (by rw [e9]; decide) (by decide) ?_
    exact law_9 G hi hL hcs hnext hOK w hl
  by_cases e10 : x = 10
  · refine lv_tableIn (off := 388) (tgt := 420) hx hb dL_law_32 (by rw [e10]; decide) (by rw [e10]; decide) (by rw [e10]; decide) (by decide) ?_
    exact law_10 G hi hL hcs hnext hOK w hl
  by_cases e11 : x = 11
  · refine lv_tableIn (off := 421) (tgt := 453) hx hb dL_law_32 (by rw [e11]; decide) (by rw [e11]; decide) (by rw [e11]; decide) (by decide) ?_
    exact law_11 G hi hL hcs hnext hOK w hl
  by_cases e12 : x = 12
  · refine lv_tableIn (off := 434) (tgt := 466) hx hb dL_law_32 (by rw [e12]; decide) (by rw [e12]; decide) (by rw [e12]; decide) (by decide) ?_
    exact law_12 G hi hL hcs hnext hOK w hl
  by_cases e13 : x = 13
  · refine lv_tableIn (off := 457) (tgt := 489) hx hb dL_law_32 (by rw [e13]; decide) (by rw [e13]; decide) (by rw [e13]; decide) (by decide) ?_
    exact law_13 G hi hL hcs hnext hOK w hl
  by_cases e14 : x = 14
  · refine lv_tableIn (off := 470) (tgt := 502) hx hb dL_law_32 (by rw [e14]; decide) (by rw [e14]; decide) (by rw [e14]; decide) (by decide) ?_
    exact law_14 G hi hL hcs hnext hOK w hl
  by_cases e15 : x = 15
  · refine lv_tableIn (off := 529) (tgt := 561) hx hb dL_law_32 (by rw [e15]; decide) (by rw [e15]; decide) (by rw [e15]; decide) (by decide) ?_
    exact law_15 G hi hL hcs hnext hOK w hl
  by_cases e16 : x = 16
  · refine lv_tableIn (off := 572) (tgt := 604) hx hb dL_law_32 (by rw [e16]; decide) (by rw [e16]; decide) (by rw [e16]; decide) (by decide) ?_
    exact law_16 G hi hL hcs hnext hOK w hl
  by_cases e17 : x = 17
  · refine lv_tableIn (off := 605) (tgt := 637) hx hb dL_law_32 (by rw [e17]; decide) (by rw [e17]; decide) (by rw [e17]; decide) (by decide) ?_
    exact law_17 G hi hL hcs hnext hOK w hl
  by_cases e18 : x = 18
  · refine lv_tableIn (off := 618) (tgt := 650) hx hb dL_law_32 (by rw [e18]; decide) (by rw [e18]; decide) (by rw [e18]; decide) (by decide) ?_
    exact law_18 G hi hL hcs hnext hOK w hl
  by_cases e19 : x = 19
  · refine lv_tableIn (off := 641) (tgt := 673) hx hb dL_law_32 (by rw [e19]; decide) (by rw [e19]; decide) (by rw [e19]; decide) (by decide) ?_
    exact law_19 G hi hL hcs hnext hOK w hl
  by_cases e20 : x = 20
  · refine lv_tableIn (off := 664) (tgt := 696) hx hb dL_law_32 (by rw [e20]; decide) (by rw [e20]; decide) (by rw [e20]; decide) (by decide) ?_
    exact law_20 G hi hL hcs hnext hOK w hl
  by_cases e21 : x = 21
  · refine lv_tableIn (off := 687) (tgt := 719) hx hb dL_law_32 (by rw [e21]; decide) (by rw [e21]; decide) (by rw [e21]; decide) (by decide) ?_
    exact law_21 G hi hL hcs hnext hOK w hl
  by_cases e22 : x = 22
  · refine lv_tableIn (off := 710) (tgt := 742) hx hb dL_law_32 (by rw [e22]; decide) (by rw [e22]; decide) (by rw [e22]; decide) (by decide) ?_
    exact law_22 G hi hL hcs hnext hOK w hl
  by_cases e23 : x = 23
  · refine lv_tableIn (off := 733) (tgt := 765) hx hb dL_law_32 (by rw [e23]; decide) (by rw [e23]; decide) (by rw [e23]; decide) (by decide) ?_
    exact law_23 G hi hL hcs hnext hOK w hl
  refine lv_tableOut (tgt := 779) hx hb dL_law_32 (tsw24 e0 e1 e2 e3 e4 e5 e6 e7 e8 e9 e10 e11 e12 e13 e14 e15 e16 e17 e18 e19 e20 e21 e22 e23) (by decide) ?_
  refine W.widen (k := (45 + 20 * j) + 20) (n := (7204 + 948 * j) + 948) (Nat.le_add_right _ _) (Nat.le_add_right _ _) ?_
  exact hnext _ _ _ _ hOK w hl
theorem law_loop {p : Program} {l : Launch} {e : Env} {s : State} {m : MethodId} {below : List Frame} {meth : Method} {c : Code} {A : Nat → Prop} {D : va_G} {cI cJ cZ cO : ClassId} {a b : Nat → Nat} {sb L : Nat} {xs : Nat → Int32} (G : LG p s m #[Value.ref sb] c A D cI cJ cZ cO sb L xs) (hL : L ≤ 2048) (hr : meth.sig.returnType = ret) (hlocks : meth.locks = false) (hAs : ∀ q, A q → s.heap.size ≤ q) : ∀ (n j : Nat) (ws : va_W) (H : Heap) (locs : List Loc) (ls : Array Slot), 512 ≤ j + n → 4 * j ≤ L → LawOK cI cJ cZ cO a b ws → Wd s A D ws H locs → lv_has ls 4 [(0, .ref sb), (1, .ref (a 0)), (2, .ref (b 0)), (3, .int (nI (4 * j)))] → W p l e room_1 s m #[Value.ref sb] below meth c H locs (45 + 20 * j) (7204 + 948 * j) (lw_Z below #[Value.ref sb] s) (F0 m 18 ls []) := by
  intro n
  induction n with
  | zero => exact fun j ws H locs ls hn hj hOK w hl => law_head G hL hr hlocks hAs hj hOK w hl (fun _ _ _ _ h _ _ _ => absurd h (by omega))
  | succ n ih => exact fun j ws H locs ls hn hj hOK w hl => law_head G hL hr hlocks hAs hj hOK w hl (fun ws H locs ls h hOK w hl => ih (j + 1) ws H locs ls (by omega) h hOK w hl)

abbrev ws_Ar_fill (cI cJ cZ : ClassId) (q_o0 : Nat) (n_o0 : Nat) (v_o0 : (Nat → Int32)) : va_W := [(q_o0, .inl (cI, n_o0, .inl v_o0))]
abbrev rm_Ar_fill : Room := { frames := 0, cells := 0, slots := 0, locals := 0 }
def f_Ar_fill_L5 (n_o0 : Nat) (x1 : Int32) (x3 : Int32) (K rec : Int32 → (Nat → Int32) → Option ((Nat → Int32))) (x2 : Int32) (v_o0 : (Nat → Int32)) : Option ((Nat → Int32)) :=
 (if x3 ≤ x2 then
 (K x2 v_o0)
 else
 (gIn x2 n_o0
 (bnd (upd v_o0 x2.toNatClampNeg x1) (fun v_o0_1 =>
 (bnd (x2 + 1) (fun x2_1 =>
 (rec x2_1 v_o0_1)))))))
def f_Ar_fill (n_o0 : Nat) (x1 : Int32) (v_o0 : (Nat → Int32)) : Option ((Nat → Int32)) :=
 (bnd (Int32.ofNat n_o0) (fun x3 =>
 (itr (fun _ _ => none) (f_Ar_fill_L5 n_o0 x1 x3 (fun x2 v_o0_1 =>
 (some v_o0_1))) FU (0 : Int32) v_o0)))
abbrev ws_Au_shape (cI cJ cZ : ClassId) (q_this q_moves q_finals : Nat) (n_moves n_finals : Nat) (v_size : Int32) (v_letters : Int32) (v_moves : (Nat → Int32)) (v_finals : (Nat → Int32)) : va_W := [(q_this, .inr (0, [.ref q_moves, .ref q_finals, .int v_size, .int v_letters])), (q_moves, .inl (cI, n_moves, .inl v_moves)), (q_finals, .inl (cI, n_finals, .inl v_finals))]
abbrev rm_Au_shape : Room := { frames := 1, cells := 0, slots := 0, locals := 23 }
def f_Au_shape (n_moves : Nat) (n_finals : Nat) (x1 : Int32) (x2 : Int32) (v_moves : (Nat → Int32)) (v_finals : (Nat → Int32)) : Option ((Nat → Int32) × (Nat → Int32) × Int32 × Int32) :=
 (bd1 (f_Ar_fill n_moves (0 : Int32) v_moves) (fun v_moves_1 =>
 (bd1 (f_Ar_fill n_finals (0 : Int32) v_finals) (fun v_finals_1 =>
 (some (v_moves_1, v_finals_1, x1, x2))))))
abbrev ws_Ws_lengthOf (cI cJ cZ : ClassId) : va_W := []
abbrev rm_Ws_lengthOf : Room := { frames := 0, cells := 0, slots := 0, locals := 0 }
def f_Ws_lengthOf_L6 (K rec : Int32 → Int64 → Option (Int32)) (x2 : Int32) (x3 : Int64) : Option (Int32) :=
 (if (0 : Int64) < x3 then
 (if (16 : Int32) ≤ x2 then
 (K x2 x3)
 else
 (bnd (x2 + 1) (fun x2_1 =>
 (bnd (x3 >>> (2 : Int64)) (fun x3_1 =>
 (rec x2_1 x3_1))))))
 else
 (K x2 x3))
def f_Ws_lengthOf (x0 : Int64) : Option (Int32) :=
 (bnd (x0 >>> (2 : Int64)) (fun x3 =>
 (itr (fun _ _ => none) (f_Ws_lengthOf_L6 (fun x2 x3_1 =>
 (some x2))) FU (0 : Int32) x3)))
abbrev ws_WL_add (cI cJ cZ : ClassId) (q_this q_words : Nat) (n_words : Nat) (v_size : Int32) (v_longest : Int32) (v_words : (Nat → Int64)) : va_W := [(q_this, .inr (6, [.ref q_words, .int v_size, .int v_longest])), (q_words, .inl (cJ, n_words, .inr (.inl v_words)))]
abbrev rm_WL_add : Room := { frames := 1, cells := 0, slots := 0, locals := 24 }
def f_WL_add (n_words : Nat) (x1 : Int64) (v_size : Int32) (v_longest : Int32) (v_words : (Nat → Int64)) : Option ((Nat → Int64) × Int32 × Int32) :=
 (if (Int32.ofNat n_words) ≤ v_size then
 (some (v_words, v_size, v_longest))
 else
 (gIn v_size n_words
 (bnd (vp_updL v_words v_size.toNatClampNeg x1) (fun v_words_1 =>
 (bnd (v_size + (1 : Int32)) (fun v_size_1 =>
 (bd1 (f_Ws_lengthOf x1) (fun r =>
 (bnd (if v_longest < r then r else v_longest) (fun v_longest_1 =>
 (some (v_words_1, v_size_1, v_longest_1))))))))))))
abbrev ws_WL_startAnew (cI cJ cZ : ClassId) (q_this q_words : Nat) (n_words : Nat) (v_size : Int32) (v_longest : Int32) (v_words : (Nat → Int64)) : va_W := [(q_this, .inr (6, [.ref q_words, .int v_size, .int v_longest])), (q_words, .inl (cJ, n_words, .inr (.inl v_words)))]
abbrev rm_WL_startAnew : Room := { frames := 2, cells := 0, slots := 0, locals := 46 }
def f_WL_startAnew (n_words : Nat) (v_words : (Nat → Int64)) : Option ((Nat → Int64) × Int32 × Int32) :=
 (bd3 (f_WL_add n_words (1 : Int64) (0 : Int32) (0 : Int32) v_words) (fun v_words_1 v_size_1 v_longest_1 =>
 (some (v_words_1, v_size_1, v_longest_1))))
abbrev ws_Ta_startAnew (cI cJ cZ : ClassId) (q_this q_prefixes q_suffixes q_known q_bits q_prefixes_words q_suffixes_words : Nat) (v_letters : Int32) (v_prefixes_size : Int32) (v_prefixes_longest : Int32) (v_prefixes_words : (Nat → Int64)) (v_suffixes_size : Int32) (v_suffixes_longest : Int32) (v_suffixes_words : (Nat → Int64)) (v_known : (Nat → Int32)) (v_bits : (Nat → Int32)) : va_W := [(q_this, .inr (4, [.ref q_prefixes, .ref q_suffixes, .ref q_known, .ref q_bits, .int v_letters])), (q_prefixes, .inr (6, [.ref q_prefixes_words, .int v_prefixes_size, .int v_prefixes_longest])), (q_prefixes_words, .inl (cJ, 40, .inr (.inl v_prefixes_words))), (q_suffixes, .inr (6, [.ref q_suffixes_words, .int v_suffixes_size, .int v_suffixes_longest])), (q_suffixes_words, .inl (cJ, 16, .inr (.inl v_suffixes_words))), (q_known, .inl (cI, 160, .inl v_known)), (q_bits, .inl (cI, 160, .inl v_bits))]
abbrev rm_Ta_startAnew : Room := { frames := 3, cells := 0, slots := 0, locals := 66 }
def f_Ta_startAnew (x1 : Int32) (v_prefixes_words : (Nat → Int64)) (v_suffixes_words : (Nat → Int64)) (v_known : (Nat → Int32)) (v_bits : (Nat → Int32)) : Option ((Nat → Int64) × Int32 × Int32 × (Nat → Int64) × Int32 × Int32 × (Nat → Int32) × (Nat → Int32) × Int32) :=
 (bd3 (f_WL_startAnew 40 v_prefixes_words) (fun v_prefixes_words_1 v_prefixes_size_1 v_prefixes_longest_1 =>
 (bd3 (f_WL_startAnew 16 v_suffixes_words) (fun v_suffixes_words_1 v_suffixes_size_1 v_suffixes_longest_1 =>
 (bd1 (f_Ar_fill 160 (0 : Int32) v_known) (fun v_known_1 =>
 (bd1 (f_Ar_fill 160 (0 : Int32) v_bits) (fun v_bits_1 =>
 (some (v_prefixes_words_1, v_prefixes_size_1, v_prefixes_longest_1, v_suffixes_words_1, v_suffixes_size_1, v_suffixes_longest_1, v_known_1, v_bits_1, x1))))))))))
abbrev ws_Le_startAnew (cI cJ cZ : ClassId) (q_this q_asked q_table q_hypothesis q_representatives q_asked_entries q_table_prefixes q_table_suffixes q_table_known q_table_bits q_table_prefixes_words q_table_suffixes_words q_hypothesis_moves q_hypothesis_finals : Nat) (v_mode : Int32) (v_budget : Int32) (v_formed : Int32) (v_counterexample : Int64) (v_corrections : Int32) (v_deceived : Int32) (v_asked_size : Int32) (v_table_letters : Int32) (v_table_prefixes_size : Int32) (v_table_prefixes_longest : Int32) (v_table_prefixes_words : (Nat → Int64)) (v_table_suffixes_size : Int32) (v_table_suffixes_longest : Int32) (v_table_suffixes_words : (Nat → Int64)) (v_table_known : (Nat → Int32)) (v_table_bits : (Nat → Int32)) (v_hypothesis_size : Int32) (v_hypothesis_letters : Int32) (v_hypothesis_moves : (Nat → Int32)) (v_hypothesis_finals : (Nat → Int32)) : va_W := [(q_this, .inr (1, [.ref q_asked, .ref q_table, .ref q_hypothesis, .ref q_representatives, .int v_mode, .int v_budget, .int v_formed, .long v_counterexample, .int v_corrections, .int v_deceived])), (q_asked, .inr (2, [.ref q_asked_entries, .int v_asked_size])), (q_table, .inr (4, [.ref q_table_prefixes, .ref q_table_suffixes, .ref q_table_known, .ref q_table_bits, .int v_table_letters])), (q_table_prefixes, .inr (6, [.ref q_table_prefixes_words, .int v_table_prefixes_size, .int v_table_prefixes_longest])), (q_table_prefixes_words, .inl (cJ, 40, .inr (.inl v_table_prefixes_words))), (q_table_suffixes, .inr (6, [.ref q_table_suffixes_words, .int v_table_suffixes_size, .int v_table_suffixes_longest])), (q_table_suffixes_words, .inl (cJ, 16, .inr (.inl v_table_suffixes_words))), (q_table_known, .inl (cI, 160, .inl v_table_known)), (q_table_bits, .inl (cI, 160, .inl v_table_bits)), (q_hypothesis, .inr (0, [.ref q_hypothesis_moves, .ref q_hypothesis_finals, .int v_hypothesis_size, .int v_hypothesis_letters])), (q_hypothesis_moves, .inl (cI, 120, .inl v_hypothesis_moves)), (q_hypothesis_finals, .inl (cI, 40, .inl v_hypothesis_finals))]
abbrev rm_Le_startAnew : Room := { frames := 4, cells := 0, slots := 0, locals := 87 }
def f_Le_startAnew (x1 : Int32) (v_table_prefixes_words : (Nat → Int64)) (v_table_suffixes_words : (Nat → Int64)) (v_table_known : (Nat → Int32)) (v_table_bits : (Nat → Int32)) (v_hypothesis_moves : (Nat → Int32)) (v_hypothesis_finals : (Nat → Int32)) : Option (Int32 × (Nat → Int64) × Int32 × Int32 × (Nat → Int64) × Int32 × Int32 × (Nat → Int32) × (Nat → Int32) × Int32 × (Nat → Int32) × (Nat → Int32) × Int32 × Int32 × Int32 × Int64 × Int32 × Int32) :=
 (bd9 (f_Ta_startAnew x1 v_table_prefixes_words v_table_suffixes_words v_table_known v_table_bits) (fun v_table_prefixes_words_1 v_table_prefixes_size_1 v_table_prefixes_longest_1 v_table_suffixes_words_1 v_table_suffixes_size_1 v_table_suffixes_longest_1 v_table_known_1 v_table_bits_1 v_table_letters_1 =>
 (bd4 (f_Au_shape 120 40 (0 : Int32) x1 v_hypothesis_moves v_hypothesis_finals) (fun v_hypothesis_moves_1 v_hypothesis_finals_1 v_hypothesis_size_1 v_hypothesis_letters_1 =>
 (some ((0 : Int32), v_table_prefixes_words_1, v_table_prefixes_size_1, v_table_prefixes_longest_1, v_table_suffixes_words_1, v_table_suffixes_size_1, v_table_suffixes_longest_1, v_table_known_1, v_table_bits_1, v_table_letters_1, v_hypothesis_moves_1, v_hypothesis_finals_1, v_hypothesis_size_1, v_hypothesis_letters_1, (0 : Int32), (-1 : Int64), (0 : Int32), (0 : Int32)))))))
abbrev ws_Wo_startLearner (cI cJ cZ : ClassId) (q_this q_teacher q_learner q_teacher_machine q_teacher_lies q_teacher_machine_moves q_teacher_machine_finals q_learner_asked q_learner_table q_learner_hypothesis q_learner_representatives q_learner_asked_entries q_learner_table_prefixes q_learner_table_suffixes q_learner_table_known q_learner_table_bits q_learner_table_prefixes_words q_learner_table_suffixes_words q_learner_hypothesis_moves q_learner_hypothesis_finals : Nat) (v_teacher_lieCount : Int32) (v_teacher_machine_size : Int32) (v_teacher_machine_letters : Int32) (v_learner_mode : Int32) (v_learner_budget : Int32) (v_learner_formed : Int32) (v_learner_counterexample : Int64) (v_learner_corrections : Int32) (v_learner_deceived : Int32) (v_learner_asked_size : Int32) (v_learner_table_letters : Int32) (v_learner_table_prefixes_size : Int32) (v_learner_table_prefixes_longest : Int32) (v_learner_table_prefixes_words : (Nat → Int64)) (v_learner_table_suffixes_size : Int32) (v_learner_table_suffixes_longest : Int32) (v_learner_table_suffixes_words : (Nat → Int64)) (v_learner_table_known : (Nat → Int32)) (v_learner_table_bits : (Nat → Int32)) (v_learner_hypothesis_size : Int32) (v_learner_hypothesis_letters : Int32) (v_learner_hypothesis_moves : (Nat → Int32)) (v_learner_hypothesis_finals : (Nat → Int32)) : va_W := [(q_this, .inr (7, [.ref q_teacher, .ref q_learner])), (q_teacher, .inr (5, [.ref q_teacher_machine, .ref q_teacher_lies, .int v_teacher_lieCount])), (q_teacher_machine, .inr (0, [.ref q_teacher_machine_moves, .ref q_teacher_machine_finals, .int v_teacher_machine_size, .int v_teacher_machine_letters])), (q_learner, .inr (1, [.ref q_learner_asked, .ref q_learner_table, .ref q_learner_hypothesis, .ref q_learner_representatives, .int v_learner_mode, .int v_learner_budget, .int v_learner_formed, .long v_learner_counterexample, .int v_learner_corrections, .int v_learner_deceived])), (q_learner_asked, .inr (2, [.ref q_learner_asked_entries, .int v_learner_asked_size])), (q_learner_table, .inr (4, [.ref q_learner_table_prefixes, .ref q_learner_table_suffixes, .ref q_learner_table_known, .ref q_learner_table_bits, .int v_learner_table_letters])), (q_learner_table_prefixes, .inr (6, [.ref q_learner_table_prefixes_words, .int v_learner_table_prefixes_size, .int v_learner_table_prefixes_longest])), (q_learner_table_prefixes_words, .inl (cJ, 40, .inr (.inl v_learner_table_prefixes_words))), (q_learner_table_suffixes, .inr (6, [.ref q_learner_table_suffixes_words, .int v_learner_table_suffixes_size, .int v_learner_table_suffixes_longest])), (q_learner_table_suffixes_words, .inl (cJ, 16, .inr (.inl v_learner_table_suffixes_words))), (q_learner_table_known, .inl (cI, 160, .inl v_learner_table_known)), (q_learner_table_bits, .inl (cI, 160, .inl v_learner_table_bits)), (q_learner_hypothesis, .inr (0, [.ref q_learner_hypothesis_moves, .ref q_learner_hypothesis_finals, .int v_learner_hypothesis_size, .int v_learner_hypothesis_letters])), (q_learner_hypothesis_moves, .inl (cI, 120, .inl v_learner_hypothesis_moves)), (q_learner_hypothesis_finals, .inl (cI, 40, .inl v_learner_hypothesis_finals))]
abbrev rm_Wo_startLearner : Room := { frames := 5, cells := 0, slots := 0, locals := 108 }
def f_Wo_startLearner (v_teacher_machine_letters : Int32) (v_learner_table_prefixes_words : (Nat → Int64)) (v_learner_table_suffixes_words : (Nat → Int64)) (v_learner_table_known : (Nat → Int32)) (v_learner_table_bits : (Nat → Int32)) (v_learner_hypothesis_moves : (Nat → Int32)) (v_learner_hypothesis_finals : (Nat → Int32)) : Option (Int32 × (Nat → Int64) × Int32 × Int32 × (Nat → Int64) × Int32 × Int32 × (Nat → Int32) × (Nat → Int32) × Int32 × (Nat → Int32) × (Nat → Int32) × Int32 × Int32 × Int32 × Int64 × Int32 × Int32) :=
 (bd18 (f_Le_startAnew v_teacher_machine_letters v_learner_table_prefixes_words v_learner_table_suffixes_words v_learner_table_known v_learner_table_bits v_learner_hypothesis_moves v_learner_hypothesis_finals) (fun v_learner_asked_size_1 v_learner_table_prefixes_words_1 v_learner_table_prefixes_size_1 v_learner_table_prefixes_longest_1 v_learner_table_suffixes_words_1 v_learner_table_suffixes_size_1 v_learner_table_suffixes_longest_1 v_learner_table_known_1 v_learner_table_bits_1 v_learner_table_letters_1 v_learner_hypothesis_moves_1 v_learner_hypothesis_finals_1 v_learner_hypothesis_size_1 v_learner_hypothesis_letters_1 v_learner_formed_1 v_learner_counterexample_1 v_learner_corrections_1 v_learner_deceived_1 =>
 (some (v_learner_asked_size_1, v_learner_table_prefixes_words_1, v_learner_table_prefixes_size_1, v_learner_table_prefixes_longest_1, v_learner_table_suffixes_words_1, v_learner_table_suffixes_size_1, v_learner_table_suffixes_longest_1, v_learner_table_known_1, v_learner_table_bits_1, v_learner_table_letters_1, v_learner_hypothesis_moves_1, v_learner_hypothesis_finals_1, v_learner_hypothesis_size_1, v_learner_hypothesis_letters_1, v_learner_formed_1, v_learner_counterexample_1, v_learner_corrections_1, v_learner_deceived_1))))
abbrev ws_TL_reset (cI cJ cZ : ClassId) (q_this q_world q_slots q_text q_search q_world_teacher q_world_learner q_world_teacher_machine q_world_teacher_lies q_world_teacher_machine_moves q_world_teacher_machine_finals q_world_learner_asked q_world_learner_table q_world_learner_hypothesis q_world_learner_representatives q_world_learner_asked_entries q_world_learner_table_prefixes q_world_learner_table_suffixes q_world_learner_table_known q_world_learner_table_bits q_world_learner_table_prefixes_words q_world_learner_table_suffixes_words q_world_learner_hypothesis_moves q_world_learner_hypothesis_finals : Nat) (v_textLength : Int32) (v_world_teacher_lieCount : Int32) (v_world_teacher_machine_size : Int32) (v_world_teacher_machine_letters : Int32) (v_world_teacher_machine_moves : (Nat → Int32)) (v_world_teacher_machine_finals : (Nat → Int32)) (v_world_learner_mode : Int32) (v_world_learner_budget : Int32) (v_world_learner_formed : Int32) (v_world_learner_counterexample : Int64) (v_world_learner_corrections : Int32) (v_world_learner_deceived : Int32) (v_world_learner_asked_size : Int32) (v_world_learner_table_letters : Int32) (v_world_learner_table_prefixes_size : Int32) (v_world_learner_table_prefixes_longest : Int32) (v_world_learner_table_prefixes_words : (Nat → Int64)) (v_world_learner_table_suffixes_size : Int32) (v_world_learner_table_suffixes_longest : Int32) (v_world_learner_table_suffixes_words : (Nat → Int64)) (v_world_learner_table_known : (Nat → Int32)) (v_world_learner_table_bits : (Nat → Int32)) (v_world_learner_hypothesis_size : Int32) (v_world_learner_hypothesis_letters : Int32) (v_world_learner_hypothesis_moves : (Nat → Int32)) (v_world_learner_hypothesis_finals : (Nat → Int32)) : va_W := [(q_this, .inr (8, [.ref q_world, .ref q_slots, .ref q_text, .int v_textLength, .ref q_search])), (q_world, .inr (7, [.ref q_world_teacher, .ref q_world_learner])), (q_world_teacher, .inr (5, [.ref q_world_teacher_machine, .ref q_world_teacher_lies, .int v_world_teacher_lieCount])), (q_world_teacher_machine, .inr (0, [.ref q_world_teacher_machine_moves, .ref q_world_teacher_machine_finals, .int v_world_teacher_machine_size, .int v_world_teacher_machine_letters])), (q_world_teacher_machine_moves, .inl (cI, 24, .inl v_world_teacher_machine_moves)), (q_world_teacher_machine_finals, .inl (cI, 8, .inl v_world_teacher_machine_finals)), (q_world_learner, .inr (1, [.ref q_world_learner_asked, .ref q_world_learner_table, .ref q_world_learner_hypothesis, .ref q_world_learner_representatives, .int v_world_learner_mode, .int v_world_learner_budget, .int v_world_learner_formed, .long v_world_learner_counterexample, .int v_world_learner_corrections, .int v_world_learner_deceived])), (q_world_learner_asked, .inr (2, [.ref q_world_learner_asked_entries, .int v_world_learner_asked_size])), (q_world_learner_table, .inr (4, [.ref q_world_learner_table_prefixes, .ref q_world_learner_table_suffixes, .ref q_world_learner_table_known, .ref q_world_learner_table_bits, .int v_world_learner_table_letters])), (q_world_learner_table_prefixes, .inr (6, [.ref q_world_learner_table_prefixes_words, .int v_world_learner_table_prefixes_size, .int v_world_learner_table_prefixes_longest])), (q_world_learner_table_prefixes_words, .inl (cJ, 40, .inr (.inl v_world_learner_table_prefixes_words))), (q_world_learner_table_suffixes, .inr (6, [.ref q_world_learner_table_suffixes_words, .int v_world_learner_table_suffixes_size, .int v_world_learner_table_suffixes_longest])), (q_world_learner_table_suffixes_words, .inl (cJ, 16, .inr (.inl v_world_learner_table_suffixes_words))), (q_world_learner_table_known, .inl (cI, 160, .inl v_world_learner_table_known)), (q_world_learner_table_bits, .inl (cI, 160, .inl v_world_learner_table_bits)), (q_world_learner_hypothesis, .inr (0, [.ref q_world_learner_hypothesis_moves, .ref q_world_learner_hypothesis_finals, .int v_world_learner_hypothesis_size, .int v_world_learner_hypothesis_letters])), (q_world_learner_hypothesis_moves, .inl (cI, 120, .inl v_world_learner_hypothesis_moves)), (q_world_learner_hypothesis_finals, .inl (cI, 40, .inl v_world_learner_hypothesis_finals))]
abbrev rm_TL_reset : Room := { frames := 6, cells := 0, slots := 0, locals := 128 }
def f_TL_reset (x1 : Int32) (x2 : Int32) (v_world_teacher_lieCount : Int32) (v_world_teacher_machine_size : Int32) (v_world_teacher_machine_letters : Int32) (v_world_teacher_machine_moves : (Nat → Int32)) (v_world_teacher_machine_finals : (Nat → Int32)) (v_world_learner_formed : Int32) (v_world_learner_counterexample : Int64) (v_world_learner_corrections : Int32) (v_world_learner_deceived : Int32) (v_world_learner_asked_size : Int32) (v_world_learner_table_letters : Int32) (v_world_learner_table_prefixes_size : Int32) (v_world_learner_table_prefixes_longest : Int32) (v_world_learner_table_prefixes_words : (Nat → Int64)) (v_world_learner_table_suffixes_size : Int32) (v_world_learner_table_suffixes_longest : Int32) (v_world_learner_table_suffixes_words : (Nat → Int64)) (v_world_learner_table_known : (Nat → Int32)) (v_world_learner_table_bits : (Nat → Int32)) (v_world_learner_hypothesis_size : Int32) (v_world_learner_hypothesis_letters : Int32) (v_world_learner_hypothesis_moves : (Nat → Int32)) (v_world_learner_hypothesis_finals : (Nat → Int32)) : Option (Int32 × (Nat → Int32) × (Nat → Int32) × Int32 × Int32 × Int32 × Int32 × (Nat → Int64) × Int32 × Int32 × (Nat → Int64) × Int32 × Int32 × (Nat → Int32) × (Nat → Int32) × Int32 × (Nat → Int32) × (Nat → Int32) × Int32 × Int32 × Int32 × Int64 × Int32 × Int32) :=
 (if x1 < (1 : Int32) then
 (some ((-2 : Int32), v_world_teacher_machine_moves, v_world_teacher_machine_finals, v_world_teacher_machine_size, v_world_teacher_machine_letters, v_world_teacher_lieCount, v_world_learner_asked_size, v_world_learner_table_prefixes_words, v_world_learner_table_prefixes_size, v_world_learner_table_prefixes_longest, v_world_learner_table_suffixes_words, v_world_learner_table_suffixes_size, v_world_learner_table_suffixes_longest, v_world_learner_table_known, v_world_learner_table_bits, v_world_learner_table_letters, v_world_learner_hypothesis_moves, v_world_learner_hypothesis_finals, v_world_learner_hypothesis_size, v_world_learner_hypothesis_letters, v_world_learner_formed, v_world_learner_counterexample, v_world_learner_corrections, v_world_learner_deceived))
 else
 (if (8 : Int32) < x1 then
 (some ((-2 : Int32), v_world_teacher_machine_moves, v_world_teacher_machine_finals, v_world_teacher_machine_size, v_world_teacher_machine_letters, v_world_teacher_lieCount, v_world_learner_asked_size, v_world_learner_table_prefixes_words, v_world_learner_table_prefixes_size, v_world_learner_table_prefixes_longest, v_world_learner_table_suffixes_words, v_world_learner_table_suffixes_size, v_world_learner_table_suffixes_longest, v_world_learner_table_known, v_world_learner_table_bits, v_world_learner_table_letters, v_world_learner_hypothesis_moves, v_world_learner_hypothesis_finals, v_world_learner_hypothesis_size, v_world_learner_hypothesis_letters, v_world_learner_formed, v_world_learner_counterexample, v_world_learner_corrections, v_world_learner_deceived))
 else
 (if x2 < (1 : Int32) then
 (some ((-2 : Int32), v_world_teacher_machine_moves, v_world_teacher_machine_finals, v_world_teacher_machine_size, v_world_teacher_machine_letters, v_world_teacher_lieCount, v_world_learner_asked_size, v_world_learner_table_prefixes_words, v_world_learner_table_prefixes_size, v_world_learner_table_prefixes_longest, v_world_learner_table_suffixes_words, v_world_learner_table_suffixes_size, v_world_learner_table_suffixes_longest, v_world_learner_table_known, v_world_learner_table_bits, v_world_learner_table_letters, v_world_learner_hypothesis_moves, v_world_learner_hypothesis_finals, v_world_learner_hypothesis_size, v_world_learner_hypothesis_letters, v_world_learner_formed, v_world_learner_counterexample, v_world_learner_corrections, v_world_learner_deceived))
 else
 (if x2 ≤ (3 : Int32) then
 (bd4 (f_Au_shape 24 8 x1 x2 v_world_teacher_machine_moves v_world_teacher_machine_finals) (fun v_world_teacher_machine_moves_1 v_world_teacher_machine_finals_1 v_world_teacher_machine_size_1 v_world_teacher_machine_letters_1 =>
 (bd18 (f_Wo_startLearner v_world_teacher_machine_letters_1 v_world_learner_table_prefixes_words v_world_learner_table_suffixes_words v_world_learner_table_known v_world_learner_table_bits v_world_learner_hypothesis_moves v_world_learner_hypothesis_finals) (fun v_world_learner_asked_size_1 v_world_learner_table_prefixes_words_1 v_world_learner_table_prefixes_size_1 v_world_learner_table_prefixes_longest_1 v_world_learner_table_suffixes_words_1 v_world_learner_table_suffixes_size_1 v_world_learner_table_suffixes_longest_1 v_world_learner_table_known_1 v_world_learner_table_bits_1 v_world_learner_table_letters_1 v_world_learner_hypothesis_moves_1 v_world_learner_hypothesis_finals_1 v_world_learner_hypothesis_size_1 v_world_learner_hypothesis_letters_1 v_world_learner_formed_1 v_world_learner_counterexample_1 v_world_learner_corrections_1 v_world_learner_deceived_1 =>
 (some (x1, v_world_teacher_machine_moves_1, v_world_teacher_machine_finals_1, v_world_teacher_machine_size_1, v_world_teacher_machine_letters_1, (0 : Int32), v_world_learner_asked_size_1, v_world_learner_table_prefixes_words_1, v_world_learner_table_prefixes_size_1, v_world_learner_table_prefixes_longest_1, v_world_learner_table_suffixes_words_1, v_world_learner_table_suffixes_size_1, v_world_learner_table_suffixes_longest_1, v_world_learner_table_known_1, v_world_learner_table_bits_1, v_world_learner_table_letters_1, v_world_learner_hypothesis_moves_1, v_world_learner_hypothesis_finals_1, v_world_learner_hypothesis_size_1, v_world_learner_hypothesis_letters_1, v_world_learner_formed_1, v_world_learner_counterexample_1, v_world_learner_corrections_1, v_world_learner_deceived_1))))))
 else
 (some ((-2 : Int32), v_world_teacher_machine_moves, v_world_teacher_machine_finals, v_world_teacher_machine_size, v_world_teacher_machine_letters, v_world_teacher_lieCount, v_world_learner_asked_size, v_world_learner_table_prefixes_words, v_world_learner_table_prefixes_size, v_world_learner_table_prefixes_longest, v_world_learner_table_suffixes_words, v_world_learner_table_suffixes_size, v_world_learner_table_suffixes_longest, v_world_learner_table_known, v_world_learner_table_bits, v_world_learner_table_letters, v_world_learner_hypothesis_moves, v_world_learner_hypothesis_finals, v_world_learner_hypothesis_size, v_world_learner_hypothesis_letters, v_world_learner_formed, v_world_learner_counterexample, v_world_learner_corrections, v_world_learner_deceived))))))
abbrev ws_Au_hasLetter (cI cJ cZ : ClassId) (q_this q_moves q_finals : Nat) (v_size : Int32) (v_letters : Int32) : va_W := [(q_this, .inr (0, [.ref q_moves, .ref q_finals, .int v_size, .int v_letters]))]
abbrev rm_Au_hasLetter : Room := { frames := 0, cells := 0, slots := 0, locals := 0 }
def f_Au_hasLetter (x1 : Int32) (v_letters : Int32) : Option (Int32) :=
 (if x1 < 0 then
 (some (0 : Int32))
 else
 (if v_letters ≤ x1 then
 (some (0 : Int32))
 else
 (some (1 : Int32))))
abbrev ws_Au_hasState (cI cJ cZ : ClassId) (q_this q_moves q_finals : Nat) (v_size : Int32) (v_letters : Int32) : va_W := [(q_this, .inr (0, [.ref q_moves, .ref q_finals, .int v_size, .int v_letters]))]
abbrev rm_Au_hasState : Room := { frames := 0, cells := 0, slots := 0, locals := 0 }
def f_Au_hasState (x1 : Int32) (v_size : Int32) : Option (Int32) :=
 (if x1 < 0 then
 (some (0 : Int32))
 else
 (if v_size ≤ x1 then
 (some (0 : Int32))
 else
 (some (1 : Int32))))
abbrev ws_Au_lead (cI cJ cZ : ClassId) (q_this q_moves q_finals : Nat) (n_moves : Nat) (v_size : Int32) (v_letters : Int32) (v_moves : (Nat → Int32)) : va_W := [(q_this, .inr (0, [.ref q_moves, .ref q_finals, .int v_size, .int v_letters])), (q_moves, .inl (cI, n_moves, .inl v_moves))]
abbrev rm_Au_lead : Room := { frames := 0, cells := 0, slots := 0, locals := 0 }
def f_Au_lead (n_moves : Nat) (x1 : Int32) (x2 : Int32) (x3 : Int32) (v_moves : (Nat → Int32)) : Option ((Nat → Int32)) :=
 (gIn ((x1 * (3 : Int32)) + x2) n_moves
 (bnd (upd v_moves ((x1 * (3 : Int32)) + x2).toNatClampNeg x3) (fun v_moves_1 =>
 (some v_moves_1))))
abbrev ws_Au_next (cI cJ cZ : ClassId) (q_this q_moves q_finals : Nat) (n_moves : Nat) (v_size : Int32) (v_letters : Int32) (v_moves : (Nat → Int32)) : va_W := [(q_this, .inr (0, [.ref q_moves, .ref q_finals, .int v_size, .int v_letters])), (q_moves, .inl (cI, n_moves, .inl v_moves))]
abbrev rm_Au_next : Room := { frames := 0, cells := 0, slots := 0, locals := 0 }
def f_Au_next (n_moves : Nat) (x1 : Int32) (x2 : Int32) (v_moves : (Nat → Int32)) : Option (Int32) :=
 (gIn ((x1 * (3 : Int32)) + x2) n_moves
 (some (v_moves ((x1 * (3 : Int32)) + x2).toNatClampNeg)))
abbrev ws_TL_setMove (cI cJ cZ : ClassId) (q_this q_world q_slots q_text q_search q_world_teacher q_world_learner q_world_teacher_machine q_world_teacher_lies q_world_teacher_machine_moves q_world_teacher_machine_finals q_world_learner_asked q_world_learner_table q_world_learner_hypothesis q_world_learner_representatives q_world_learner_asked_entries q_world_learner_table_prefixes q_world_learner_table_suffixes q_world_learner_table_known q_world_learner_table_bits q_world_learner_table_prefixes_words q_world_learner_table_suffixes_words q_world_learner_hypothesis_moves q_world_learner_hypothesis_finals : Nat) (v_textLength : Int32) (v_world_teacher_lieCount : Int32) (v_world_teacher_machine_size : Int32) (v_world_teacher_machine_letters : Int32) (v_world_teacher_machine_moves : (Nat → Int32)) (v_world_learner_mode : Int32) (v_world_learner_budget : Int32) (v_world_learner_formed : Int32) (v_world_learner_counterexample : Int64) (v_world_learner_corrections : Int32) (v_world_learner_deceived : Int32) (v_world_learner_asked_size : Int32) (v_world_learner_table_letters : Int32) (v_world_learner_table_prefixes_size : Int32) (v_world_learner_table_prefixes_longest : Int32) (v_world_learner_table_prefixes_words : (Nat → Int64)) (v_world_learner_table_suffixes_size : Int32) (v_world_learner_table_suffixes_longest : Int32) (v_world_learner_table_suffixes_words : (Nat → Int64)) (v_world_learner_table_known : (Nat → Int32)) (v_world_learner_table_bits : (Nat → Int32)) (v_world_learner_hypothesis_size : Int32) (v_world_learner_hypothesis_letters : Int32) (v_world_learner_hypothesis_moves : (Nat → Int32)) (v_world_learner_hypothesis_finals : (Nat → Int32)) : va_W := [(q_this, .inr (8, [.ref q_world, .ref q_slots, .ref q_text, .int v_textLength, .ref q_search])), (q_world, .inr (7, [.ref q_world_teacher, .ref q_world_learner])), (q_world_teacher, .inr (5, [.ref q_world_teacher_machine, .ref q_world_teacher_lies, .int v_world_teacher_lieCount])), (q_world_teacher_machine, .inr (0, [.ref q_world_teacher_machine_moves, .ref q_world_teacher_machine_finals, .int v_world_teacher_machine_size, .int v_world_teacher_machine_letters])), (q_world_teacher_machine_moves, .inl (cI, 24, .inl v_world_teacher_machine_moves)), (q_world_learner, .inr (1, [.ref q_world_learner_asked, .ref q_world_learner_table, .ref q_world_learner_hypothesis, .ref q_world_learner_representatives, .int v_world_learner_mode, .int v_world_learner_budget, .int v_world_learner_formed, .long v_world_learner_counterexample, .int v_world_learner_corrections, .int v_world_learner_deceived])), (q_world_learner_asked, .inr (2, [.ref q_world_learner_asked_entries, .int v_world_learner_asked_size])), (q_world_learner_table, .inr (4, [.ref q_world_learner_table_prefixes, .ref q_world_learner_table_suffixes, .ref q_world_learner_table_known, .ref q_world_learner_table_bits, .int v_world_learner_table_letters])), (q_world_learner_table_prefixes, .inr (6, [.ref q_world_learner_table_prefixes_words, .int v_world_learner_table_prefixes_size, .int v_world_learner_table_prefixes_longest])), (q_world_learner_table_prefixes_words, .inl (cJ, 40, .inr (.inl v_world_learner_table_prefixes_words))), (q_world_learner_table_suffixes, .inr (6, [.ref q_world_learner_table_suffixes_words, .int v_world_learner_table_suffixes_size, .int v_world_learner_table_suffixes_longest])), (q_world_learner_table_suffixes_words, .inl (cJ, 16, .inr (.inl v_world_learner_table_suffixes_words))), (q_world_learner_table_known, .inl (cI, 160, .inl v_world_learner_table_known)), (q_world_learner_table_bits, .inl (cI, 160, .inl v_world_learner_table_bits)), (q_world_learner_hypothesis, .inr (0, [.ref q_world_learner_hypothesis_moves, .ref q_world_learner_hypothesis_finals, .int v_world_learner_hypothesis_size, .int v_world_learner_hypothesis_letters])), (q_world_learner_hypothesis_moves, .inl (cI, 120, .inl v_world_learner_hypothesis_moves)), (q_world_learner_hypothesis_finals, .inl (cI, 40, .inl v_world_learner_hypothesis_finals))]
abbrev rm_TL_setMove : Room := { frames := 6, cells := 0, slots := 0, locals := 128 }
def f_TL_setMove (x1 : Int32) (x2 : Int32) (x3 : Int32) (v_world_teacher_machine_size : Int32) (v_world_teacher_machine_letters : Int32) (v_world_teacher_machine_moves : (Nat → Int32)) (v_world_learner_formed : Int32) (v_world_learner_counterexample : Int64) (v_world_learner_corrections : Int32) (v_world_learner_deceived : Int32) (v_world_learner_asked_size : Int32) (v_world_learner_table_letters : Int32) (v_world_learner_table_prefixes_size : Int32) (v_world_learner_table_prefixes_longest : Int32) (v_world_learner_table_prefixes_words : (Nat → Int64)) (v_world_learner_table_suffixes_size : Int32) (v_world_learner_table_suffixes_longest : Int32) (v_world_learner_table_suffixes_words : (Nat → Int64)) (v_world_learner_table_known : (Nat → Int32)) (v_world_learner_table_bits : (Nat → Int32)) (v_world_learner_hypothesis_size : Int32) (v_world_learner_hypothesis_letters : Int32) (v_world_learner_hypothesis_moves : (Nat → Int32)) (v_world_learner_hypothesis_finals : (Nat → Int32)) : Option (Int32 × (Nat → Int32) × Int32 × (Nat → Int64) × Int32 × Int32 × (Nat → Int64) × Int32 × Int32 × (Nat → Int32) × (Nat → Int32) × Int32 × (Nat → Int32) × (Nat → Int32) × Int32 × Int32 × Int32 × Int64 × Int32 × Int32) :=
 (bd1 (f_Au_hasState x1 v_world_teacher_machine_size) (fun r =>
 (if r = 0 then
 (some ((-2 : Int32), v_world_teacher_machine_moves, v_world_learner_asked_size, v_world_learner_table_prefixes_words, v_world_learner_table_prefixes_size, v_world_learner_table_prefixes_longest, v_world_learner_table_suffixes_words, v_world_learner_table_suffixes_size, v_world_learner_table_suffixes_longest, v_world_learner_table_known, v_world_learner_table_bits, v_world_learner_table_letters, v_world_learner_hypothesis_moves, v_world_learner_hypothesis_finals, v_world_learner_hypothesis_size, v_world_learner_hypothesis_letters, v_world_learner_formed, v_world_learner_counterexample, v_world_learner_corrections, v_world_learner_deceived))
 else
 (bd1 (f_Au_hasLetter x2 v_world_teacher_machine_letters) (fun r_1 =>
 (if r_1 = 0 then
 (some ((-2 : Int32), v_world_teacher_machine_moves, v_world_learner_asked_size, v_world_learner_table_prefixes_words, v_world_learner_table_prefixes_size, v_world_learner_table_prefixes_longest, v_world_learner_table_suffixes_words, v_world_learner_table_suffixes_size, v_world_learner_table_suffixes_longest, v_world_learner_table_known, v_world_learner_table_bits, v_world_learner_table_letters, v_world_learner_hypothesis_moves, v_world_learner_hypothesis_finals, v_world_learner_hypothesis_size, v_world_learner_hypothesis_letters, v_world_learner_formed, v_world_learner_counterexample, v_world_learner_corrections, v_world_learner_deceived))
 else
 (bd1 (f_Au_hasState x3 v_world_teacher_machine_size) (fun r_2 =>
 (if r_2 = 0 then
 (some ((-2 : Int32), v_world_teacher_machine_moves, v_world_learner_asked_size, v_world_learner_table_prefixes_words, v_world_learner_table_prefixes_size, v_world_learner_table_prefixes_longest, v_world_learner_table_suffixes_words, v_world_learner_table_suffixes_size, v_world_learner_table_suffixes_longest, v_world_learner_table_known, v_world_learner_table_bits, v_world_learner_table_letters, v_world_learner_hypothesis_moves, v_world_learner_hypothesis_finals, v_world_learner_hypothesis_size, v_world_learner_hypothesis_letters, v_world_learner_formed, v_world_learner_counterexample, v_world_learner_corrections, v_world_learner_deceived))
 else
 (bd1 (f_Au_next 24 x1 x2 v_world_teacher_machine_moves) (fun r_3 =>
 (bd1 (f_Au_lead 24 x1 x2 x3 v_world_teacher_machine_moves) (fun v_world_teacher_machine_moves_1 =>
 (bd18 (f_Wo_startLearner v_world_teacher_machine_letters v_world_learner_table_prefixes_words v_world_learner_table_suffixes_words v_world_learner_table_known v_world_learner_table_bits v_world_learner_hypothesis_moves v_world_learner_hypothesis_finals) (fun v_world_learner_asked_size_1 v_world_learner_table_prefixes_words_1 v_world_learner_table_prefixes_size_1 v_world_learner_table_prefixes_longest_1 v_world_learner_table_suffixes_words_1 v_world_learner_table_suffixes_size_1 v_world_learner_table_suffixes_longest_1 v_world_learner_table_known_1 v_world_learner_table_bits_1 v_world_learner_table_letters_1 v_world_learner_hypothesis_moves_1 v_world_learner_hypothesis_finals_1 v_world_learner_hypothesis_size_1 v_world_learner_hypothesis_letters_1 v_world_learner_formed_1 v_world_learner_counterexample_1 v_world_learner_corrections_1 v_world_learner_deceived_1 =>
 (some (r_3, v_world_teacher_machine_moves_1, v_world_learner_asked_size_1, v_world_learner_table_prefixes_words_1, v_world_learner_table_prefixes_size_1, v_world_learner_table_prefixes_longest_1, v_world_learner_table_suffixes_words_1, v_world_learner_table_suffixes_size_1, v_world_learner_table_suffixes_longest_1, v_world_learner_table_known_1, v_world_learner_table_bits_1, v_world_learner_table_letters_1, v_world_learner_hypothesis_moves_1, v_world_learner_hypothesis_finals_1, v_world_learner_hypothesis_size_1, v_world_learner_hypothesis_letters_1, v_world_learner_formed_1, v_world_learner_counterexample_1, v_world_learner_corrections_1, v_world_learner_deceived_1)))))))))))))))))
abbrev ws_Au_countFinals (cI cJ cZ : ClassId) (q_this q_moves q_finals : Nat) (n_finals : Nat) (v_size : Int32) (v_letters : Int32) (v_finals : (Nat → Int32)) : va_W := [(q_this, .inr (0, [.ref q_moves, .ref q_finals, .int v_size, .int v_letters])), (q_finals, .inl (cI, n_finals, .inl v_finals))]
abbrev rm_Au_countFinals : Room := { frames := 0, cells := 0, slots := 0, locals := 0 }
def f_Au_countFinals_L4 (n_finals : Nat) (v_size : Int32) (v_finals : (Nat → Int32)) (K rec : Int32 → Int32 → Option (Int32)) (x1 : Int32) (x2 : Int32) : Option (Int32) :=
 (if v_size ≤ x2 then
 (K x1 x2)
 else
 (gIn x2 n_finals
 (bnd (x1 + (v_finals x2.toNatClampNeg)) (fun x1_1 =>
 (bnd (x2 + 1) (fun x2_1 =>
 (rec x1_1 x2_1)))))))
def f_Au_countFinals (n_finals : Nat) (v_size : Int32) (v_finals : (Nat → Int32)) : Option (Int32) :=
 (itr (fun _ _ => none) (f_Au_countFinals_L4 n_finals v_size v_finals (fun x1 x2 =>
 (some x1))) FU (0 : Int32) (0 : Int32))
abbrev ws_TL_setFinal (cI cJ cZ : ClassId) (q_this q_world q_slots q_text q_search q_world_teacher q_world_learner q_world_teacher_machine q_world_teacher_lies q_world_teacher_machine_moves q_world_teacher_machine_finals q_world_learner_asked q_world_learner_table q_world_learner_hypothesis q_world_learner_representatives q_world_learner_asked_entries q_world_learner_table_prefixes q_world_learner_table_suffixes q_world_learner_table_known q_world_learner_table_bits q_world_learner_table_prefixes_words q_world_learner_table_suffixes_words q_world_learner_hypothesis_moves q_world_learner_hypothesis_finals : Nat) (v_textLength : Int32) (v_world_teacher_lieCount : Int32) (v_world_teacher_machine_size : Int32) (v_world_teacher_machine_letters : Int32) (v_world_teacher_machine_finals : (Nat → Int32)) (v_world_learner_mode : Int32) (v_world_learner_budget : Int32) (v_world_learner_formed : Int32) (v_world_learner_counterexample : Int64) (v_world_learner_corrections : Int32) (v_world_learner_deceived : Int32) (v_world_learner_asked_size : Int32) (v_world_learner_table_letters : Int32) (v_world_learner_table_prefixes_size : Int32) (v_world_learner_table_prefixes_longest : Int32) (v_world_learner_table_prefixes_words : (Nat → Int64)) (v_world_learner_table_suffixes_size : Int32) (v_world_learner_table_suffixes_longest : Int32) (v_world_learner_table_suffixes_words : (Nat → Int64)) (v_world_learner_table_known : (Nat → Int32)) (v_world_learner_table_bits : (Nat → Int32)) (v_world_learner_hypothesis_size : Int32) (v_world_learner_hypothesis_letters : Int32) (v_world_learner_hypothesis_moves : (Nat → Int32)) (v_world_learner_hypothesis_finals : (Nat → Int32)) : va_W := [(q_this, .inr (8, [.ref q_world, .ref q_slots, .ref q_text, .int v_textLength, .ref q_search])), (q_world, .inr (7, [.ref q_world_teacher, .ref q_world_learner])), (q_world_teacher, .inr (5, [.ref q_world_teacher_machine, .ref q_world_teacher_lies, .int v_world_teacher_lieCount])), (q_world_teacher_machine, .inr (0, [.ref q_world_teacher_machine_moves, .ref q_world_teacher_machine_finals, .int v_world_teacher_machine_size, .int v_world_teacher_machine_letters])), (q_world_teacher_machine_finals, .inl (cI, 8, .inl v_world_teacher_machine_finals)), (q_world_learner, .inr (1, [.ref q_world_learner_asked, .ref q_world_learner_table, .ref q_world_learner_hypothesis, .ref q_world_learner_representatives, .int v_world_learner_mode, .int v_world_learner_budget, .int v_world_learner_formed, .long v_world_learner_counterexample, .int v_world_learner_corrections, .int v_world_learner_deceived])), (q_world_learner_asked, .inr (2, [.ref q_world_learner_asked_entries, .int v_world_learner_asked_size])), (q_world_learner_table, .inr (4, [.ref q_world_learner_table_prefixes, .ref q_world_learner_table_suffixes, .ref q_world_learner_table_known, .ref q_world_learner_table_bits, .int v_world_learner_table_letters])), (q_world_learner_table_prefixes, .inr (6, [.ref q_world_learner_table_prefixes_words, .int v_world_learner_table_prefixes_size, .int v_world_learner_table_prefixes_longest])), (q_world_learner_table_prefixes_words, .inl (cJ, 40, .inr (.inl v_world_learner_table_prefixes_words))), (q_world_learner_table_suffixes, .inr (6, [.ref q_world_learner_table_suffixes_words, .int v_world_learner_table_suffixes_size, .int v_world_learner_table_suffixes_longest])), (q_world_learner_table_suffixes_words, .inl (cJ, 16, .inr (.inl v_world_learner_table_suffixes_words))), (q_world_learner_table_known, .inl (cI, 160, .inl v_world_learner_table_known)), (q_world_learner_table_bits, .inl (cI, 160, .inl v_world_learner_table_bits)), (q_world_learner_hypothesis, .inr (0, [.ref q_world_learner_hypothesis_moves, .ref q_world_learner_hypothesis_finals, .int v_world_learner_hypothesis_size, .int v_world_learner_hypothesis_letters])), (q_world_learner_hypothesis_moves, .inl (cI, 120, .inl v_world_learner_hypothesis_moves)), (q_world_learner_hypothesis_finals, .inl (cI, 40, .inl v_world_learner_hypothesis_finals))]
abbrev rm_TL_setFinal : Room := { frames := 6, cells := 0, slots := 0, locals := 128 }
def f_TL_setFinal (x1 : Int32) (x2 : Int32) (v_world_teacher_machine_size : Int32) (v_world_teacher_machine_letters : Int32) (v_world_teacher_machine_finals : (Nat → Int32)) (v_world_learner_formed : Int32) (v_world_learner_counterexample : Int64) (v_world_learner_corrections : Int32) (v_world_learner_deceived : Int32) (v_world_learner_asked_size : Int32) (v_world_learner_table_letters : Int32) (v_world_learner_table_prefixes_size : Int32) (v_world_learner_table_prefixes_longest : Int32) (v_world_learner_table_prefixes_words : (Nat → Int64)) (v_world_learner_table_suffixes_size : Int32) (v_world_learner_table_suffixes_longest : Int32) (v_world_learner_table_suffixes_words : (Nat → Int64)) (v_world_learner_table_known : (Nat → Int32)) (v_world_learner_table_bits : (Nat → Int32)) (v_world_learner_hypothesis_size : Int32) (v_world_learner_hypothesis_letters : Int32) (v_world_learner_hypothesis_moves : (Nat → Int32)) (v_world_learner_hypothesis_finals : (Nat → Int32)) : Option (Int32 × (Nat → Int32) × Int32 × (Nat → Int64) × Int32 × Int32 × (Nat → Int64) × Int32 × Int32 × (Nat → Int32) × (Nat → Int32) × Int32 × (Nat → Int32) × (Nat → Int32) × Int32 × Int32 × Int32 × Int64 × Int32 × Int32) :=
 (bd1 (f_Au_hasState x1 v_world_teacher_machine_size) (fun r =>
 (if r = 0 then
 (some ((-2 : Int32), v_world_teacher_machine_finals, v_world_learner_asked_size, v_world_learner_table_prefixes_words, v_world_learner_table_prefixes_size, v_world_learner_table_prefixes_longest, v_world_learner_table_suffixes_words, v_world_learner_table_suffixes_size, v_world_learner_table_suffixes_longest, v_world_learner_table_known, v_world_learner_table_bits, v_world_learner_table_letters, v_world_learner_hypothesis_moves, v_world_learner_hypothesis_finals, v_world_learner_hypothesis_size, v_world_learner_hypothesis_letters, v_world_learner_formed, v_world_learner_counterexample, v_world_learner_corrections, v_world_learner_deceived))
 else
 (bnd (if x2 = 0 then (0 : Int32) else (1 : Int32)) (fun t =>
 (gIn x1 8
 (if (v_world_teacher_machine_finals x1.toNatClampNeg) = t then
 (some ((-3 : Int32), v_world_teacher_machine_finals, v_world_learner_asked_size, v_world_learner_table_prefixes_words, v_world_learner_table_prefixes_size, v_world_learner_table_prefixes_longest, v_world_learner_table_suffixes_words, v_world_learner_table_suffixes_size, v_world_learner_table_suffixes_longest, v_world_learner_table_known, v_world_learner_table_bits, v_world_learner_table_letters, v_world_learner_hypothesis_moves, v_world_learner_hypothesis_finals, v_world_learner_hypothesis_size, v_world_learner_hypothesis_letters, v_world_learner_formed, v_world_learner_counterexample, v_world_learner_corrections, v_world_learner_deceived))
 else
 (gIn x1 8
 (bnd (upd v_world_teacher_machine_finals x1.toNatClampNeg t) (fun v_world_teacher_machine_finals_1 =>
 (bd18 (f_Wo_startLearner v_world_teacher_machine_letters v_world_learner_table_prefixes_words v_world_learner_table_suffixes_words v_world_learner_table_known v_world_learner_table_bits v_world_learner_hypothesis_moves v_world_learner_hypothesis_finals) (fun v_world_learner_asked_size_1 v_world_learner_table_prefixes_words_1 v_world_learner_table_prefixes_size_1 v_world_learner_table_prefixes_longest_1 v_world_learner_table_suffixes_words_1 v_world_learner_table_suffixes_size_1 v_world_learner_table_suffixes_longest_1 v_world_learner_table_known_1 v_world_learner_table_bits_1 v_world_learner_table_letters_1 v_world_learner_hypothesis_moves_1 v_world_learner_hypothesis_finals_1 v_world_learner_hypothesis_size_1 v_world_learner_hypothesis_letters_1 v_world_learner_formed_1 v_world_learner_counterexample_1 v_world_learner_corrections_1 v_world_learner_deceived_1 =>
 (bd1 (f_Au_countFinals 8 v_world_teacher_machine_size v_world_teacher_machine_finals_1) (fun r_1 =>
 (some (r_1, v_world_teacher_machine_finals_1, v_world_learner_asked_size_1, v_world_learner_table_prefixes_words_1, v_world_learner_table_prefixes_size_1, v_world_learner_table_prefixes_longest_1, v_world_learner_table_suffixes_words_1, v_world_learner_table_suffixes_size_1, v_world_learner_table_suffixes_longest_1, v_world_learner_table_known_1, v_world_learner_table_bits_1, v_world_learner_table_letters_1, v_world_learner_hypothesis_moves_1, v_world_learner_hypothesis_finals_1, v_world_learner_hypothesis_size_1, v_world_learner_hypothesis_letters_1, v_world_learner_formed_1, v_world_learner_counterexample_1, v_world_learner_corrections_1, v_world_learner_deceived_1))))))))))))))))
abbrev ws_Ws_join (cI cJ cZ : ClassId) : va_W := []
abbrev rm_Ws_join : Room := { frames := 1, cells := 0, slots := 0, locals := 24 }
def f_Ws_join (x0 : Int64) (x2 : Int64) : Option (Int64) :=
 (bd1 (f_Ws_lengthOf x0) (fun r =>
 (bnd ((2 : Int32) * r) (fun x4 =>
 (some ((x0 ^^^ ((1 : Int64) <<< (x4.toInt64 &&& 63))) ||| (x2 <<< (x4.toInt64 &&& 63))))))))
abbrev ws_Ws_single (cI cJ cZ : ClassId) : va_W := []
abbrev rm_Ws_single : Room := { frames := 0, cells := 0, slots := 0, locals := 0 }
def f_Ws_single (x0 : Int32) : Option (Int64) :=
 (some ((4 : Int32) ||| x0).toInt64)
abbrev ws_Ws_append (cI cJ cZ : ClassId) : va_W := []
abbrev rm_Ws_append : Room := { frames := 2, cells := 0, slots := 0, locals := 48 }
def f_Ws_append (x0 : Int64) (x2 : Int32) : Option (Int64) :=
 (bd1 (f_Ws_single x2) (fun r =>
 (bd1 (f_Ws_join x0 r) (fun r_1 =>
 (some r_1)))))
abbrev ws_TL_textWord (cI cJ cZ : ClassId) (q_this q_world q_slots q_text q_search q_world_teacher q_world_learner q_world_teacher_machine q_world_teacher_lies q_world_teacher_machine_moves q_world_teacher_machine_finals : Nat) (v_textLength : Int32) (v_world_teacher_lieCount : Int32) (v_world_teacher_machine_size : Int32) (v_world_teacher_machine_letters : Int32) (v_text : (Nat → Int32)) : va_W := [(q_this, .inr (8, [.ref q_world, .ref q_slots, .ref q_text, .int v_textLength, .ref q_search])), (q_world, .inr (7, [.ref q_world_teacher, .ref q_world_learner])), (q_world_teacher, .inr (5, [.ref q_world_teacher_machine, .ref q_world_teacher_lies, .int v_world_teacher_lieCount])), (q_world_teacher_machine, .inr (0, [.ref q_world_teacher_machine_moves, .ref q_world_teacher_machine_finals, .int v_world_teacher_machine_size, .int v_world_teacher_machine_letters])), (q_text, .inl (cI, 16, .inl v_text))]
abbrev rm_TL_textWord : Room := { frames := 3, cells := 0, slots := 0, locals := 70 }
def f_TL_textWord_L4 (v_textLength : Int32) (v_world_teacher_machine_letters : Int32) (v_text : (Nat → Int32)) (K rec : Int64 → Int32 → Option (Int64)) (x1 : Int64) (x3 : Int32) : Option (Int64) :=
 (if v_textLength ≤ x3 then
 (K x1 x3)
 else
 (gIn x3 16
 (bnd ((v_text x3.toNatClampNeg) - (97 : Int32)) (fun x4 =>
 (bd1 (f_Au_hasLetter x4 v_world_teacher_machine_letters) (fun r =>
 (if r = 0 then
 (some (-1 : Int64))
 else
 (bd1 (f_Ws_append x1 x4) (fun r_1 =>
 (bnd (x3 + 1) (fun x3_1 =>
 (rec r_1 x3_1))))))))))))
def f_TL_textWord (v_textLength : Int32) (v_world_teacher_machine_letters : Int32) (v_text : (Nat → Int32)) : Option (Int64) :=
 (itr (fun _ _ => none) (f_TL_textWord_L4 v_textLength v_world_teacher_machine_letters v_text (fun x1 x3 =>
 (some x1))) FU (1 : Int64) (0 : Int32))
abbrev ws_Te_placeOfLie (cI cJ cZ : ClassId) (q_this q_machine q_lies : Nat) (v_lieCount : Int32) (v_lies : (Nat → Int64)) : va_W := [(q_this, .inr (5, [.ref q_machine, .ref q_lies, .int v_lieCount])), (q_lies, .inl (cJ, 4, .inr (.inl v_lies)))]
abbrev rm_Te_placeOfLie : Room := { frames := 0, cells := 0, slots := 0, locals := 0 }
def f_Te_placeOfLie_L2 (v_lieCount : Int32) (v_lies : (Nat → Int64)) (x1 : Int64) (K rec : Int32 → Option (Int32)) (x3 : Int32) : Option (Int32) :=
 (if v_lieCount ≤ x3 then
 (K x3)
 else
 (gIn x3 4
 (if (v_lies x3.toNatClampNeg) = x1 then
 (some x3)
 else
 (bnd (x3 + 1) (fun x3_1 =>
 (rec x3_1))))))
def f_Te_placeOfLie (x1 : Int64) (v_lieCount : Int32) (v_lies : (Nat → Int64)) : Option (Int32) :=
 (itr (fun _ => none) (f_Te_placeOfLie_L2 v_lieCount v_lies x1 (fun x3 =>
 (some (-1 : Int32)))) FU (0 : Int32))
abbrev ws_Te_turnLie (cI cJ cZ : ClassId) (q_this q_machine q_lies : Nat) (v_lieCount : Int32) (v_lies : (Nat → Int64)) : va_W := [(q_this, .inr (5, [.ref q_machine, .ref q_lies, .int v_lieCount])), (q_lies, .inl (cJ, 4, .inr (.inl v_lies)))]
abbrev rm_Te_turnLie : Room := { frames := 1, cells := 0, slots := 0, locals := 23 }
def f_Te_turnLie (x1 : Int64) (v_lieCount : Int32) (v_lies : (Nat → Int64)) : Option (Int32 × (Nat → Int64) × Int32) :=
 (bd1 (f_Te_placeOfLie x1 v_lieCount v_lies) (fun r =>
 (if r = (-1 : Int32) then
 (if v_lieCount < (4 : Int32) then
 (gIn v_lieCount 4
 (bnd (vp_updL v_lies v_lieCount.toNatClampNeg x1) (fun v_lies_1 =>
 (bnd (v_lieCount + (1 : Int32)) (fun v_lieCount_1 =>
 (some ((1 : Int32), v_lies_1, v_lieCount_1)))))))
 else
 (some ((0 : Int32), v_lies, v_lieCount)))
 else
 (bnd (v_lieCount - (1 : Int32)) (fun v_lieCount_2 =>
 (gIn v_lieCount_2 4
 (gIn r 4
 (bnd (vp_updL v_lies r.toNatClampNeg (v_lies v_lieCount_2.toNatClampNeg)) (fun v_lies_2 =>
 (some ((1 : Int32), v_lies_2, v_lieCount_2)))))))))))
abbrev ws_TL_lie (cI cJ cZ : ClassId) (q_this q_world q_slots q_text q_search q_world_teacher q_world_learner q_world_teacher_machine q_world_teacher_lies q_world_teacher_machine_moves q_world_teacher_machine_finals q_world_learner_asked q_world_learner_table q_world_learner_hypothesis q_world_learner_representatives q_world_learner_asked_entries q_world_learner_table_prefixes q_world_learner_table_suffixes q_world_learner_table_known q_world_learner_table_bits q_world_learner_table_prefixes_words q_world_learner_table_suffixes_words q_world_learner_hypothesis_moves q_world_learner_hypothesis_finals : Nat) (v_textLength : Int32) (v_world_teacher_lieCount : Int32) (v_world_teacher_machine_size : Int32) (v_world_teacher_machine_letters : Int32) (v_world_teacher_lies : (Nat → Int64)) (v_world_learner_mode : Int32) (v_world_learner_budget : Int32) (v_world_learner_formed : Int32) (v_world_learner_counterexample : Int64) (v_world_learner_corrections : Int32) (v_world_learner_deceived : Int32) (v_world_learner_asked_size : Int32) (v_world_learner_table_letters : Int32) (v_world_learner_table_prefixes_size : Int32) (v_world_learner_table_prefixes_longest : Int32) (v_world_learner_table_prefixes_words : (Nat → Int64)) (v_world_learner_table_suffixes_size : Int32) (v_world_learner_table_suffixes_longest : Int32) (v_world_learner_table_suffixes_words : (Nat → Int64)) (v_world_learner_table_known : (Nat → Int32)) (v_world_learner_table_bits : (Nat → Int32)) (v_world_learner_hypothesis_size : Int32) (v_world_learner_hypothesis_letters : Int32) (v_world_learner_hypothesis_moves : (Nat → Int32)) (v_world_learner_hypothesis_finals : (Nat → Int32)) (v_text : (Nat → Int32)) : va_W := [(q_this, .inr (8, [.ref q_world, .ref q_slots, .ref q_text, .int v_textLength, .ref q_search])), (q_world, .inr (7, [.ref q_world_teacher, .ref q_world_learner])), (q_world_teacher, .inr (5, [.ref q_world_teacher_machine, .ref q_world_teacher_lies, .int v_world_teacher_lieCount])), (q_world_teacher_machine, .inr (0, [.ref q_world_teacher_machine_moves, .ref q_world_teacher_machine_finals, .int v_world_teacher_machine_size, .int v_world_teacher_machine_letters])), (q_world_teacher_lies, .inl (cJ, 4, .inr (.inl v_world_teacher_lies))), (q_world_learner, .inr (1, [.ref q_world_learner_asked, .ref q_world_learner_table, .ref q_world_learner_hypothesis, .ref q_world_learner_representatives, .int v_world_learner_mode, .int v_world_learner_budget, .int v_world_learner_formed, .long v_world_learner_counterexample, .int v_world_learner_corrections, .int v_world_learner_deceived])), (q_world_learner_asked, .inr (2, [.ref q_world_learner_asked_entries, .int v_world_learner_asked_size])), (q_world_learner_table, .inr (4, [.ref q_world_learner_table_prefixes, .ref q_world_learner_table_suffixes, .ref q_world_learner_table_known, .ref q_world_learner_table_bits, .int v_world_learner_table_letters])), (q_world_learner_table_prefixes, .inr (6, [.ref q_world_learner_table_prefixes_words, .int v_world_learner_table_prefixes_size, .int v_world_learner_table_prefixes_longest])), (q_world_learner_table_prefixes_words, .inl (cJ, 40, .inr (.inl v_world_learner_table_prefixes_words))), (q_world_learner_table_suffixes, .inr (6, [.ref q_world_learner_table_suffixes_words, .int v_world_learner_table_suffixes_size, .int v_world_learner_table_suffixes_longest])), (q_world_learner_table_suffixes_words, .inl (cJ, 16, .inr (.inl v_world_learner_table_suffixes_words))), (q_world_learner_table_known, .inl (cI, 160, .inl v_world_learner_table_known)), (q_world_learner_table_bits, .inl (cI, 160, .inl v_world_learner_table_bits)), (q_world_learner_hypothesis, .inr (0, [.ref q_world_learner_hypothesis_moves, .ref q_world_learner_hypothesis_finals, .int v_world_learner_hypothesis_size, .int v_world_learner_hypothesis_letters])), (q_world_learner_hypothesis_moves, .inl (cI, 120, .inl v_world_learner_hypothesis_moves)), (q_world_learner_hypothesis_finals, .inl (cI, 40, .inl v_world_learner_hypothesis_finals)), (q_text, .inl (cI, 16, .inl v_text))]
abbrev rm_TL_lie : Room := { frames := 6, cells := 0, slots := 0, locals := 128 }
def f_TL_lie (v_textLength : Int32) (v_world_teacher_lieCount : Int32) (v_world_teacher_machine_letters : Int32) (v_world_teacher_lies : (Nat → Int64)) (v_world_learner_formed : Int32) (v_world_learner_counterexample : Int64) (v_world_learner_corrections : Int32) (v_world_learner_deceived : Int32) (v_world_learner_asked_size : Int32) (v_world_learner_table_letters : Int32) (v_world_learner_table_prefixes_size : Int32) (v_world_learner_table_prefixes_longest : Int32) (v_world_learner_table_prefixes_words : (Nat → Int64)) (v_world_learner_table_suffixes_size : Int32) (v_world_learner_table_suffixes_longest : Int32) (v_world_learner_table_suffixes_words : (Nat → Int64)) (v_world_learner_table_known : (Nat → Int32)) (v_world_learner_table_bits : (Nat → Int32)) (v_world_learner_hypothesis_size : Int32) (v_world_learner_hypothesis_letters : Int32) (v_world_learner_hypothesis_moves : (Nat → Int32)) (v_world_learner_hypothesis_finals : (Nat → Int32)) (v_text : (Nat → Int32)) : Option (Int32 × (Nat → Int64) × Int32 × Int32 × (Nat → Int64) × Int32 × Int32 × (Nat → Int64) × Int32 × Int32 × (Nat → Int32) × (Nat → Int32) × Int32 × (Nat → Int32) × (Nat → Int32) × Int32 × Int32 × Int32 × Int64 × Int32 × Int32) :=
 (bd1 (f_TL_textWord v_textLength v_world_teacher_machine_letters v_text) (fun r =>
 (if r = (-1 : Int64) then
 (some ((-2 : Int32), v_world_teacher_lies, v_world_teacher_lieCount, v_world_learner_asked_size, v_world_learner_table_prefixes_words, v_world_learner_table_prefixes_size, v_world_learner_table_prefixes_longest, v_world_learner_table_suffixes_words, v_world_learner_table_suffixes_size, v_world_learner_table_suffixes_longest, v_world_learner_table_known, v_world_learner_table_bits, v_world_learner_table_letters, v_world_learner_hypothesis_moves, v_world_learner_hypothesis_finals, v_world_learner_hypothesis_size, v_world_learner_hypothesis_letters, v_world_learner_formed, v_world_learner_counterexample, v_world_learner_corrections, v_world_learner_deceived))
 else
 (bd3 (f_Te_turnLie r v_world_teacher_lieCount v_world_teacher_lies) (fun r_1 v_world_teacher_lies_1 v_world_teacher_lieCount_1 =>
 (if r_1 = 0 then
 (some ((-5 : Int32), v_world_teacher_lies_1, v_world_teacher_lieCount_1, v_world_learner_asked_size, v_world_learner_table_prefixes_words, v_world_learner_table_prefixes_size, v_world_learner_table_prefixes_longest, v_world_learner_table_suffixes_words, v_world_learner_table_suffixes_size, v_world_learner_table_suffixes_longest, v_world_learner_table_known, v_world_learner_table_bits, v_world_learner_table_letters, v_world_learner_hypothesis_moves, v_world_learner_hypothesis_finals, v_world_learner_hypothesis_size, v_world_learner_hypothesis_letters, v_world_learner_formed, v_world_learner_counterexample, v_world_learner_corrections, v_world_learner_deceived))
 else
 (bd18 (f_Wo_startLearner v_world_teacher_machine_letters v_world_learner_table_prefixes_words v_world_learner_table_suffixes_words v_world_learner_table_known v_world_learner_table_bits v_world_learner_hypothesis_moves v_world_learner_hypothesis_finals) (fun v_world_learner_asked_size_1 v_world_learner_table_prefixes_words_1 v_world_learner_table_prefixes_size_1 v_world_learner_table_prefixes_longest_1 v_world_learner_table_suffixes_words_1 v_world_learner_table_suffixes_size_1 v_world_learner_table_suffixes_longest_1 v_world_learner_table_known_1 v_world_learner_table_bits_1 v_world_learner_table_letters_1 v_world_learner_hypothesis_moves_1 v_world_learner_hypothesis_finals_1 v_world_learner_hypothesis_size_1 v_world_learner_hypothesis_letters_1 v_world_learner_formed_1 v_world_learner_counterexample_1 v_world_learner_corrections_1 v_world_learner_deceived_1 =>
 (some (v_world_teacher_lieCount_1, v_world_teacher_lies_1, v_world_teacher_lieCount_1, v_world_learner_asked_size_1, v_world_learner_table_prefixes_words_1, v_world_learner_table_prefixes_size_1, v_world_learner_table_prefixes_longest_1, v_world_learner_table_suffixes_words_1, v_world_learner_table_suffixes_size_1, v_world_learner_table_suffixes_longest_1, v_world_learner_table_known_1, v_world_learner_table_bits_1, v_world_learner_table_letters_1, v_world_learner_hypothesis_moves_1, v_world_learner_hypothesis_finals_1, v_world_learner_hypothesis_size_1, v_world_learner_hypothesis_letters_1, v_world_learner_formed_1, v_world_learner_counterexample_1, v_world_learner_corrections_1, v_world_learner_deceived_1))))))))))
abbrev ws_Au_successors (cI cJ cZ : ClassId) (q_this q_moves q_finals : Nat) (n_moves : Nat) (v_size : Int32) (v_letters : Int32) (v_moves : (Nat → Int32)) : va_W := [(q_this, .inr (0, [.ref q_moves, .ref q_finals, .int v_size, .int v_letters])), (q_moves, .inl (cI, n_moves, .inl v_moves))]
abbrev rm_Au_successors : Room := { frames := 1, cells := 0, slots := 0, locals := 22 }
def f_Au_successors_L17 (n_moves : Nat) (v_letters : Int32) (v_moves : (Nat → Int32)) (x1 : Int64) (x5 : Int32) (K rec : Int64 → Int32 → Option (Int64)) (x3 : Int64) (x6 : Int32) : Option (Int64) :=
 (if v_letters ≤ x6 then
 (K x3 x6)
 else
 (bd1 (f_Au_next n_moves x5 x6 v_moves) (fun r =>
 (bnd (x3 ||| (((x1 >>> (x5.toInt64 &&& 63)) &&& (1 : Int64)) <<< (r.toInt64 &&& 63))) (fun x3_1 =>
 (bnd (x6 + 1) (fun x6_1 =>
 (rec x3_1 x6_1))))))))
def f_Au_successors_L5 (n_moves : Nat) (v_size : Int32) (v_letters : Int32) (v_moves : (Nat → Int32)) (x1 : Int64) (K rec : Int64 → Int32 → Option (Int64)) (x3 : Int64) (x5 : Int32) : Option (Int64) :=
 (if v_size ≤ x5 then
 (K x3 x5)
 else
 (itr (fun _ _ => none) (f_Au_successors_L17 n_moves v_letters v_moves x1 x5 (fun x3_1 x6 =>
 (bnd (x5 + 1) (fun x5_1 =>
 (rec x3_1 x5_1))))) FU x3 (0 : Int32)))
def f_Au_successors (n_moves : Nat) (x1 : Int64) (v_size : Int32) (v_letters : Int32) (v_moves : (Nat → Int32)) : Option (Int64) :=
 (itr (fun _ _ => none) (f_Au_successors_L5 n_moves v_size v_letters v_moves x1 (fun x3 x5 =>
 (some x3))) FU (0 : Int64) (0 : Int32))
abbrev ws_Au_distanceTo (cI cJ cZ : ClassId) (q_this q_moves q_finals : Nat) (n_moves : Nat) (v_size : Int32) (v_letters : Int32) (v_moves : (Nat → Int32)) : va_W := [(q_this, .inr (0, [.ref q_moves, .ref q_finals, .int v_size, .int v_letters])), (q_moves, .inl (cI, n_moves, .inl v_moves))]
abbrev rm_Au_distanceTo : Room := { frames := 2, cells := 0, slots := 0, locals := 48 }
def f_Au_distanceTo_L5 (n_moves : Nat) (v_size : Int32) (v_letters : Int32) (v_moves : (Nat → Int32)) (x1 : Int32) (K rec : Int64 → Int32 → Option (Int32)) (x2 : Int64) (x4 : Int32) : Option (Int32) :=
 (if v_size ≤ x4 then
 (K x2 x4)
 else
 (if ((x2 >>> (x1.toInt64 &&& 63)) &&& (1 : Int64)) = (1 : Int64) then
 (some x4)
 else
 (bd1 (f_Au_successors n_moves x2 v_size v_letters v_moves) (fun r =>
 (bnd (x2 ||| r) (fun x2_1 =>
 (bnd (x4 + 1) (fun x4_1 =>
 (rec x2_1 x4_1)))))))))
def f_Au_distanceTo (n_moves : Nat) (x1 : Int32) (v_size : Int32) (v_letters : Int32) (v_moves : (Nat → Int32)) : Option (Int32) :=
 (itr (fun _ _ => none) (f_Au_distanceTo_L5 n_moves v_size v_letters v_moves x1 (fun x2 x4 =>
 (some (-1 : Int32)))) FU (1 : Int64) (0 : Int32))
abbrev ws_Au_hasProperty (cI cJ cZ : ClassId) (q_this q_moves q_finals : Nat) (v_size : Int32) (v_letters : Int32) : va_W := [(q_this, .inr (0, [.ref q_moves, .ref q_finals, .int v_size, .int v_letters]))]
abbrev rm_Au_hasProperty : Room := { frames := 1, cells := 0, slots := 0, locals := 21 }
def f_Au_hasProperty_J18 : Option (Int32) :=
 (some (1 : Int32))
def f_Au_hasProperty (x1 : Int32) (v_letters : Int32) : Option (Int32) :=
 (bd1 (f_Au_hasLetter x1 v_letters) (fun r =>
 (if r = 0 then
 (if x1 = (3 : Int32) then
 f_Au_hasProperty_J18
 else
 (bnd (if x1 = (4 : Int32) then (1 : Int32) else (0 : Int32)) (fun t =>
 (gB t (some t)))))
 else
 f_Au_hasProperty_J18)))
abbrev ws_Au_property (cI cJ cZ : ClassId) (q_this q_moves q_finals : Nat) (n_moves n_finals : Nat) (v_size : Int32) (v_letters : Int32) (v_moves : (Nat → Int32)) (v_finals : (Nat → Int32)) : va_W := [(q_this, .inr (0, [.ref q_moves, .ref q_finals, .int v_size, .int v_letters])), (q_moves, .inl (cI, n_moves, .inl v_moves)), (q_finals, .inl (cI, n_finals, .inl v_finals))]
abbrev rm_Au_property : Room := { frames := 1, cells := 0, slots := 0, locals := 22 }
def f_Au_property (n_moves : Nat) (n_finals : Nat) (x1 : Int32) (x2 : Int32) (v_moves : (Nat → Int32)) (v_finals : (Nat → Int32)) : Option (Int32) :=
 (if x2 = (3 : Int32) then
 (gIn x1 n_finals
 (some (v_finals x1.toNatClampNeg)))
 else
 (bd1 (f_Au_next n_moves x1 x2 v_moves) (fun r =>
 (some r))))
abbrev ws_TL_state (cI cJ cZ : ClassId) (q_this q_world q_slots q_text q_search q_world_teacher q_world_learner q_world_teacher_machine q_world_teacher_lies q_world_teacher_machine_moves q_world_teacher_machine_finals : Nat) (v_textLength : Int32) (v_world_teacher_lieCount : Int32) (v_world_teacher_machine_size : Int32) (v_world_teacher_machine_letters : Int32) (v_world_teacher_machine_moves : (Nat → Int32)) (v_world_teacher_machine_finals : (Nat → Int32)) : va_W := [(q_this, .inr (8, [.ref q_world, .ref q_slots, .ref q_text, .int v_textLength, .ref q_search])), (q_world, .inr (7, [.ref q_world_teacher, .ref q_world_learner])), (q_world_teacher, .inr (5, [.ref q_world_teacher_machine, .ref q_world_teacher_lies, .int v_world_teacher_lieCount])), (q_world_teacher_machine, .inr (0, [.ref q_world_teacher_machine_moves, .ref q_world_teacher_machine_finals, .int v_world_teacher_machine_size, .int v_world_teacher_machine_letters])), (q_world_teacher_machine_moves, .inl (cI, 24, .inl v_world_teacher_machine_moves)), (q_world_teacher_machine_finals, .inl (cI, 8, .inl v_world_teacher_machine_finals))]
abbrev rm_TL_state : Room := { frames := 3, cells := 0, slots := 0, locals := 72 }
def f_TL_state (x1 : Int32) (x2 : Int32) (v_world_teacher_machine_size : Int32) (v_world_teacher_machine_letters : Int32) (v_world_teacher_machine_moves : (Nat → Int32)) (v_world_teacher_machine_finals : (Nat → Int32)) : Option (Int32) :=
 (bd1 (f_Au_hasState x1 v_world_teacher_machine_size) (fun r =>
 (if r = 0 then
 (some (-2 : Int32))
 else
 (bd1 (f_Au_hasProperty x2 v_world_teacher_machine_letters) (fun r_1 =>
 (if r_1 = 0 then
 (some (-2 : Int32))
 else
 (if x2 = (4 : Int32) then
 (bd1 (f_Au_distanceTo 24 x1 v_world_teacher_machine_size v_world_teacher_machine_letters v_world_teacher_machine_moves) (fun r_3 =>
 (some r_3)))
 else
 (bd1 (f_Au_property 24 8 x1 x2 v_world_teacher_machine_moves v_world_teacher_machine_finals) (fun r_2 =>
 (some r_2))))))))))
abbrev ws_Se_meet (cI cJ cZ : ClassId) (q_this q_seen q_queue q_origin q_arrival q_letters : Nat) (v_length : Int32) (v_queued : Int32) (v_seen : (Nat → Int32)) (v_queue : (Nat → Int32)) (v_origin : (Nat → Int32)) (v_arrival : (Nat → Int32)) : va_W := [(q_this, .inr (3, [.ref q_seen, .ref q_queue, .ref q_origin, .ref q_arrival, .ref q_letters, .int v_length, .int v_queued])), (q_seen, .inl (cI, 320, .inl v_seen)), (q_queue, .inl (cI, 320, .inl v_queue)), (q_origin, .inl (cI, 320, .inl v_origin)), (q_arrival, .inl (cI, 320, .inl v_arrival))]
abbrev rm_Se_meet : Room := { frames := 0, cells := 0, slots := 0, locals := 0 }
def f_Se_meet (x1 : Int32) (x2 : Int32) (x3 : Int32) (x4 : Int32) (v_queued : Int32) (v_seen : (Nat → Int32)) (v_queue : (Nat → Int32)) (v_origin : (Nat → Int32)) (v_arrival : (Nat → Int32)) : Option ((Nat → Int32) × (Nat → Int32) × (Nat → Int32) × (Nat → Int32) × Int32) :=
 (bnd ((x1 * (8 : Int32)) + x2) (fun x5 =>
 (gIn x5 320
 (if (v_seen x5.toNatClampNeg) = 0 then
 (if (320 : Int32) ≤ v_queued then
 (some (v_seen, v_queue, v_origin, v_arrival, v_queued))
 else
 (gIn x5 320
 (bnd (upd v_seen x5.toNatClampNeg (1 : Int32)) (fun v_seen_1 =>
 (gIn v_queued 320
 (bnd (upd v_queue v_queued.toNatClampNeg x5) (fun v_queue_1 =>
 (gIn v_queued 320
 (bnd (upd v_origin v_queued.toNatClampNeg x3) (fun v_origin_1 =>
 (gIn v_queued 320
 (bnd (upd v_arrival v_queued.toNatClampNeg x4) (fun v_arrival_1 =>
 (bnd (v_queued + (1 : Int32)) (fun v_queued_1 =>
 (some (v_seen_1, v_queue_1, v_origin_1, v_arrival_1, v_queued_1)))))))))))))))))
 else
 (some (v_seen, v_queue, v_origin, v_arrival, v_queued))))))
abbrev ws_Se_traceBack (cI cJ cZ : ClassId) (q_this q_seen q_queue q_origin q_arrival q_letters : Nat) (v_length : Int32) (v_queued : Int32) (v_origin : (Nat → Int32)) (v_arrival : (Nat → Int32)) (v_letters : (Nat → Int32)) : va_W := [(q_this, .inr (3, [.ref q_seen, .ref q_queue, .ref q_origin, .ref q_arrival, .ref q_letters, .int v_length, .int v_queued])), (q_origin, .inl (cI, 320, .inl v_origin)), (q_arrival, .inl (cI, 320, .inl v_arrival)), (q_letters, .inl (cI, 320, .inl v_letters))]
abbrev rm_Se_traceBack : Room := { frames := 0, cells := 0, slots := 0, locals := 0 }
def f_Se_traceBack_L7 (v_origin : (Nat → Int32)) (K rec : Int32 → Int32 → Option ((Nat → Int32) × Int32)) (x2 : Int32) (v_length : Int32) : Option ((Nat → Int32) × Int32) :=
 (if x2 ≤ 0 then
 (K x2 v_length)
 else
 (if (320 : Int32) ≤ v_length then
 (K x2 v_length)
 else
 (bnd (v_length + (1 : Int32)) (fun v_length_1 =>
 (gIn x2 320
 (bnd (v_origin x2.toNatClampNeg) (fun x2_1 =>
 (rec x2_1 v_length_1))))))))
def f_Se_traceBack_L50 (v_origin : (Nat → Int32)) (v_arrival : (Nat → Int32)) (K rec : Int32 → Int32 → (Nat → Int32) → Option ((Nat → Int32) × Int32)) (x2 : Int32) (x3 : Int32) (v_letters : (Nat → Int32)) : Option ((Nat → Int32) × Int32) :=
 (if x3 < 0 then
 (K x2 x3 v_letters)
 else
 (gIn x2 320
 (gIn x3 320
 (bnd (upd v_letters x3.toNatClampNeg (v_arrival x2.toNatClampNeg)) (fun v_letters_1 =>
 (gIn x2 320
 (bnd (v_origin x2.toNatClampNeg) (fun x2_1 =>
 (bnd (x3 + (-1)) (fun x3_1 =>
 (rec x2_1 x3_1 v_letters_1)))))))))))
def f_Se_traceBack (x1 : Int32) (v_origin : (Nat → Int32)) (v_arrival : (Nat → Int32)) (v_letters : (Nat → Int32)) : Option ((Nat → Int32) × Int32) :=
 (itr (fun _ _ => none) (f_Se_traceBack_L7 v_origin (fun x2 v_length_1 =>
 (bnd (v_length_1 - (1 : Int32)) (fun x3 =>
 (itr (fun _ _ _ => none) (f_Se_traceBack_L50 v_origin v_arrival (fun x2_1 x3_1 v_letters_1 =>
 (some (v_letters_1, v_length_1)))) FU x1 x3 v_letters))))) FU x1 (0 : Int32))
abbrev ws_Se_findsDifference (cI cJ cZ : ClassId) (q_this q_seen q_queue q_origin q_arrival q_letters q_o1 q_o1_moves q_o1_finals q_o3 q_o3_moves q_o3_finals : Nat) (n_o1_moves n_o1_finals n_o3_moves n_o3_finals : Nat) (v_length : Int32) (v_queued : Int32) (v_seen : (Nat → Int32)) (v_queue : (Nat → Int32)) (v_origin : (Nat → Int32)) (v_arrival : (Nat → Int32)) (v_letters : (Nat → Int32)) (v_o1_size : Int32) (v_o1_letters : Int32) (v_o1_moves : (Nat → Int32)) (v_o1_finals : (Nat → Int32)) (v_o3_size : Int32) (v_o3_letters : Int32) (v_o3_moves : (Nat → Int32)) (v_o3_finals : (Nat → Int32)) : va_W := [(q_this, .inr (3, [.ref q_seen, .ref q_queue, .ref q_origin, .ref q_arrival, .ref q_letters, .int v_length, .int v_queued])), (q_seen, .inl (cI, 320, .inl v_seen)), (q_queue, .inl (cI, 320, .inl v_queue)), (q_origin, .inl (cI, 320, .inl v_origin)), (q_arrival, .inl (cI, 320, .inl v_arrival)), (q_letters, .inl (cI, 320, .inl v_letters)), (q_o1, .inr (0, [.ref q_o1_moves, .ref q_o1_finals, .int v_o1_size, .int v_o1_letters])), (q_o1_moves, .inl (cI, n_o1_moves, .inl v_o1_moves)), (q_o1_finals, .inl (cI, n_o1_finals, .inl v_o1_finals)), (q_o3, .inr (0, [.ref q_o3_moves, .ref q_o3_finals, .int v_o3_size, .int v_o3_letters])), (q_o3_moves, .inl (cI, n_o3_moves, .inl v_o3_moves)), (q_o3_finals, .inl (cI, n_o3_finals, .inl v_o3_finals))]
abbrev rm_Se_findsDifference : Room := { frames := 1, cells := 0, slots := 0, locals := 25 }
def f_Se_findsDifference_L99 (n_o1_moves : Nat) (n_o3_moves : Nat) (v_o1_moves : (Nat → Int32)) (v_o3_letters : Int32) (v_o3_moves : (Nat → Int32)) (x5 : Int32) (x6 : Int32) (x7 : Int32) (K rec : Int32 → (Nat → Int32) → (Nat → Int32) → (Nat → Int32) → (Nat → Int32) → Int32 → Option (Int32 × (Nat → Int32) × (Nat → Int32) × (Nat → Int32) × (Nat → Int32) × (Nat → Int32) × Int32 × Int32)) (x8 : Int32) (v_seen : (Nat → Int32)) (v_queue : (Nat → Int32)) (v_origin : (Nat → Int32)) (v_arrival : (Nat → Int32)) (v_queued : Int32) : Option (Int32 × (Nat → Int32) × (Nat → Int32) × (Nat → Int32) × (Nat → Int32) × (Nat → Int32) × Int32 × Int32) :=
 (if v_o3_letters ≤ x8 then
 (K x8 v_seen v_queue v_origin v_arrival v_queued)
 else
 (bd1 (f_Au_next n_o1_moves x6 x8 v_o1_moves) (fun r =>
 (bd1 (f_Au_next n_o3_moves x7 x8 v_o3_moves) (fun r_1 =>
 (bd5 (f_Se_meet r r_1 x5 x8 v_queued v_seen v_queue v_origin v_arrival) (fun v_seen_1 v_queue_1 v_origin_1 v_arrival_1 v_queued_1 =>
 (bnd (x8 + 1) (fun x8_1 =>
 (rec x8_1 v_seen_1 v_queue_1 v_origin_1 v_arrival_1 v_queued_1))))))))))
def f_Se_findsDifference_L30 (n_o1_moves : Nat) (n_o1_finals : Nat) (n_o3_moves : Nat) (n_o3_finals : Nat) (v_letters : (Nat → Int32)) (v_o1_moves : (Nat → Int32)) (v_o1_finals : (Nat → Int32)) (v_o3_letters : Int32) (v_o3_moves : (Nat → Int32)) (v_o3_finals : (Nat → Int32)) (K rec : Int32 → (Nat → Int32) → (Nat → Int32) → (Nat → Int32) → (Nat → Int32) → Int32 → Option (Int32 × (Nat → Int32) × (Nat → Int32) × (Nat → Int32) × (Nat → Int32) × (Nat → Int32) × Int32 × Int32)) (x5 : Int32) (v_seen : (Nat → Int32)) (v_queue : (Nat → Int32)) (v_origin : (Nat → Int32)) (v_arrival : (Nat → Int32)) (v_queued : Int32) : Option (Int32 × (Nat → Int32) × (Nat → Int32) × (Nat → Int32) × (Nat → Int32) × (Nat → Int32) × Int32 × Int32) :=
 (if v_queued ≤ x5 then
 (K x5 v_seen v_queue v_origin v_arrival v_queued)
 else
 (if (320 : Int32) ≤ x5 then
 (K x5 v_seen v_queue v_origin v_arrival v_queued)
 else
 (gIn x5 320
 (bnd ((v_queue x5.toNatClampNeg) / (8 : Int32)) (fun x6 =>
 (gIn x5 320
 (bnd ((v_queue x5.toNatClampNeg) - (v_queue x5.toNatClampNeg) / (8 : Int32) * (8 : Int32)) (fun x7 =>
 (gIn x6 n_o1_finals
 (gIn x7 n_o3_finals
 (if (v_o1_finals x6.toNatClampNeg) = (v_o3_finals x7.toNatClampNeg) then
 (itr (fun _ _ _ _ _ _ => none) (f_Se_findsDifference_L99 n_o1_moves n_o3_moves v_o1_moves v_o3_letters v_o3_moves x5 x6 x7 (fun x8 v_seen_1 v_queue_1 v_origin_1 v_arrival_1 v_queued_1 =>
 (bnd (x5 + 1) (fun x5_1 =>
 (rec x5_1 v_seen_1 v_queue_1 v_origin_1 v_arrival_1 v_queued_1))))) FU (0 : Int32) v_seen v_queue v_origin v_arrival v_queued)
 else
 (bd2 (f_Se_traceBack x5 v_origin v_arrival v_letters) (fun v_letters_1 v_length_1 =>
 (some ((1 : Int32), v_seen, v_queue, v_origin, v_arrival, v_letters_1, v_length_1, v_queued)))))))))))))))
def f_Se_findsDifference (n_o1_moves : Nat) (n_o1_finals : Nat) (n_o3_moves : Nat) (n_o3_finals : Nat) (x2 : Int32) (x4 : Int32) (v_seen : (Nat → Int32)) (v_queue : (Nat → Int32)) (v_origin : (Nat → Int32)) (v_arrival : (Nat → Int32)) (v_letters : (Nat → Int32)) (v_o1_moves : (Nat → Int32)) (v_o1_finals : (Nat → Int32)) (v_o3_letters : Int32) (v_o3_moves : (Nat → Int32)) (v_o3_finals : (Nat → Int32)) : Option (Int32 × (Nat → Int32) × (Nat → Int32) × (Nat → Int32) × (Nat → Int32) × (Nat → Int32) × Int32 × Int32) :=
 (bd1 (f_Ar_fill 320 (0 : Int32) v_seen) (fun v_seen_1 =>
 (bd5 (f_Se_meet x2 x4 (-1 : Int32) (-1 : Int32) (0 : Int32) v_seen_1 v_queue v_origin v_arrival) (fun v_seen_2 v_queue_1 v_origin_1 v_arrival_1 v_queued_1 =>
 (itr (fun _ _ _ _ _ _ => none) (f_Se_findsDifference_L30 n_o1_moves n_o1_finals n_o3_moves n_o3_finals v_letters v_o1_moves v_o1_finals v_o3_letters v_o3_moves v_o3_finals (fun x5 v_seen_3 v_queue_2 v_origin_2 v_arrival_2 v_queued_2 =>
 (some ((0 : Int32), v_seen_3, v_queue_2, v_origin_2, v_arrival_2, v_letters, (-1 : Int32), v_queued_2)))) FU (0 : Int32) v_seen_2 v_queue_1 v_origin_1 v_arrival_1 v_queued_1)))))
abbrev ws_Se_findsDifference_a (cI cJ cZ : ClassId) (q_this q_seen q_queue q_origin q_arrival q_letters q_o1 q_o1_moves q_o1_finals : Nat) (n_o1_moves n_o1_finals : Nat) (v_length : Int32) (v_queued : Int32) (v_seen : (Nat → Int32)) (v_queue : (Nat → Int32)) (v_origin : (Nat → Int32)) (v_arrival : (Nat → Int32)) (v_letters : (Nat → Int32)) (v_o1_size : Int32) (v_o1_letters : Int32) (v_o1_moves : (Nat → Int32)) (v_o1_finals : (Nat → Int32)) : va_W := [(q_this, .inr (3, [.ref q_seen, .ref q_queue, .ref q_origin, .ref q_arrival, .ref q_letters, .int v_length, .int v_queued])), (q_seen, .inl (cI, 320, .inl v_seen)), (q_queue, .inl (cI, 320, .inl v_queue)), (q_origin, .inl (cI, 320, .inl v_origin)), (q_arrival, .inl (cI, 320, .inl v_arrival)), (q_letters, .inl (cI, 320, .inl v_letters)), (q_o1, .inr (0, [.ref q_o1_moves, .ref q_o1_finals, .int v_o1_size, .int v_o1_letters])), (q_o1_moves, .inl (cI, n_o1_moves, .inl v_o1_moves)), (q_o1_finals, .inl (cI, n_o1_finals, .inl v_o1_finals))]
abbrev rm_Se_findsDifference_a : Room := { frames := 1, cells := 0, slots := 0, locals := 25 }
def f_Se_findsDifference_a_L99 (n_o1_moves : Nat) (v_o1_letters : Int32) (v_o1_moves : (Nat → Int32)) (x5 : Int32) (x6 : Int32) (x7 : Int32) (K rec : Int32 → (Nat → Int32) → (Nat → Int32) → (Nat → Int32) → (Nat → Int32) → Int32 → Option (Int32 × (Nat → Int32) × (Nat → Int32) × (Nat → Int32) × (Nat → Int32) × (Nat → Int32) × Int32 × Int32)) (x8 : Int32) (v_seen : (Nat → Int32)) (v_queue : (Nat → Int32)) (v_origin : (Nat → Int32)) (v_arrival : (Nat → Int32)) (v_queued : Int32) : Option (Int32 × (Nat → Int32) × (Nat → Int32) × (Nat → Int32) × (Nat → Int32) × (Nat → Int32) × Int32 × Int32) :=
 (if v_o1_letters ≤ x8 then
 (K x8 v_seen v_queue v_origin v_arrival v_queued)
 else
 (bd1 (f_Au_next n_o1_moves x6 x8 v_o1_moves) (fun r =>
 (bd1 (f_Au_next n_o1_moves x7 x8 v_o1_moves) (fun r_1 =>
 (bd5 (f_Se_meet r r_1 x5 x8 v_queued v_seen v_queue v_origin v_arrival) (fun v_seen_1 v_queue_1 v_origin_1 v_arrival_1 v_queued_1 =>
 (bnd (x8 + 1) (fun x8_1 =>
 (rec x8_1 v_seen_1 v_queue_1 v_origin_1 v_arrival_1 v_queued_1))))))))))
def f_Se_findsDifference_a_L30 (n_o1_moves : Nat) (n_o1_finals : Nat) (v_letters : (Nat → Int32)) (v_o1_letters : Int32) (v_o1_moves : (Nat → Int32)) (v_o1_finals : (Nat → Int32)) (K rec : Int32 → (Nat → Int32) → (Nat → Int32) → (Nat → Int32) → (Nat → Int32) → Int32 → Option (Int32 × (Nat → Int32) × (Nat → Int32) × (Nat → Int32) × (Nat → Int32) × (Nat → Int32) × Int32 × Int32)) (x5 : Int32) (v_seen : (Nat → Int32)) (v_queue : (Nat → Int32)) (v_origin : (Nat → Int32)) (v_arrival : (Nat → Int32)) (v_queued : Int32) : Option (Int32 × (Nat → Int32) × (Nat → Int32) × (Nat → Int32) × (Nat → Int32) × (Nat → Int32) × Int32 × Int32) :=
 (if v_queued ≤ x5 then
 (K x5 v_seen v_queue v_origin v_arrival v_queued)
 else
 (if (320 : Int32) ≤ x5 then
 (K x5 v_seen v_queue v_origin v_arrival v_queued)
 else
 (gIn x5 320
 (bnd ((v_queue x5.toNatClampNeg) / (8 : Int32)) (fun x6 =>
 (gIn x5 320
 (bnd ((v_queue x5.toNatClampNeg) - (v_queue x5.toNatClampNeg) / (8 : Int32) * (8 : Int32)) (fun x7 =>
 (gIn x6 n_o1_finals
 (gIn x7 n_o1_finals
 (if (v_o1_finals x6.toNatClampNeg) = (v_o1_finals x7.toNatClampNeg) then
 (itr (fun _ _ _ _ _ _ => none) (f_Se_findsDifference_a_L99 n_o1_moves v_o1_letters v_o1_moves x5 x6 x7 (fun x8 v_seen_1 v_queue_1 v_origin_1 v_arrival_1 v_queued_1 =>
 (bnd (x5 + 1) (fun x5_1 =>
 (rec x5_1 v_seen_1 v_queue_1 v_origin_1 v_arrival_1 v_queued_1))))) FU (0 : Int32) v_seen v_queue v_origin v_arrival v_queued)
 else
 (bd2 (f_Se_traceBack x5 v_origin v_arrival v_letters) (fun v_letters_1 v_length_1 =>
 (some ((1 : Int32), v_seen, v_queue, v_origin, v_arrival, v_letters_1, v_length_1, v_queued)))))))))))))))
def f_Se_findsDifference_a (n_o1_moves : Nat) (n_o1_finals : Nat) (x2 : Int32) (x4 : Int32) (v_seen : (Nat → Int32)) (v_queue : (Nat → Int32)) (v_origin : (Nat → Int32)) (v_arrival : (Nat → Int32)) (v_letters : (Nat → Int32)) (v_o1_letters : Int32) (v_o1_moves : (Nat → Int32)) (v_o1_finals : (Nat → Int32)) : Option (Int32 × (Nat → Int32) × (Nat → Int32) × (Nat → Int32) × (Nat → Int32) × (Nat → Int32) × Int32 × Int32) :=
 (bd1 (f_Ar_fill 320 (0 : Int32) v_seen) (fun v_seen_1 =>
 (bd5 (f_Se_meet x2 x4 (-1 : Int32) (-1 : Int32) (0 : Int32) v_seen_1 v_queue v_origin v_arrival) (fun v_seen_2 v_queue_1 v_origin_1 v_arrival_1 v_queued_1 =>
 (itr (fun _ _ _ _ _ _ => none) (f_Se_findsDifference_a_L30 n_o1_moves n_o1_finals v_letters v_o1_letters v_o1_moves v_o1_finals (fun x5 v_seen_3 v_queue_2 v_origin_2 v_arrival_2 v_queued_2 =>
 (some ((0 : Int32), v_seen_3, v_queue_2, v_origin_2, v_arrival_2, v_letters, (-1 : Int32), v_queued_2)))) FU (0 : Int32) v_seen_2 v_queue_1 v_origin_1 v_arrival_1 v_queued_1)))))
abbrev ws_Se_letterOrLength (cI cJ cZ : ClassId) (q_this q_seen q_queue q_origin q_arrival q_letters : Nat) (v_length : Int32) (v_queued : Int32) (v_letters : (Nat → Int32)) : va_W := [(q_this, .inr (3, [.ref q_seen, .ref q_queue, .ref q_origin, .ref q_arrival, .ref q_letters, .int v_length, .int v_queued])), (q_letters, .inl (cI, 320, .inl v_letters))]
abbrev rm_Se_letterOrLength : Room := { frames := 0, cells := 0, slots := 0, locals := 0 }
def f_Se_letterOrLength (x1 : Int32) (v_length : Int32) (v_letters : (Nat → Int32)) : Option (Int32) :=
 (if x1 = (-1 : Int32) then
 (some v_length)
 else
 (if v_length ≤ x1 then
 (some (-1 : Int32))
 else
 (gIn x1 320
 (some (v_letters x1.toNatClampNeg)))))
abbrev ws_TL_distinguish (cI cJ cZ : ClassId) (q_this q_world q_slots q_text q_search q_world_teacher q_world_learner q_world_teacher_machine q_world_teacher_lies q_world_teacher_machine_moves q_world_teacher_machine_finals q_search_seen q_search_queue q_search_origin q_search_arrival q_search_letters : Nat) (v_textLength : Int32) (v_world_teacher_lieCount : Int32) (v_world_teacher_machine_size : Int32) (v_world_teacher_machine_letters : Int32) (v_world_teacher_machine_moves : (Nat → Int32)) (v_world_teacher_machine_finals : (Nat → Int32)) (v_search_length : Int32) (v_search_queued : Int32) (v_search_seen : (Nat → Int32)) (v_search_queue : (Nat → Int32)) (v_search_origin : (Nat → Int32)) (v_search_arrival : (Nat → Int32)) (v_search_letters : (Nat → Int32)) : va_W := [(q_this, .inr (8, [.ref q_world, .ref q_slots, .ref q_text, .int v_textLength, .ref q_search])), (q_world, .inr (7, [.ref q_world_teacher, .ref q_world_learner])), (q_world_teacher, .inr (5, [.ref q_world_teacher_machine, .ref q_world_teacher_lies, .int v_world_teacher_lieCount])), (q_world_teacher_machine, .inr (0, [.ref q_world_teacher_machine_moves, .ref q_world_teacher_machine_finals, .int v_world_teacher_machine_size, .int v_world_teacher_machine_letters])), (q_world_teacher_machine_moves, .inl (cI, 24, .inl v_world_teacher_machine_moves)), (q_world_teacher_machine_finals, .inl (cI, 8, .inl v_world_teacher_machine_finals)), (q_search, .inr (3, [.ref q_search_seen, .ref q_search_queue, .ref q_search_origin, .ref q_search_arrival, .ref q_search_letters, .int v_search_length, .int v_search_queued])), (q_search_seen, .inl (cI, 320, .inl v_search_seen)), (q_search_queue, .inl (cI, 320, .inl v_search_queue)), (q_search_origin, .inl (cI, 320, .inl v_search_origin)), (q_search_arrival, .inl (cI, 320, .inl v_search_arrival)), (q_search_letters, .inl (cI, 320, .inl v_search_letters))]
abbrev rm_TL_distinguish : Room := { frames := 2, cells := 0, slots := 0, locals := 53 }
def f_TL_distinguish (x1 : Int32) (x2 : Int32) (x3 : Int32) (v_world_teacher_machine_size : Int32) (v_world_teacher_machine_letters : Int32) (v_world_teacher_machine_moves : (Nat → Int32)) (v_world_teacher_machine_finals : (Nat → Int32)) (v_search_length : Int32) (v_search_queued : Int32) (v_search_seen : (Nat → Int32)) (v_search_queue : (Nat → Int32)) (v_search_origin : (Nat → Int32)) (v_search_arrival : (Nat → Int32)) (v_search_letters : (Nat → Int32)) : Option (Int32 × (Nat → Int32) × (Nat → Int32) × (Nat → Int32) × (Nat → Int32) × (Nat → Int32) × Int32 × Int32) :=
 (bd1 (f_Au_hasState x1 v_world_teacher_machine_size) (fun r =>
 (if r = 0 then
 (some ((-2 : Int32), v_search_seen, v_search_queue, v_search_origin, v_search_arrival, v_search_letters, v_search_length, v_search_queued))
 else
 (bd1 (f_Au_hasState x2 v_world_teacher_machine_size) (fun r_1 =>
 (if r_1 = 0 then
 (some ((-2 : Int32), v_search_seen, v_search_queue, v_search_origin, v_search_arrival, v_search_letters, v_search_length, v_search_queued))
 else
 (if (-1 : Int32) ≤ x3 then
 (bd8 (f_Se_findsDifference_a 24 8 x1 x2 v_search_seen v_search_queue v_search_origin v_search_arrival v_search_letters v_world_teacher_machine_letters v_world_teacher_machine_moves v_world_teacher_machine_finals) (fun r_2 v_search_seen_1 v_search_queue_1 v_search_origin_1 v_search_arrival_1 v_search_letters_1 v_search_length_1 v_search_queued_1 =>
 (bd1 (f_Se_letterOrLength x3 v_search_length_1 v_search_letters_1) (fun r_3 =>
 (some (r_3, v_search_seen_1, v_search_queue_1, v_search_origin_1, v_search_arrival_1, v_search_letters_1, v_search_length_1, v_search_queued_1))))))
 else
 (some ((-2 : Int32), v_search_seen, v_search_queue, v_search_origin, v_search_arrival, v_search_letters, v_search_length, v_search_queued)))))))))
abbrev ws_TL_hasEarlierEqual (cI cJ cZ : ClassId) (q_this q_world q_slots q_text q_search q_world_teacher q_world_learner q_world_teacher_machine q_world_teacher_lies q_world_teacher_machine_moves q_world_teacher_machine_finals q_search_seen q_search_queue q_search_origin q_search_arrival q_search_letters : Nat) (v_textLength : Int32) (v_world_teacher_lieCount : Int32) (v_world_teacher_machine_size : Int32) (v_world_teacher_machine_letters : Int32) (v_world_teacher_machine_moves : (Nat → Int32)) (v_world_teacher_machine_finals : (Nat → Int32)) (v_search_length : Int32) (v_search_queued : Int32) (v_search_seen : (Nat → Int32)) (v_search_queue : (Nat → Int32)) (v_search_origin : (Nat → Int32)) (v_search_arrival : (Nat → Int32)) (v_search_letters : (Nat → Int32)) : va_W := [(q_this, .inr (8, [.ref q_world, .ref q_slots, .ref q_text, .int v_textLength, .ref q_search])), (q_world, .inr (7, [.ref q_world_teacher, .ref q_world_learner])), (q_world_teacher, .inr (5, [.ref q_world_teacher_machine, .ref q_world_teacher_lies, .int v_world_teacher_lieCount])), (q_world_teacher_machine, .inr (0, [.ref q_world_teacher_machine_moves, .ref q_world_teacher_machine_finals, .int v_world_teacher_machine_size, .int v_world_teacher_machine_letters])), (q_world_teacher_machine_moves, .inl (cI, 24, .inl v_world_teacher_machine_moves)), (q_world_teacher_machine_finals, .inl (cI, 8, .inl v_world_teacher_machine_finals)), (q_search, .inr (3, [.ref q_search_seen, .ref q_search_queue, .ref q_search_origin, .ref q_search_arrival, .ref q_search_letters, .int v_search_length, .int v_search_queued])), (q_search_seen, .inl (cI, 320, .inl v_search_seen)), (q_search_queue, .inl (cI, 320, .inl v_search_queue)), (q_search_origin, .inl (cI, 320, .inl v_search_origin)), (q_search_arrival, .inl (cI, 320, .inl v_search_arrival)), (q_search_letters, .inl (cI, 320, .inl v_search_letters))]
abbrev rm_TL_hasEarlierEqual : Room := { frames := 3, cells := 0, slots := 0, locals := 72 }
def f_TL_hasEarlierEqual_J43 (rec : Int32 → (Nat → Int32) → (Nat → Int32) → (Nat → Int32) → (Nat → Int32) → (Nat → Int32) → Int32 → Int32 → Option (Int32 × (Nat → Int32) × (Nat → Int32) × (Nat → Int32) × (Nat → Int32) × (Nat → Int32) × Int32 × Int32)) (x3 : Int32) (v_search_length : Int32) (v_search_queued : Int32) (v_search_seen : (Nat → Int32)) (v_search_queue : (Nat → Int32)) (v_search_origin : (Nat → Int32)) (v_search_arrival : (Nat → Int32)) (v_search_letters : (Nat → Int32)) : Option (Int32 × (Nat → Int32) × (Nat → Int32) × (Nat → Int32) × (Nat → Int32) × (Nat → Int32) × Int32 × Int32) :=
 (bnd (x3 + 1) (fun x3_1 =>
 (rec x3_1 v_search_seen v_search_queue v_search_origin v_search_arrival v_search_letters v_search_length v_search_queued)))
def f_TL_hasEarlierEqual_L13 (v_world_teacher_machine_size : Int32) (v_world_teacher_machine_letters : Int32) (v_world_teacher_machine_moves : (Nat → Int32)) (v_world_teacher_machine_finals : (Nat → Int32)) (x1 : Int32) (K rec : Int32 → (Nat → Int32) → (Nat → Int32) → (Nat → Int32) → (Nat → Int32) → (Nat → Int32) → Int32 → Int32 → Option (Int32 × (Nat → Int32) × (Nat → Int32) × (Nat → Int32) × (Nat → Int32) × (Nat → Int32) × Int32 × Int32)) (x3 : Int32) (v_search_seen : (Nat → Int32)) (v_search_queue : (Nat → Int32)) (v_search_origin : (Nat → Int32)) (v_search_arrival : (Nat → Int32)) (v_search_letters : (Nat → Int32)) (v_search_length : Int32) (v_search_queued : Int32) : Option (Int32 × (Nat → Int32) × (Nat → Int32) × (Nat → Int32) × (Nat → Int32) × (Nat → Int32) × Int32 × Int32) :=
 (if x1 ≤ x3 then
 (K x3 v_search_seen v_search_queue v_search_origin v_search_arrival v_search_letters v_search_length v_search_queued)
 else
 (bd1 (f_Au_distanceTo 24 x3 v_world_teacher_machine_size v_world_teacher_machine_letters v_world_teacher_machine_moves) (fun r =>
 (if r = (-1 : Int32) then
 (f_TL_hasEarlierEqual_J43 rec x3 v_search_length v_search_queued v_search_seen v_search_queue v_search_origin v_search_arrival v_search_letters)
 else
 (bd8 (f_Se_findsDifference_a 24 8 x3 x1 v_search_seen v_search_queue v_search_origin v_search_arrival v_search_letters v_world_teacher_machine_letters v_world_teacher_machine_moves v_world_teacher_machine_finals) (fun r_1 v_search_seen_1 v_search_queue_1 v_search_origin_1 v_search_arrival_1 v_search_letters_1 v_search_length_1 v_search_queued_1 =>
 (if r_1 = 0 then
 (some ((1 : Int32), v_search_seen_1, v_search_queue_1, v_search_origin_1, v_search_arrival_1, v_search_letters_1, v_search_length_1, v_search_queued_1))
 else
 (f_TL_hasEarlierEqual_J43 rec x3 v_search_length_1 v_search_queued_1 v_search_seen_1 v_search_queue_1 v_search_origin_1 v_search_arrival_1 v_search_letters_1))))))))
def f_TL_hasEarlierEqual (x1 : Int32) (v_world_teacher_machine_size : Int32) (v_world_teacher_machine_letters : Int32) (v_world_teacher_machine_moves : (Nat → Int32)) (v_world_teacher_machine_finals : (Nat → Int32)) (v_search_length : Int32) (v_search_queued : Int32) (v_search_seen : (Nat → Int32)) (v_search_queue : (Nat → Int32)) (v_search_origin : (Nat → Int32)) (v_search_arrival : (Nat → Int32)) (v_search_letters : (Nat → Int32)) : Option (Int32 × (Nat → Int32) × (Nat → Int32) × (Nat → Int32) × (Nat → Int32) × (Nat → Int32) × Int32 × Int32) :=
 (itr (fun _ _ _ _ _ _ _ _ => none) (f_TL_hasEarlierEqual_L13 v_world_teacher_machine_size v_world_teacher_machine_letters v_world_teacher_machine_moves v_world_teacher_machine_finals x1 (fun x3 v_search_seen_1 v_search_queue_1 v_search_origin_1 v_search_arrival_1 v_search_letters_1 v_search_length_1 v_search_queued_1 =>
 (some ((0 : Int32), v_search_seen_1, v_search_queue_1, v_search_origin_1, v_search_arrival_1, v_search_letters_1, v_search_length_1, v_search_queued_1)))) FU (0 : Int32) v_search_seen v_search_queue v_search_origin v_search_arrival v_search_letters v_search_length v_search_queued)
abbrev ws_TL_leastStates (cI cJ cZ : ClassId) (q_this q_world q_slots q_text q_search q_world_teacher q_world_learner q_world_teacher_machine q_world_teacher_lies q_world_teacher_machine_moves q_world_teacher_machine_finals q_search_seen q_search_queue q_search_origin q_search_arrival q_search_letters : Nat) (v_textLength : Int32) (v_world_teacher_lieCount : Int32) (v_world_teacher_machine_size : Int32) (v_world_teacher_machine_letters : Int32) (v_world_teacher_machine_moves : (Nat → Int32)) (v_world_teacher_machine_finals : (Nat → Int32)) (v_search_length : Int32) (v_search_queued : Int32) (v_search_seen : (Nat → Int32)) (v_search_queue : (Nat → Int32)) (v_search_origin : (Nat → Int32)) (v_search_arrival : (Nat → Int32)) (v_search_letters : (Nat → Int32)) : va_W := [(q_this, .inr (8, [.ref q_world, .ref q_slots, .ref q_text, .int v_textLength, .ref q_search])), (q_world, .inr (7, [.ref q_world_teacher, .ref q_world_learner])), (q_world_teacher, .inr (5, [.ref q_world_teacher_machine, .ref q_world_teacher_lies, .int v_world_teacher_lieCount])), (q_world_teacher_machine, .inr (0, [.ref q_world_teacher_machine_moves, .ref q_world_teacher_machine_finals, .int v_world_teacher_machine_size, .int v_world_teacher_machine_letters])), (q_world_teacher_machine_moves, .inl (cI, 24, .inl v_world_teacher_machine_moves)), (q_world_teacher_machine_finals, .inl (cI, 8, .inl v_world_teacher_machine_finals)), (q_search, .inr (3, [.ref q_search_seen, .ref q_search_queue, .ref q_search_origin, .ref q_search_arrival, .ref q_search_letters, .int v_search_length, .int v_search_queued])), (q_search_seen, .inl (cI, 320, .inl v_search_seen)), (q_search_queue, .inl (cI, 320, .inl v_search_queue)), (q_search_origin, .inl (cI, 320, .inl v_search_origin)), (q_search_arrival, .inl (cI, 320, .inl v_search_arrival)), (q_search_letters, .inl (cI, 320, .inl v_search_letters))]
abbrev rm_TL_leastStates : Room := { frames := 4, cells := 0, slots := 0, locals := 95 }
def f_TL_leastStates_J43 (rec : Int32 → Int32 → (Nat → Int32) → (Nat → Int32) → (Nat → Int32) → (Nat → Int32) → (Nat → Int32) → Int32 → Int32 → Option (Int32 × (Nat → Int32) × (Nat → Int32) × (Nat → Int32) × (Nat → Int32) × (Nat → Int32) × Int32 × Int32)) (x2 : Int32) (x3 : Int32) (v_search_length : Int32) (v_search_queued : Int32) (v_search_seen : (Nat → Int32)) (v_search_queue : (Nat → Int32)) (v_search_origin : (Nat → Int32)) (v_search_arrival : (Nat → Int32)) (v_search_letters : (Nat → Int32)) : Option (Int32 × (Nat → Int32) × (Nat → Int32) × (Nat → Int32) × (Nat → Int32) × (Nat → Int32) × Int32 × Int32) :=
 (bnd (x3 + 1) (fun x3_1 =>
 (rec x2 x3_1 v_search_seen v_search_queue v_search_origin v_search_arrival v_search_letters v_search_length v_search_queued)))
def f_TL_leastStates_L15 (v_world_teacher_machine_size : Int32) (v_world_teacher_machine_letters : Int32) (v_world_teacher_machine_moves : (Nat → Int32)) (v_world_teacher_machine_finals : (Nat → Int32)) (K rec : Int32 → Int32 → (Nat → Int32) → (Nat → Int32) → (Nat → Int32) → (Nat → Int32) → (Nat → Int32) → Int32 → Int32 → Option (Int32 × (Nat → Int32) × (Nat → Int32) × (Nat → Int32) × (Nat → Int32) × (Nat → Int32) × Int32 × Int32)) (x2 : Int32) (x3 : Int32) (v_search_seen : (Nat → Int32)) (v_search_queue : (Nat → Int32)) (v_search_origin : (Nat → Int32)) (v_search_arrival : (Nat → Int32)) (v_search_letters : (Nat → Int32)) (v_search_length : Int32) (v_search_queued : Int32) : Option (Int32 × (Nat → Int32) × (Nat → Int32) × (Nat → Int32) × (Nat → Int32) × (Nat → Int32) × Int32 × Int32) :=
 (if v_world_teacher_machine_size ≤ x3 then
 (K x2 x3 v_search_seen v_search_queue v_search_origin v_search_arrival v_search_letters v_search_length v_search_queued)
 else
 (bd1 (f_Au_distanceTo 24 x3 v_world_teacher_machine_size v_world_teacher_machine_letters v_world_teacher_machine_moves) (fun r =>
 (if r = (-1 : Int32) then
 (f_TL_leastStates_J43 rec x2 x3 v_search_length v_search_queued v_search_seen v_search_queue v_search_origin v_search_arrival v_search_letters)
 else
 (bd8 (f_TL_hasEarlierEqual x3 v_world_teacher_machine_size v_world_teacher_machine_letters v_world_teacher_machine_moves v_world_teacher_machine_finals v_search_length v_search_queued v_search_seen v_search_queue v_search_origin v_search_arrival v_search_letters) (fun r_1 v_search_seen_1 v_search_queue_1 v_search_origin_1 v_search_arrival_1 v_search_letters_1 v_search_length_1 v_search_queued_1 =>
 (if r_1 = 0 then
 (bnd (x2 + 1) (fun x2_1 =>
 (f_TL_leastStates_J43 rec x2_1 x3 v_search_length_1 v_search_queued_1 v_search_seen_1 v_search_queue_1 v_search_origin_1 v_search_arrival_1 v_search_letters_1)))
 else
 (f_TL_leastStates_J43 rec x2 x3 v_search_length_1 v_search_queued_1 v_search_seen_1 v_search_queue_1 v_search_origin_1 v_search_arrival_1 v_search_letters_1))))))))
def f_TL_leastStates (v_world_teacher_machine_size : Int32) (v_world_teacher_machine_letters : Int32) (v_world_teacher_machine_moves : (Nat → Int32)) (v_world_teacher_machine_finals : (Nat → Int32)) (v_search_length : Int32) (v_search_queued : Int32) (v_search_seen : (Nat → Int32)) (v_search_queue : (Nat → Int32)) (v_search_origin : (Nat → Int32)) (v_search_arrival : (Nat → Int32)) (v_search_letters : (Nat → Int32)) : Option (Int32 × (Nat → Int32) × (Nat → Int32) × (Nat → Int32) × (Nat → Int32) × (Nat → Int32) × Int32 × Int32) :=
 (itr (fun _ _ _ _ _ _ _ _ _ => none) (f_TL_leastStates_L15 v_world_teacher_machine_size v_world_teacher_machine_letters v_world_teacher_machine_moves v_world_teacher_machine_finals (fun x2 x3 v_search_seen_1 v_search_queue_1 v_search_origin_1 v_search_arrival_1 v_search_letters_1 v_search_length_1 v_search_queued_1 =>
 (some (x2, v_search_seen_1, v_search_queue_1, v_search_origin_1, v_search_arrival_1, v_search_letters_1, v_search_length_1, v_search_queued_1)))) FU (0 : Int32) (0 : Int32) v_search_seen v_search_queue v_search_origin v_search_arrival v_search_letters v_search_length v_search_queued)
abbrev ws_Au_follow (cI cJ cZ : ClassId) (q_this q_moves q_finals : Nat) (n_moves : Nat) (v_size : Int32) (v_letters : Int32) (v_moves : (Nat → Int32)) : va_W := [(q_this, .inr (0, [.ref q_moves, .ref q_finals, .int v_size, .int v_letters])), (q_moves, .inl (cI, n_moves, .inl v_moves))]
abbrev rm_Au_follow : Room := { frames := 0, cells := 0, slots := 0, locals := 0 }
def f_Au_follow_L9 (n_moves : Nat) (v_moves : (Nat → Int32)) (x3 : Int32) (K rec : Int32 → Int64 → Int32 → Option (Int32)) (x4 : Int32) (x5 : Int64) (x7 : Int32) : Option (Int32) :=
 (if x3 ≤ x7 then
 (K x4 x5 x7)
 else
 (gIn ((x4 * (3 : Int32)) + (x5 &&& (3 : Int64)).toInt32) n_moves
 (bnd (v_moves ((x4 * (3 : Int32)) + (x5 &&& (3 : Int64)).toInt32).toNatClampNeg) (fun x4_1 =>
 (bnd (x5 >>> (2 : Int64)) (fun x5_1 =>
 (bnd (x7 + 1) (fun x7_1 =>
 (rec x4_1 x5_1 x7_1)))))))))
def f_Au_follow (n_moves : Nat) (x1 : Int64) (x3 : Int32) (v_moves : (Nat → Int32)) : Option (Int32) :=
 (itr (fun _ _ _ => none) (f_Au_follow_L9 n_moves v_moves x3 (fun x4 x5 x7 =>
 (some x4))) FU (0 : Int32) x1 (0 : Int32))
abbrev ws_Au_verdict (cI cJ cZ : ClassId) (q_this q_moves q_finals : Nat) (n_moves n_finals : Nat) (v_size : Int32) (v_letters : Int32) (v_moves : (Nat → Int32)) (v_finals : (Nat → Int32)) : va_W := [(q_this, .inr (0, [.ref q_moves, .ref q_finals, .int v_size, .int v_letters])), (q_moves, .inl (cI, n_moves, .inl v_moves)), (q_finals, .inl (cI, n_finals, .inl v_finals))]
abbrev rm_Au_verdict : Room := { frames := 1, cells := 0, slots := 0, locals := 27 }
def f_Au_verdict (n_moves : Nat) (n_finals : Nat) (x1 : Int64) (v_moves : (Nat → Int32)) (v_finals : (Nat → Int32)) : Option (Int32) :=
 (bd1 (f_Ws_lengthOf x1) (fun r =>
 (bd1 (f_Au_follow n_moves x1 r v_moves) (fun r_1 =>
 (gIn r_1 n_finals
 (some (v_finals r_1.toNatClampNeg)))))))
abbrev ws_TL_accepts (cI cJ cZ : ClassId) (q_this q_world q_slots q_text q_search q_world_teacher q_world_learner q_world_teacher_machine q_world_teacher_lies q_world_teacher_machine_moves q_world_teacher_machine_finals : Nat) (v_textLength : Int32) (v_world_teacher_lieCount : Int32) (v_world_teacher_machine_size : Int32) (v_world_teacher_machine_letters : Int32) (v_world_teacher_machine_moves : (Nat → Int32)) (v_world_teacher_machine_finals : (Nat → Int32)) (v_text : (Nat → Int32)) : va_W := [(q_this, .inr (8, [.ref q_world, .ref q_slots, .ref q_text, .int v_textLength, .ref q_search])), (q_world, .inr (7, [.ref q_world_teacher, .ref q_world_learner])), (q_world_teacher, .inr (5, [.ref q_world_teacher_machine, .ref q_world_teacher_lies, .int v_world_teacher_lieCount])), (q_world_teacher_machine, .inr (0, [.ref q_world_teacher_machine_moves, .ref q_world_teacher_machine_finals, .int v_world_teacher_machine_size, .int v_world_teacher_machine_letters])), (q_world_teacher_machine_moves, .inl (cI, 24, .inl v_world_teacher_machine_moves)), (q_world_teacher_machine_finals, .inl (cI, 8, .inl v_world_teacher_machine_finals)), (q_text, .inl (cI, 16, .inl v_text))]
abbrev rm_TL_accepts : Room := { frames := 4, cells := 0, slots := 0, locals := 94 }
def f_TL_accepts (v_textLength : Int32) (v_world_teacher_machine_letters : Int32) (v_world_teacher_machine_moves : (Nat → Int32)) (v_world_teacher_machine_finals : (Nat → Int32)) (v_text : (Nat → Int32)) : Option (Int32) :=
 (bd1 (f_TL_textWord v_textLength v_world_teacher_machine_letters v_text) (fun r =>
 (if r = (-1 : Int64) then
 (some (-2 : Int32))
 else
 (bd1 (f_Au_verdict 24 8 r v_world_teacher_machine_moves v_world_teacher_machine_finals) (fun r_1 =>
 (some r_1))))))
abbrev ws_TL_type (cI cJ cZ : ClassId) (q_this q_world q_slots q_text q_search : Nat) (v_textLength : Int32) (v_text : (Nat → Int32)) : va_W := [(q_this, .inr (8, [.ref q_world, .ref q_slots, .ref q_text, .int v_textLength, .ref q_search])), (q_text, .inl (cI, 16, .inl v_text))]
abbrev rm_TL_type : Room := { frames := 0, cells := 0, slots := 0, locals := 0 }
def f_TL_type (x1 : Int32) (v_textLength : Int32) (v_text : (Nat → Int32)) : Option (Int32 × (Nat → Int32) × Int32) :=
 (if x1 < 0 then
 (some ((-2 : Int32), v_text, v_textLength))
 else
 (if x1 ≤ (127 : Int32) then
 (if v_textLength < (16 : Int32) then
 (gIn v_textLength 16
 (bnd (upd v_text v_textLength.toNatClampNeg x1) (fun v_text_1 =>
 (bnd (v_textLength + (1 : Int32)) (fun v_textLength_1 =>
 (some (v_textLength_1, v_text_1, v_textLength_1)))))))
 else
 (some ((-5 : Int32), v_text, v_textLength)))
 else
 (some ((-2 : Int32), v_text, v_textLength))))
abbrev ws_TL_clearText (cI cJ cZ : ClassId) (q_this q_world q_slots q_text q_search : Nat) (v_textLength : Int32) : va_W := [(q_this, .inr (8, [.ref q_world, .ref q_slots, .ref q_text, .int v_textLength, .ref q_search]))]
abbrev rm_TL_clearText : Room := { frames := 0, cells := 0, slots := 0, locals := 0 }
def f_TL_clearText (v_textLength : Int32) : Option (Int32 × Int32) :=
 (some (v_textLength, (0 : Int32)))
abbrev ws_TL_begin (cI cJ cZ : ClassId) (q_this q_world q_slots q_text q_search q_world_teacher q_world_learner q_world_teacher_machine q_world_teacher_lies q_world_teacher_machine_moves q_world_teacher_machine_finals q_world_learner_asked q_world_learner_table q_world_learner_hypothesis q_world_learner_representatives q_world_learner_asked_entries q_world_learner_table_prefixes q_world_learner_table_suffixes q_world_learner_table_known q_world_learner_table_bits q_world_learner_table_prefixes_words q_world_learner_table_suffixes_words q_world_learner_hypothesis_moves q_world_learner_hypothesis_finals : Nat) (v_textLength : Int32) (v_world_teacher_lieCount : Int32) (v_world_teacher_machine_size : Int32) (v_world_teacher_machine_letters : Int32) (v_world_learner_mode : Int32) (v_world_learner_budget : Int32) (v_world_learner_formed : Int32) (v_world_learner_counterexample : Int64) (v_world_learner_corrections : Int32) (v_world_learner_deceived : Int32) (v_world_learner_asked_size : Int32) (v_world_learner_table_letters : Int32) (v_world_learner_table_prefixes_size : Int32) (v_world_learner_table_prefixes_longest : Int32) (v_world_learner_table_prefixes_words : (Nat → Int64)) (v_world_learner_table_suffixes_size : Int32) (v_world_learner_table_suffixes_longest : Int32) (v_world_learner_table_suffixes_words : (Nat → Int64)) (v_world_learner_table_known : (Nat → Int32)) (v_world_learner_table_bits : (Nat → Int32)) (v_world_learner_hypothesis_size : Int32) (v_world_learner_hypothesis_letters : Int32) (v_world_learner_hypothesis_moves : (Nat → Int32)) (v_world_learner_hypothesis_finals : (Nat → Int32)) : va_W := [(q_this, .inr (8, [.ref q_world, .ref q_slots, .ref q_text, .int v_textLength, .ref q_search])), (q_world, .inr (7, [.ref q_world_teacher, .ref q_world_learner])), (q_world_teacher, .inr (5, [.ref q_world_teacher_machine, .ref q_world_teacher_lies, .int v_world_teacher_lieCount])), (q_world_teacher_machine, .inr (0, [.ref q_world_teacher_machine_moves, .ref q_world_teacher_machine_finals, .int v_world_teacher_machine_size, .int v_world_teacher_machine_letters])), (q_world_learner, .inr (1, [.ref q_world_learner_asked, .ref q_world_learner_table, .ref q_world_learner_hypothesis, .ref q_world_learner_representatives, .int v_world_learner_mode, .int v_world_learner_budget, .int v_world_learner_formed, .long v_world_learner_counterexample, .int v_world_learner_corrections, .int v_world_learner_deceived])), (q_world_learner_asked, .inr (2, [.ref q_world_learner_asked_entries, .int v_world_learner_asked_size])), (q_world_learner_table, .inr (4, [.ref q_world_learner_table_prefixes, .ref q_world_learner_table_suffixes, .ref q_world_learner_table_known, .ref q_world_learner_table_bits, .int v_world_learner_table_letters])), (q_world_learner_table_prefixes, .inr (6, [.ref q_world_learner_table_prefixes_words, .int v_world_learner_table_prefixes_size, .int v_world_learner_table_prefixes_longest])), (q_world_learner_table_prefixes_words, .inl (cJ, 40, .inr (.inl v_world_learner_table_prefixes_words))), (q_world_learner_table_suffixes, .inr (6, [.ref q_world_learner_table_suffixes_words, .int v_world_learner_table_suffixes_size, .int v_world_learner_table_suffixes_longest])), (q_world_learner_table_suffixes_words, .inl (cJ, 16, .inr (.inl v_world_learner_table_suffixes_words))), (q_world_learner_table_known, .inl (cI, 160, .inl v_world_learner_table_known)), (q_world_learner_table_bits, .inl (cI, 160, .inl v_world_learner_table_bits)), (q_world_learner_hypothesis, .inr (0, [.ref q_world_learner_hypothesis_moves, .ref q_world_learner_hypothesis_finals, .int v_world_learner_hypothesis_size, .int v_world_learner_hypothesis_letters])), (q_world_learner_hypothesis_moves, .inl (cI, 120, .inl v_world_learner_hypothesis_moves)), (q_world_learner_hypothesis_finals, .inl (cI, 40, .inl v_world_learner_hypothesis_finals))]
abbrev rm_TL_begin : Room := { frames := 6, cells := 0, slots := 0, locals := 128 }
def f_TL_begin (x1 : Int32) (x2 : Int32) (v_world_teacher_machine_letters : Int32) (v_world_learner_mode : Int32) (v_world_learner_budget : Int32) (v_world_learner_formed : Int32) (v_world_learner_counterexample : Int64) (v_world_learner_corrections : Int32) (v_world_learner_deceived : Int32) (v_world_learner_asked_size : Int32) (v_world_learner_table_letters : Int32) (v_world_learner_table_prefixes_size : Int32) (v_world_learner_table_prefixes_longest : Int32) (v_world_learner_table_prefixes_words : (Nat → Int64)) (v_world_learner_table_suffixes_size : Int32) (v_world_learner_table_suffixes_longest : Int32) (v_world_learner_table_suffixes_words : (Nat → Int64)) (v_world_learner_table_known : (Nat → Int32)) (v_world_learner_table_bits : (Nat → Int32)) (v_world_learner_hypothesis_size : Int32) (v_world_learner_hypothesis_letters : Int32) (v_world_learner_hypothesis_moves : (Nat → Int32)) (v_world_learner_hypothesis_finals : (Nat → Int32)) : Option (Int32 × Int32 × (Nat → Int64) × Int32 × Int32 × (Nat → Int64) × Int32 × Int32 × (Nat → Int32) × (Nat → Int32) × Int32 × (Nat → Int32) × (Nat → Int32) × Int32 × Int32 × Int32 × Int32 × Int32 × Int64 × Int32 × Int32) :=
 (if x1 < 0 then
 (some ((-2 : Int32), v_world_learner_asked_size, v_world_learner_table_prefixes_words, v_world_learner_table_prefixes_size, v_world_learner_table_prefixes_longest, v_world_learner_table_suffixes_words, v_world_learner_table_suffixes_size, v_world_learner_table_suffixes_longest, v_world_learner_table_known, v_world_learner_table_bits, v_world_learner_table_letters, v_world_learner_hypothesis_moves, v_world_learner_hypothesis_finals, v_world_learner_hypothesis_size, v_world_learner_hypothesis_letters, v_world_learner_mode, v_world_learner_budget, v_world_learner_formed, v_world_learner_counterexample, v_world_learner_corrections, v_world_learner_deceived))
 else
 (if (2 : Int32) < x1 then
 (some ((-2 : Int32), v_world_learner_asked_size, v_world_learner_table_prefixes_words, v_world_learner_table_prefixes_size, v_world_learner_table_prefixes_longest, v_world_learner_table_suffixes_words, v_world_learner_table_suffixes_size, v_world_learner_table_suffixes_longest, v_world_learner_table_known, v_world_learner_table_bits, v_world_learner_table_letters, v_world_learner_hypothesis_moves, v_world_learner_hypothesis_finals, v_world_learner_hypothesis_size, v_world_learner_hypothesis_letters, v_world_learner_mode, v_world_learner_budget, v_world_learner_formed, v_world_learner_counterexample, v_world_learner_corrections, v_world_learner_deceived))
 else
 (if x2 < 0 then
 (some ((-2 : Int32), v_world_learner_asked_size, v_world_learner_table_prefixes_words, v_world_learner_table_prefixes_size, v_world_learner_table_prefixes_longest, v_world_learner_table_suffixes_words, v_world_learner_table_suffixes_size, v_world_learner_table_suffixes_longest, v_world_learner_table_known, v_world_learner_table_bits, v_world_learner_table_letters, v_world_learner_hypothesis_moves, v_world_learner_hypothesis_finals, v_world_learner_hypothesis_size, v_world_learner_hypothesis_letters, v_world_learner_mode, v_world_learner_budget, v_world_learner_formed, v_world_learner_counterexample, v_world_learner_corrections, v_world_learner_deceived))
 else
 (if x2 ≤ (300 : Int32) then
 (bd18 (f_Wo_startLearner v_world_teacher_machine_letters v_world_learner_table_prefixes_words v_world_learner_table_suffixes_words v_world_learner_table_known v_world_learner_table_bits v_world_learner_hypothesis_moves v_world_learner_hypothesis_finals) (fun v_world_learner_asked_size_1 v_world_learner_table_prefixes_words_1 v_world_learner_table_prefixes_size_1 v_world_learner_table_prefixes_longest_1 v_world_learner_table_suffixes_words_1 v_world_learner_table_suffixes_size_1 v_world_learner_table_suffixes_longest_1 v_world_learner_table_known_1 v_world_learner_table_bits_1 v_world_learner_table_letters_1 v_world_learner_hypothesis_moves_1 v_world_learner_hypothesis_finals_1 v_world_learner_hypothesis_size_1 v_world_learner_hypothesis_letters_1 v_world_learner_formed_1 v_world_learner_counterexample_1 v_world_learner_corrections_1 v_world_learner_deceived_1 =>
 (some (v_world_learner_mode, v_world_learner_asked_size_1, v_world_learner_table_prefixes_words_1, v_world_learner_table_prefixes_size_1, v_world_learner_table_prefixes_longest_1, v_world_learner_table_suffixes_words_1, v_world_learner_table_suffixes_size_1, v_world_learner_table_suffixes_longest_1, v_world_learner_table_known_1, v_world_learner_table_bits_1, v_world_learner_table_letters_1, v_world_learner_hypothesis_moves_1, v_world_learner_hypothesis_finals_1, v_world_learner_hypothesis_size_1, v_world_learner_hypothesis_letters_1, x1, x2, v_world_learner_formed_1, v_world_learner_counterexample_1, v_world_learner_corrections_1, v_world_learner_deceived_1))))
 else
 (some ((-2 : Int32), v_world_learner_asked_size, v_world_learner_table_prefixes_words, v_world_learner_table_prefixes_size, v_world_learner_table_prefixes_longest, v_world_learner_table_suffixes_words, v_world_learner_table_suffixes_size, v_world_learner_table_suffixes_longest, v_world_learner_table_known, v_world_learner_table_bits, v_world_learner_table_letters, v_world_learner_hypothesis_moves, v_world_learner_hypothesis_finals, v_world_learner_hypothesis_size, v_world_learner_hypothesis_letters, v_world_learner_mode, v_world_learner_budget, v_world_learner_formed, v_world_learner_counterexample, v_world_learner_corrections, v_world_learner_deceived))))))
abbrev ws_Ta_hasRoom (cI cJ cZ : ClassId) (q_this q_prefixes q_suffixes q_known q_bits q_prefixes_words q_suffixes_words : Nat) (v_letters : Int32) (v_prefixes_size : Int32) (v_prefixes_longest : Int32) (v_prefixes_words : (Nat → Int64)) (v_suffixes_size : Int32) (v_suffixes_longest : Int32) (v_suffixes_words : (Nat → Int64)) : va_W := [(q_this, .inr (4, [.ref q_prefixes, .ref q_suffixes, .ref q_known, .ref q_bits, .int v_letters])), (q_prefixes, .inr (6, [.ref q_prefixes_words, .int v_prefixes_size, .int v_prefixes_longest])), (q_prefixes_words, .inl (cJ, 40, .inr (.inl v_prefixes_words))), (q_suffixes, .inr (6, [.ref q_suffixes_words, .int v_suffixes_size, .int v_suffixes_longest])), (q_suffixes_words, .inl (cJ, 16, .inr (.inl v_suffixes_words)))]
abbrev rm_Ta_hasRoom : Room := { frames := 1, cells := 0, slots := 0, locals := 21 }
def f_Ta_hasRoom_J32 (x2 : Int32) (x3 : Int32) (v_prefixes_size : Int32) (v_prefixes_longest : Int32) (v_suffixes_longest : Int32) : Option (Int32) :=
 (if (40 : Int32) < (v_prefixes_size + x2) then
 (some (0 : Int32))
 else
 (if (16 : Int32) < (((if v_prefixes_longest < x3 then x3 else v_prefixes_longest) + (1 : Int32)) + v_suffixes_longest) then
 (some (0 : Int32))
 else
 (some (1 : Int32))))
def f_Ta_hasRoom_J32v1 (x2 : Int32) (x3 : Int32) (v_prefixes_size : Int32) (v_prefixes_longest : Int32) : Option (Int32) :=
 (if (40 : Int32) < (v_prefixes_size + x2) then
 (some (0 : Int32))
 else
 (if (16 : Int32) < (((if v_prefixes_longest < x3 then x3 else v_prefixes_longest) + (1 : Int32)) + v_prefixes_longest) then
 (some (0 : Int32))
 else
 (some (1 : Int32))))
def f_Ta_hasRoom_J15 (x1 : Int32) (x2 : Int32) (x3 : Int32) (v_prefixes_size : Int32) (v_prefixes_longest : Int32) (v_suffixes_longest : Int32) : Option (Int32) :=
 (if x1 = 0 then
 (f_Ta_hasRoom_J32 x2 x3 v_prefixes_size v_prefixes_longest v_suffixes_longest)
 else
 (f_Ta_hasRoom_J32v1 x2 x3 v_prefixes_size v_prefixes_longest))
def f_Ta_hasRoom_J32v3 (x2 : Int32) (x3 : Int32) (v_suffixes_size : Int32) (v_suffixes_longest : Int32) : Option (Int32) :=
 (if (16 : Int32) < (v_suffixes_size + x2) then
 (some (0 : Int32))
 else
 (if (16 : Int32) < (((if v_suffixes_longest < x3 then x3 else v_suffixes_longest) + (1 : Int32)) + v_suffixes_longest) then
 (some (0 : Int32))
 else
 (some (1 : Int32))))
def f_Ta_hasRoom_J32v4 (x2 : Int32) (x3 : Int32) (v_prefixes_longest : Int32) (v_suffixes_size : Int32) (v_suffixes_longest : Int32) : Option (Int32) :=
 (if (16 : Int32) < (v_suffixes_size + x2) then
 (some (0 : Int32))
 else
 (if (16 : Int32) < (((if v_suffixes_longest < x3 then x3 else v_suffixes_longest) + (1 : Int32)) + v_prefixes_longest) then
 (some (0 : Int32))
 else
 (some (1 : Int32))))
def f_Ta_hasRoom_J15v3 (x1 : Int32) (x2 : Int32) (x3 : Int32) (v_prefixes_longest : Int32) (v_suffixes_size : Int32) (v_suffixes_longest : Int32) : Option (Int32) :=
 (if x1 = 0 then
 (f_Ta_hasRoom_J32v3 x2 x3 v_suffixes_size v_suffixes_longest)
 else
 (f_Ta_hasRoom_J32v4 x2 x3 v_prefixes_longest v_suffixes_size v_suffixes_longest))
def f_Ta_hasRoom (x1 : Int32) (x2 : Int32) (x3 : Int32) (v_prefixes_size : Int32) (v_prefixes_longest : Int32) (v_suffixes_size : Int32) (v_suffixes_longest : Int32) : Option (Int32) :=
 (if x1 = 0 then
 (f_Ta_hasRoom_J15 x1 x2 x3 v_prefixes_size v_prefixes_longest v_suffixes_longest)
 else
 (f_Ta_hasRoom_J15v3 x1 x2 x3 v_prefixes_longest v_suffixes_size v_suffixes_longest))
abbrev ws_WL_contains (cI cJ cZ : ClassId) (q_this q_words : Nat) (n_words : Nat) (v_size : Int32) (v_longest : Int32) (v_words : (Nat → Int64)) : va_W := [(q_this, .inr (6, [.ref q_words, .int v_size, .int v_longest])), (q_words, .inl (cJ, n_words, .inr (.inl v_words)))]
abbrev rm_WL_contains : Room := { frames := 0, cells := 0, slots := 0, locals := 0 }
def f_WL_contains_L2 (n_words : Nat) (v_size : Int32) (v_words : (Nat → Int64)) (x1 : Int64) (K rec : Int32 → Option (Int32)) (x3 : Int32) : Option (Int32) :=
 (if v_size ≤ x3 then
 (K x3)
 else
 (gIn x3 n_words
 (if (v_words x3.toNatClampNeg) = x1 then
 (some (1 : Int32))
 else
 (bnd (x3 + 1) (fun x3_1 =>
 (rec x3_1))))))
def f_WL_contains (n_words : Nat) (x1 : Int64) (v_size : Int32) (v_words : (Nat → Int64)) : Option (Int32) :=
 (itr (fun _ => none) (f_WL_contains_L2 n_words v_size v_words x1 (fun x3 =>
 (some (0 : Int32)))) FU (0 : Int32))
abbrev ws_Le_addWord (cI cJ cZ : ClassId) (q_this q_asked q_table q_hypothesis q_representatives q_table_prefixes q_table_suffixes q_table_known q_table_bits q_table_prefixes_words q_table_suffixes_words : Nat) (v_mode : Int32) (v_budget : Int32) (v_formed : Int32) (v_counterexample : Int64) (v_corrections : Int32) (v_deceived : Int32) (v_table_letters : Int32) (v_table_prefixes_size : Int32) (v_table_prefixes_longest : Int32) (v_table_prefixes_words : (Nat → Int64)) (v_table_suffixes_size : Int32) (v_table_suffixes_longest : Int32) (v_table_suffixes_words : (Nat → Int64)) : va_W := [(q_this, .inr (1, [.ref q_asked, .ref q_table, .ref q_hypothesis, .ref q_representatives, .int v_mode, .int v_budget, .int v_formed, .long v_counterexample, .int v_corrections, .int v_deceived])), (q_table, .inr (4, [.ref q_table_prefixes, .ref q_table_suffixes, .ref q_table_known, .ref q_table_bits, .int v_table_letters])), (q_table_prefixes, .inr (6, [.ref q_table_prefixes_words, .int v_table_prefixes_size, .int v_table_prefixes_longest])), (q_table_prefixes_words, .inl (cJ, 40, .inr (.inl v_table_prefixes_words))), (q_table_suffixes, .inr (6, [.ref q_table_suffixes_words, .int v_table_suffixes_size, .int v_table_suffixes_longest])), (q_table_suffixes_words, .inl (cJ, 16, .inr (.inl v_table_suffixes_words)))]
abbrev rm_Le_addWord : Room := { frames := 2, cells := 0, slots := 0, locals := 46 }
def f_Le_addWord_J21 (x1 : Int32) (x2 : Int64) (v_formed : Int32) (v_table_prefixes_size : Int32) (v_table_prefixes_longest : Int32) (v_table_prefixes_words : (Nat → Int64)) (v_table_suffixes_size : Int32) (v_table_suffixes_longest : Int32) (v_table_suffixes_words : (Nat → Int64)) : Option (Int32 × (Nat → Int64) × Int32 × Int32 × (Nat → Int64) × Int32 × Int32 × Int32) :=
 (bd1 (f_WL_contains 40 x2 v_table_prefixes_size v_table_prefixes_words) (fun r =>
 (if r = 0 then
 (bd1 (f_Ws_lengthOf x2) (fun r_1 =>
 (bd1 (f_Ta_hasRoom x1 (1 : Int32) r_1 v_table_prefixes_size v_table_prefixes_longest v_table_suffixes_size v_table_suffixes_longest) (fun r_2 =>
 (if r_2 = 0 then
 (some ((-5 : Int32), v_table_prefixes_words, v_table_prefixes_size, v_table_prefixes_longest, v_table_suffixes_words, v_table_suffixes_size, v_table_suffixes_longest, v_formed))
 else
 (bd3 (f_WL_add 40 x2 v_table_prefixes_size v_table_prefixes_longest v_table_prefixes_words) (fun v_table_prefixes_words_1 v_table_prefixes_size_1 v_table_prefixes_longest_1 =>
 (some ((1 : Int32), v_table_prefixes_words_1, v_table_prefixes_size_1, v_table_prefixes_longest_1, v_table_suffixes_words, v_table_suffixes_size, v_table_suffixes_longest, (0 : Int32))))))))))
 else
 (some ((0 : Int32), v_table_prefixes_words, v_table_prefixes_size, v_table_prefixes_longest, v_table_suffixes_words, v_table_suffixes_size, v_table_suffixes_longest, v_formed)))))
def f_Le_addWord_J21v1 (x1 : Int32) (x2 : Int64) (v_formed : Int32) (v_table_prefixes_size : Int32) (v_table_prefixes_longest : Int32) (v_table_prefixes_words : (Nat → Int64)) (v_table_suffixes_size : Int32) (v_table_suffixes_longest : Int32) (v_table_suffixes_words : (Nat → Int64)) : Option (Int32 × (Nat → Int64) × Int32 × Int32 × (Nat → Int64) × Int32 × Int32 × Int32) :=
 (bd1 (f_WL_contains 16 x2 v_table_suffixes_size v_table_suffixes_words) (fun r =>
 (if r = 0 then
 (bd1 (f_Ws_lengthOf x2) (fun r_1 =>
 (bd1 (f_Ta_hasRoom x1 (1 : Int32) r_1 v_table_prefixes_size v_table_prefixes_longest v_table_suffixes_size v_table_suffixes_longest) (fun r_2 =>
 (if r_2 = 0 then
 (some ((-5 : Int32), v_table_prefixes_words, v_table_prefixes_size, v_table_prefixes_longest, v_table_suffixes_words, v_table_suffixes_size, v_table_suffixes_longest, v_formed))
 else
 (bd3 (f_WL_add 16 x2 v_table_suffixes_size v_table_suffixes_longest v_table_suffixes_words) (fun v_table_suffixes_words_1 v_table_suffixes_size_1 v_table_suffixes_longest_1 =>
 (some ((1 : Int32), v_table_prefixes_words, v_table_prefixes_size, v_table_prefixes_longest, v_table_suffixes_words_1, v_table_suffixes_size_1, v_table_suffixes_longest_1, (0 : Int32))))))))))
 else
 (some ((0 : Int32), v_table_prefixes_words, v_table_prefixes_size, v_table_prefixes_longest, v_table_suffixes_words, v_table_suffixes_size, v_table_suffixes_longest, v_formed)))))
def f_Le_addWord (x1 : Int32) (x2 : Int64) (v_formed : Int32) (v_table_prefixes_size : Int32) (v_table_prefixes_longest : Int32) (v_table_prefixes_words : (Nat → Int64)) (v_table_suffixes_size : Int32) (v_table_suffixes_longest : Int32) (v_table_suffixes_words : (Nat → Int64)) : Option (Int32 × (Nat → Int64) × Int32 × Int32 × (Nat → Int64) × Int32 × Int32 × Int32) :=
 (if x1 = 0 then
 (f_Le_addWord_J21 x1 x2 v_formed v_table_prefixes_size v_table_prefixes_longest v_table_prefixes_words v_table_suffixes_size v_table_suffixes_longest v_table_suffixes_words)
 else
 (f_Le_addWord_J21v1 x1 x2 v_formed v_table_prefixes_size v_table_prefixes_longest v_table_prefixes_words v_table_suffixes_size v_table_suffixes_longest v_table_suffixes_words))
abbrev ws_Ws_head (cI cJ cZ : ClassId) : va_W := []
abbrev rm_Ws_head : Room := { frames := 0, cells := 0, slots := 0, locals := 0 }
def f_Ws_head (x0 : Int64) (x2 : Int32) : Option (Int64) :=
 (bnd ((1 : Int64) <<< (((2 : Int32) * x2).toInt64 &&& 63)) (fun x3 =>
 (some ((x0 &&& (x3 - (1 : Int64))) ||| x3))))
abbrev ws_Ws_tailFrom (cI cJ cZ : ClassId) : va_W := []
abbrev rm_Ws_tailFrom : Room := { frames := 0, cells := 0, slots := 0, locals := 0 }
def f_Ws_tailFrom (x0 : Int64) (x2 : Int32) : Option (Int64) :=
 (some (x0 >>> (((2 : Int32) * x2).toInt64 &&& 63)))
abbrev ws_Le_part (cI cJ cZ : ClassId) : va_W := []
abbrev rm_Le_part : Room := { frames := 1, cells := 0, slots := 0, locals := 24 }
def f_Le_part (x0 : Int32) (x1 : Int64) (x3 : Int32) : Option (Int64) :=
 (if x0 = 0 then
 (bd1 (f_Ws_head x1 x3) (fun r =>
 (some r)))
 else
 (bd1 (f_Ws_lengthOf x1) (fun r_1 =>
 (bd1 (f_Ws_tailFrom x1 (r_1 - x3)) (fun r_2 =>
 (some r_2))))))
abbrev ws_Le_addParts (cI cJ cZ : ClassId) (q_this q_asked q_table q_hypothesis q_representatives q_table_prefixes q_table_suffixes q_table_known q_table_bits q_table_prefixes_words q_table_suffixes_words : Nat) (v_mode : Int32) (v_budget : Int32) (v_formed : Int32) (v_counterexample : Int64) (v_corrections : Int32) (v_deceived : Int32) (v_table_letters : Int32) (v_table_prefixes_size : Int32) (v_table_prefixes_longest : Int32) (v_table_prefixes_words : (Nat → Int64)) (v_table_suffixes_size : Int32) (v_table_suffixes_longest : Int32) (v_table_suffixes_words : (Nat → Int64)) : va_W := [(q_this, .inr (1, [.ref q_asked, .ref q_table, .ref q_hypothesis, .ref q_representatives, .int v_mode, .int v_budget, .int v_formed, .long v_counterexample, .int v_corrections, .int v_deceived])), (q_table, .inr (4, [.ref q_table_prefixes, .ref q_table_suffixes, .ref q_table_known, .ref q_table_bits, .int v_table_letters])), (q_table_prefixes, .inr (6, [.ref q_table_prefixes_words, .int v_table_prefixes_size, .int v_table_prefixes_longest])), (q_table_prefixes_words, .inl (cJ, 40, .inr (.inl v_table_prefixes_words))), (q_table_suffixes, .inr (6, [.ref q_table_suffixes_words, .int v_table_suffixes_size, .int v_table_suffixes_longest])), (q_table_suffixes_words, .inl (cJ, 16, .inr (.inl v_table_suffixes_words)))]
abbrev rm_Le_addParts : Room := { frames := 3, cells := 0, slots := 0, locals := 70 }
def f_Le_addParts_J67 (rec : Int32 → Int32 → Int32 → Option (Int32 × (Nat → Int64) × Int32 × Int32 × (Nat → Int64) × Int32 × Int32 × Int32)) (x6 : Int32) (x7 : Int32) (x8 : Int32) : Option (Int32 × (Nat → Int64) × Int32 × Int32 × (Nat → Int64) × Int32 × Int32 × Int32) :=
 (bnd (x8 + 1) (fun x8_1 =>
 (rec x6 x7 x8_1)))
def f_Le_addParts_L38 (v_table_prefixes_size : Int32) (v_table_prefixes_words : (Nat → Int64)) (x1 : Int32) (x2 : Int64) (x5 : Int32) (K rec : Int32 → Int32 → Int32 → Option (Int32 × (Nat → Int64) × Int32 × Int32 × (Nat → Int64) × Int32 × Int32 × Int32)) (x6 : Int32) (x7 : Int32) (x8 : Int32) : Option (Int32 × (Nat → Int64) × Int32 × Int32 × (Nat → Int64) × Int32 × Int32 × Int32) :=
 (if x5 < x8 then
 (K x6 x7 x8)
 else
 (bd1 (f_Le_part x1 x2 x8) (fun r =>
 (bd1 (f_WL_contains 40 r v_table_prefixes_size v_table_prefixes_words) (fun r_1 =>
 (if r_1 = 0 then
 (bnd (x6 + 1) (fun x6_1 =>
 (f_Le_addParts_J67 rec x6_1 x8 x8)))
 else
 (f_Le_addParts_J67 rec x6 x7 x8)))))))
def f_Le_addParts_L101 (x1 : Int32) (x2 : Int64) (x5 : Int32) (K rec : Int32 → (Nat → Int64) → Int32 → Int32 → (Nat → Int64) → Int32 → Int32 → Int32 → Option (Int32 × (Nat → Int64) × Int32 × Int32 × (Nat → Int64) × Int32 × Int32 × Int32)) (x8 : Int32) (v_table_prefixes_words : (Nat → Int64)) (v_table_prefixes_size : Int32) (v_table_prefixes_longest : Int32) (v_table_suffixes_words : (Nat → Int64)) (v_table_suffixes_size : Int32) (v_table_suffixes_longest : Int32) (v_formed : Int32) : Option (Int32 × (Nat → Int64) × Int32 × Int32 × (Nat → Int64) × Int32 × Int32 × Int32) :=
 (if x5 < x8 then
 (K x8 v_table_prefixes_words v_table_prefixes_size v_table_prefixes_longest v_table_suffixes_words v_table_suffixes_size v_table_suffixes_longest v_formed)
 else
 (bd1 (f_Le_part x1 x2 x8) (fun r =>
 (bd8 (f_Le_addWord x1 r v_formed v_table_prefixes_size v_table_prefixes_longest v_table_prefixes_words v_table_suffixes_size v_table_suffixes_longest v_table_suffixes_words) (fun r_1 v_table_prefixes_words_1 v_table_prefixes_size_1 v_table_prefixes_longest_1 v_table_suffixes_words_1 v_table_suffixes_size_1 v_table_suffixes_longest_1 v_formed_1 =>
 (bnd (x8 + 1) (fun x8_1 =>
 (rec x8_1 v_table_prefixes_words_1 v_table_prefixes_size_1 v_table_prefixes_longest_1 v_table_suffixes_words_1 v_table_suffixes_size_1 v_table_suffixes_longest_1 v_formed_1))))))))
def f_Le_addParts_J21 (x1 : Int32) (x2 : Int64) (v_formed : Int32) (v_table_prefixes_size : Int32) (v_table_prefixes_longest : Int32) (v_table_prefixes_words : (Nat → Int64)) (v_table_suffixes_size : Int32) (v_table_suffixes_longest : Int32) (v_table_suffixes_words : (Nat → Int64)) : Option (Int32 × (Nat → Int64) × Int32 × Int32 × (Nat → Int64) × Int32 × Int32 × Int32) :=
 (bd1 (f_Ws_lengthOf x2) (fun r =>
 (itr (fun _ _ _ => none) (f_Le_addParts_L38 v_table_prefixes_size v_table_prefixes_words x1 x2 r (fun x6 x7 x8 =>
 (if x6 = 0 then
 (some ((0 : Int32), v_table_prefixes_words, v_table_prefixes_size, v_table_prefixes_longest, v_table_suffixes_words, v_table_suffixes_size, v_table_suffixes_longest, v_formed))
 else
 (bd1 (f_Ta_hasRoom x1 x6 x7 v_table_prefixes_size v_table_prefixes_longest v_table_suffixes_size v_table_suffixes_longest) (fun r_1 =>
 (if r_1 = 0 then
 (some ((-5 : Int32), v_table_prefixes_words, v_table_prefixes_size, v_table_prefixes_longest, v_table_suffixes_words, v_table_suffixes_size, v_table_suffixes_longest, v_formed))
 else
 (itr (fun _ _ _ _ _ _ _ _ => none) (f_Le_addParts_L101 x1 x2 r (fun x8_1 v_table_prefixes_words_1 v_table_prefixes_size_1 v_table_prefixes_longest_1 v_table_suffixes_words_1 v_table_suffixes_size_1 v_table_suffixes_longest_1 v_formed_1 =>
 (some (x6, v_table_prefixes_words_1, v_table_prefixes_size_1, v_table_prefixes_longest_1, v_table_suffixes_words_1, v_table_suffixes_size_1, v_table_suffixes_longest_1, v_formed_1)))) FU (0 : Int32) v_table_prefixes_words v_table_prefixes_size v_table_prefixes_longest v_table_suffixes_words v_table_suffixes_size v_table_suffixes_longest v_formed))))))) FU (0 : Int32) (0 : Int32) (0 : Int32))))
def f_Le_addParts_J67v2 (rec : Int32 → Int32 → Int32 → Option (Int32 × (Nat → Int64) × Int32 × Int32 × (Nat → Int64) × Int32 × Int32 × Int32)) (x6 : Int32) (x7 : Int32) (x8 : Int32) : Option (Int32 × (Nat → Int64) × Int32 × Int32 × (Nat → Int64) × Int32 × Int32 × Int32) :=
 (bnd (x8 + 1) (fun x8_1 =>
 (rec x6 x7 x8_1)))
def f_Le_addParts_L38v2 (v_table_suffixes_size : Int32) (v_table_suffixes_words : (Nat → Int64)) (x1 : Int32) (x2 : Int64) (x5 : Int32) (K rec : Int32 → Int32 → Int32 → Option (Int32 × (Nat → Int64) × Int32 × Int32 × (Nat → Int64) × Int32 × Int32 × Int32)) (x6 : Int32) (x7 : Int32) (x8 : Int32) : Option (Int32 × (Nat → Int64) × Int32 × Int32 × (Nat → Int64) × Int32 × Int32 × Int32) :=
 (if x5 < x8 then
 (K x6 x7 x8)
 else
 (bd1 (f_Le_part x1 x2 x8) (fun r =>
 (bd1 (f_WL_contains 16 r v_table_suffixes_size v_table_suffixes_words) (fun r_1 =>
 (if r_1 = 0 then
 (bnd (x6 + 1) (fun x6_1 =>
 (f_Le_addParts_J67v2 rec x6_1 x8 x8)))
 else
 (f_Le_addParts_J67v2 rec x6 x7 x8)))))))
def f_Le_addParts_J21v2 (x1 : Int32) (x2 : Int64) (v_formed : Int32) (v_table_prefixes_size : Int32) (v_table_prefixes_longest : Int32) (v_table_prefixes_words : (Nat → Int64)) (v_table_suffixes_size : Int32) (v_table_suffixes_longest : Int32) (v_table_suffixes_words : (Nat → Int64)) : Option (Int32 × (Nat → Int64) × Int32 × Int32 × (Nat → Int64) × Int32 × Int32 × Int32) :=
 (bd1 (f_Ws_lengthOf x2) (fun r =>
 (itr (fun _ _ _ => none) (f_Le_addParts_L38v2 v_table_suffixes_size v_table_suffixes_words x1 x2 r (fun x6 x7 x8 =>
 (if x6 = 0 then
 (some ((0 : Int32), v_table_prefixes_words, v_table_prefixes_size, v_table_prefixes_longest, v_table_suffixes_words, v_table_suffixes_size, v_table_suffixes_longest, v_formed))
 else
 (bd1 (f_Ta_hasRoom x1 x6 x7 v_table_prefixes_size v_table_prefixes_longest v_table_suffixes_size v_table_suffixes_longest) (fun r_1 =>
 (if r_1 = 0 then
 (some ((-5 : Int32), v_table_prefixes_words, v_table_prefixes_size, v_table_prefixes_longest, v_table_suffixes_words, v_table_suffixes_size, v_table_suffixes_longest, v_formed))
 else
 (itr (fun _ _ _ _ _ _ _ _ => none) (f_Le_addParts_L101 x1 x2 r (fun x8_1 v_table_prefixes_words_1 v_table_prefixes_size_1 v_table_prefixes_longest_1 v_table_suffixes_words_1 v_table_suffixes_size_1 v_table_suffixes_longest_1 v_formed_1 =>
 (some (x6, v_table_prefixes_words_1, v_table_prefixes_size_1, v_table_prefixes_longest_1, v_table_suffixes_words_1, v_table_suffixes_size_1, v_table_suffixes_longest_1, v_formed_1)))) FU (0 : Int32) v_table_prefixes_words v_table_prefixes_size v_table_prefixes_longest v_table_suffixes_words v_table_suffixes_size v_table_suffixes_longest v_formed))))))) FU (0 : Int32) (0 : Int32) (0 : Int32))))
def f_Le_addParts (x1 : Int32) (x2 : Int64) (v_formed : Int32) (v_table_prefixes_size : Int32) (v_table_prefixes_longest : Int32) (v_table_prefixes_words : (Nat → Int64)) (v_table_suffixes_size : Int32) (v_table_suffixes_longest : Int32) (v_table_suffixes_words : (Nat → Int64)) : Option (Int32 × (Nat → Int64) × Int32 × Int32 × (Nat → Int64) × Int32 × Int32 × Int32) :=
 (if x1 = 0 then
 (f_Le_addParts_J21 x1 x2 v_formed v_table_prefixes_size v_table_prefixes_longest v_table_prefixes_words v_table_suffixes_size v_table_suffixes_longest v_table_suffixes_words)
 else
 (f_Le_addParts_J21v2 x1 x2 v_formed v_table_prefixes_size v_table_prefixes_longest v_table_prefixes_words v_table_suffixes_size v_table_suffixes_longest v_table_suffixes_words))
abbrev ws_Qu_placeOf (cI cJ cZ : ClassId) (q_this q_entries : Nat) (v_size : Int32) (v_entries : (Nat → Int64)) : va_W := [(q_this, .inr (2, [.ref q_entries, .int v_size])), (q_entries, .inl (cJ, 300, .inr (.inl v_entries)))]
abbrev rm_Qu_placeOf : Room := { frames := 0, cells := 0, slots := 0, locals := 0 }
def f_Qu_placeOf_J58 (rec : Int32 → Int32 → Int32 → Option (Int32)) (x3 : Int32) (x4 : Int32) (x5 : Int32) : Option (Int32) :=
 (bnd (x5 + 1) (fun x5_1 =>
 (rec x3 x4 x5_1)))
def f_Qu_placeOf_L11 (v_entries : (Nat → Int64)) (x1 : Int64) (K rec : Int32 → Int32 → Int32 → Option (Int32)) (x3 : Int32) (x4 : Int32) (x5 : Int32) : Option (Int32) :=
 (if (32 : Int32) ≤ x5 then
 (K x3 x4 x5)
 else
 (if x4 ≤ x3 then
 (K x3 x4 x5)
 else
 (bnd ((x3 + x4) / (2 : Int32)) (fun x6 =>
 (gIn x6 300
 (if ((v_entries x6.toNatClampNeg) >>> (1 : Int64)) < x1 then
 (bnd (x6 + (1 : Int32)) (fun x3_1 =>
 (f_Qu_placeOf_J58 rec x3_1 x4 x5)))
 else
 (f_Qu_placeOf_J58 rec x3 x6 x5)))))))
def f_Qu_placeOf (x1 : Int64) (v_size : Int32) (v_entries : (Nat → Int64)) : Option (Int32) :=
 (itr (fun _ _ _ => none) (f_Qu_placeOf_L11 v_entries x1 (fun x3 x4 x5 =>
 (some x3))) FU (0 : Int32) v_size (0 : Int32))
abbrev ws_Qu_answerTo (cI cJ cZ : ClassId) (q_this q_entries : Nat) (v_size : Int32) (v_entries : (Nat → Int64)) : va_W := [(q_this, .inr (2, [.ref q_entries, .int v_size])), (q_entries, .inl (cJ, 300, .inr (.inl v_entries)))]
abbrev rm_Qu_answerTo : Room := { frames := 1, cells := 0, slots := 0, locals := 26 }
def f_Qu_answerTo_J32 (x3 : Int32) (s0 : Int32) (v_entries : (Nat → Int64)) : Option (Int32) :=
 (if s0 = 0 then
 (some (-1 : Int32))
 else
 (gIn x3 300
 (some ((v_entries x3.toNatClampNeg) &&& (1 : Int64)).toInt32)))
def f_Qu_answerTo_J31 (x3 : Int32) (v_entries : (Nat → Int64)) : Option (Int32) :=
 (f_Qu_answerTo_J32 x3 (0 : Int32) v_entries)
def f_Qu_answerTo (x1 : Int64) (v_size : Int32) (v_entries : (Nat → Int64)) : Option (Int32) :=
 (bd1 (f_Qu_placeOf x1 v_size v_entries) (fun r =>
 (if v_size ≤ r then
 (f_Qu_answerTo_J31 r v_entries)
 else
 (gIn r 300
 (if ((v_entries r.toNatClampNeg) >>> (1 : Int64)) = x1 then
 (f_Qu_answerTo_J32 r (1 : Int32) v_entries)
 else
 (f_Qu_answerTo_J31 r v_entries))))))
abbrev ws_Qu_note (cI cJ cZ : ClassId) (q_this q_entries : Nat) (v_size : Int32) (v_entries : (Nat → Int64)) : va_W := [(q_this, .inr (2, [.ref q_entries, .int v_size])), (q_entries, .inl (cJ, 300, .inr (.inl v_entries)))]
abbrev rm_Qu_note : Room := { frames := 1, cells := 0, slots := 0, locals := 26 }
def f_Qu_note (x1 : Int64) (x3 : Int32) (v_size : Int32) (v_entries : (Nat → Int64)) : Option ((Nat → Int64) × Int32) :=
 (bd1 (f_Qu_placeOf x1 v_size v_entries) (fun r =>
 (if (300 : Int32) ≤ v_size then
 (some (v_entries, v_size))
 else
 (gCp r (r + (1 : Int32)) (v_size - r) 300 300
 (bnd (va_cpy v_entries v_entries r.toNatClampNeg (r + (1 : Int32)).toNatClampNeg (v_size - r).toNatClampNeg) (fun v_entries_1 =>
 (gIn r 300
 (bnd (vp_updL v_entries_1 r.toNatClampNeg ((x1 <<< (1 : Int64)) ||| x3.toInt64)) (fun v_entries_2 =>
 (bnd (v_size + (1 : Int32)) (fun v_size_1 =>
 (some (v_entries_2, v_size_1)))))))))))))
abbrev ws_Te_answerTo (cI cJ cZ : ClassId) (q_this q_machine q_lies q_machine_moves q_machine_finals : Nat) (v_lieCount : Int32) (v_machine_size : Int32) (v_machine_letters : Int32) (v_machine_moves : (Nat → Int32)) (v_machine_finals : (Nat → Int32)) (v_lies : (Nat → Int64)) : va_W := [(q_this, .inr (5, [.ref q_machine, .ref q_lies, .int v_lieCount])), (q_machine, .inr (0, [.ref q_machine_moves, .ref q_machine_finals, .int v_machine_size, .int v_machine_letters])), (q_machine_moves, .inl (cI, 24, .inl v_machine_moves)), (q_machine_finals, .inl (cI, 8, .inl v_machine_finals)), (q_lies, .inl (cJ, 4, .inr (.inl v_lies)))]
abbrev rm_Te_answerTo : Room := { frames := 2, cells := 0, slots := 0, locals := 49 }
def f_Te_answerTo (x1 : Int64) (v_lieCount : Int32) (v_machine_moves : (Nat → Int32)) (v_machine_finals : (Nat → Int32)) (v_lies : (Nat → Int64)) : Option (Int32) :=
 (bd1 (f_Au_verdict 24 8 x1 v_machine_moves v_machine_finals) (fun r =>
 (bd1 (f_Te_placeOfLie x1 v_lieCount v_lies) (fun r_1 =>
 (bnd (if r_1 = (-1 : Int32) then r else ((1 : Int32) - r)) (fun t =>
 (some t)))))))
abbrev ws_Le_askAbout (cI cJ cZ : ClassId) (q_this q_asked q_table q_hypothesis q_representatives q_asked_entries q_o3 q_o3_machine q_o3_lies q_o3_machine_moves q_o3_machine_finals : Nat) (v_mode : Int32) (v_budget : Int32) (v_formed : Int32) (v_counterexample : Int64) (v_corrections : Int32) (v_deceived : Int32) (v_asked_size : Int32) (v_asked_entries : (Nat → Int64)) (v_o3_lieCount : Int32) (v_o3_machine_size : Int32) (v_o3_machine_letters : Int32) (v_o3_machine_moves : (Nat → Int32)) (v_o3_machine_finals : (Nat → Int32)) (v_o3_lies : (Nat → Int64)) : va_W := [(q_this, .inr (1, [.ref q_asked, .ref q_table, .ref q_hypothesis, .ref q_representatives, .int v_mode, .int v_budget, .int v_formed, .long v_counterexample, .int v_corrections, .int v_deceived])), (q_asked, .inr (2, [.ref q_asked_entries, .int v_asked_size])), (q_asked_entries, .inl (cJ, 300, .inr (.inl v_asked_entries))), (q_o3, .inr (5, [.ref q_o3_machine, .ref q_o3_lies, .int v_o3_lieCount])), (q_o3_machine, .inr (0, [.ref q_o3_machine_moves, .ref q_o3_machine_finals, .int v_o3_machine_size, .int v_o3_machine_letters])), (q_o3_machine_moves, .inl (cI, 24, .inl v_o3_machine_moves)), (q_o3_machine_finals, .inl (cI, 8, .inl v_o3_machine_finals)), (q_o3_lies, .inl (cJ, 4, .inr (.inl v_o3_lies)))]
abbrev rm_Le_askAbout : Room := { frames := 3, cells := 0, slots := 0, locals := 72 }
def f_Le_askAbout (x1 : Int64) (v_budget : Int32) (v_asked_size : Int32) (v_asked_entries : (Nat → Int64)) (v_o3_lieCount : Int32) (v_o3_machine_moves : (Nat → Int32)) (v_o3_machine_finals : (Nat → Int32)) (v_o3_lies : (Nat → Int64)) : Option (Int32 × (Nat → Int64) × Int32) :=
 (bd1 (f_Qu_answerTo x1 v_asked_size v_asked_entries) (fun r =>
 (if r = (-1 : Int32) then
 (if v_asked_size < v_budget then
 (bd1 (f_Te_answerTo x1 v_o3_lieCount v_o3_machine_moves v_o3_machine_finals v_o3_lies) (fun r_1 =>
 (bd2 (f_Qu_note x1 r_1 v_asked_size v_asked_entries) (fun v_asked_entries_1 v_asked_size_1 =>
 (some (r_1, v_asked_entries_1, v_asked_size_1))))))
 else
 (some ((-4 : Int32), v_asked_entries, v_asked_size)))
 else
 (some (r, v_asked_entries, v_asked_size)))))
abbrev ws_Le_question (cI cJ cZ : ClassId) (q_this q_asked q_table q_hypothesis q_representatives q_table_prefixes q_table_suffixes q_table_known q_table_bits q_table_prefixes_words q_hypothesis_moves q_hypothesis_finals : Nat) (v_mode : Int32) (v_budget : Int32) (v_formed : Int32) (v_counterexample : Int64) (v_corrections : Int32) (v_deceived : Int32) (v_table_letters : Int32) (v_table_prefixes_size : Int32) (v_table_prefixes_longest : Int32) (v_table_prefixes_words : (Nat → Int64)) (v_hypothesis_size : Int32) (v_hypothesis_letters : Int32) (v_hypothesis_moves : (Nat → Int32)) (v_representatives : (Nat → Int32)) : va_W := [(q_this, .inr (1, [.ref q_asked, .ref q_table, .ref q_hypothesis, .ref q_representatives, .int v_mode, .int v_budget, .int v_formed, .long v_counterexample, .int v_corrections, .int v_deceived])), (q_table, .inr (4, [.ref q_table_prefixes, .ref q_table_suffixes, .ref q_table_known, .ref q_table_bits, .int v_table_letters])), (q_table_prefixes, .inr (6, [.ref q_table_prefixes_words, .int v_table_prefixes_size, .int v_table_prefixes_longest])), (q_table_prefixes_words, .inl (cJ, 40, .inr (.inl v_table_prefixes_words))), (q_hypothesis, .inr (0, [.ref q_hypothesis_moves, .ref q_hypothesis_finals, .int v_hypothesis_size, .int v_hypothesis_letters])), (q_hypothesis_moves, .inl (cI, 120, .inl v_hypothesis_moves)), (q_representatives, .inl (cI, 40, .inl v_representatives))]
abbrev rm_Le_question : Room := { frames := 2, cells := 0, slots := 0, locals := 48 }
def f_Le_question (x1 : Int64) (x3 : Int32) (v_table_prefixes_words : (Nat → Int64)) (v_hypothesis_moves : (Nat → Int32)) (v_representatives : (Nat → Int32)) : Option (Int64) :=
 (bd1 (f_Au_follow 120 x1 x3 v_hypothesis_moves) (fun r =>
 (gIn r 40
 (bnd (v_representatives r.toNatClampNeg) (fun x4 =>
 (gIn x4 40
 (bnd (v_table_prefixes_words x4.toNatClampNeg) (fun x5 =>
 (bd1 (f_Ws_tailFrom x1 x3) (fun r_1 =>
 (bd1 (f_Ws_lengthOf x5) (fun r_2 =>
 (bd1 (f_Ws_lengthOf r_1) (fun r_3 =>
 (bnd (if (16 : Int32) < (r_2 + r_3) then (0 : Int32) else (1 : Int32)) (fun t =>
 (if t = 0 then
 (some (-1 : Int64))
 else
 (bd1 (f_Ws_join x5 r_1) (fun r_4 =>
 (some r_4))))))))))))))))))))
abbrev ws_Le_addSplit (cI cJ cZ : ClassId) (q_this q_asked q_table q_hypothesis q_representatives q_asked_entries q_table_prefixes q_table_suffixes q_table_known q_table_bits q_table_prefixes_words q_table_suffixes_words q_hypothesis_moves q_hypothesis_finals q_o3 q_o3_machine q_o3_lies q_o3_machine_moves q_o3_machine_finals : Nat) (v_mode : Int32) (v_budget : Int32) (v_formed : Int32) (v_counterexample : Int64) (v_corrections : Int32) (v_deceived : Int32) (v_asked_size : Int32) (v_asked_entries : (Nat → Int64)) (v_table_letters : Int32) (v_table_prefixes_size : Int32) (v_table_prefixes_longest : Int32) (v_table_prefixes_words : (Nat → Int64)) (v_table_suffixes_size : Int32) (v_table_suffixes_longest : Int32) (v_table_suffixes_words : (Nat → Int64)) (v_hypothesis_size : Int32) (v_hypothesis_letters : Int32) (v_hypothesis_moves : (Nat → Int32)) (v_representatives : (Nat → Int32)) (v_o3_lieCount : Int32) (v_o3_machine_size : Int32) (v_o3_machine_letters : Int32) (v_o3_machine_moves : (Nat → Int32)) (v_o3_machine_finals : (Nat → Int32)) (v_o3_lies : (Nat → Int64)) : va_W := [(q_this, .inr (1, [.ref q_asked, .ref q_table, .ref q_hypothesis, .ref q_representatives, .int v_mode, .int v_budget, .int v_formed, .long v_counterexample, .int v_corrections, .int v_deceived])), (q_asked, .inr (2, [.ref q_asked_entries, .int v_asked_size])), (q_asked_entries, .inl (cJ, 300, .inr (.inl v_asked_entries))), (q_table, .inr (4, [.ref q_table_prefixes, .ref q_table_suffixes, .ref q_table_known, .ref q_table_bits, .int v_table_letters])), (q_table_prefixes, .inr (6, [.ref q_table_prefixes_words, .int v_table_prefixes_size, .int v_table_prefixes_longest])), (q_table_prefixes_words, .inl (cJ, 40, .inr (.inl v_table_prefixes_words))), (q_table_suffixes, .inr (6, [.ref q_table_suffixes_words, .int v_table_suffixes_size, .int v_table_suffixes_longest])), (q_table_suffixes_words, .inl (cJ, 16, .inr (.inl v_table_suffixes_words))), (q_hypothesis, .inr (0, [.ref q_hypothesis_moves, .ref q_hypothesis_finals, .int v_hypothesis_size, .int v_hypothesis_letters])), (q_hypothesis_moves, .inl (cI, 120, .inl v_hypothesis_moves)), (q_representatives, .inl (cI, 40, .inl v_representatives)), (q_o3, .inr (5, [.ref q_o3_machine, .ref q_o3_lies, .int v_o3_lieCount])), (q_o3_machine, .inr (0, [.ref q_o3_machine_moves, .ref q_o3_machine_finals, .int v_o3_machine_size, .int v_o3_machine_letters])), (q_o3_machine_moves, .inl (cI, 24, .inl v_o3_machine_moves)), (q_o3_machine_finals, .inl (cI, 8, .inl v_o3_machine_finals)), (q_o3_lies, .inl (cJ, 4, .inr (.inl v_o3_lies)))]
abbrev rm_Le_addSplit : Room := { frames := 4, cells := 0, slots := 0, locals := 97 }
def f_Le_addSplit_J113 (rec : Int32 → Int32 → Int32 → (Nat → Int64) → Int32 → Option (Int32 × (Nat → Int64) × Int32 × (Nat → Int64) × Int32 × Int32 × (Nat → Int64) × Int32 × Int32 × Int32)) (x4 : Int32) (x5 : Int32) (x7 : Int32) (v_asked_size : Int32) (v_asked_entries : (Nat → Int64)) : Option (Int32 × (Nat → Int64) × Int32 × (Nat → Int64) × Int32 × Int32 × (Nat → Int64) × Int32 × Int32 × Int32) :=
 (bnd (x7 + 1) (fun x7_1 =>
 (rec x4 x5 x7_1 v_asked_entries v_asked_size)))
def f_Le_addSplit_J85 (rec : Int32 → Int32 → Int32 → (Nat → Int64) → Int32 → Option (Int32 × (Nat → Int64) × Int32 × (Nat → Int64) × Int32 × Int32 × (Nat → Int64) × Int32 × Int32 × Int32)) (x4 : Int32) (x5 : Int32) (x6 : Int32) (x7 : Int32) (x8 : Int32) (s0 : Int32) (v_formed : Int32) (v_asked_size : Int32) (v_asked_entries : (Nat → Int64)) (v_table_prefixes_size : Int32) (v_table_prefixes_longest : Int32) (v_table_prefixes_words : (Nat → Int64)) (v_table_suffixes_size : Int32) (v_table_suffixes_longest : Int32) (v_table_suffixes_words : (Nat → Int64)) : Option (Int32 × (Nat → Int64) × Int32 × (Nat → Int64) × Int32 × Int32 × (Nat → Int64) × Int32 × Int32 × Int32) :=
 (if 0 ≤ s0 then
 (if s0 = x6 then
 (f_Le_addSplit_J113 rec x8 x5 x7 v_asked_size v_asked_entries)
 else
 (f_Le_addSplit_J113 rec x4 x8 x7 v_asked_size v_asked_entries))
 else
 (some (s0, v_asked_entries, v_asked_size, v_table_prefixes_words, v_table_prefixes_size, v_table_prefixes_longest, v_table_suffixes_words, v_table_suffixes_size, v_table_suffixes_longest, v_formed)))
def f_Le_addSplit_L30 (v_budget : Int32) (v_formed : Int32) (v_table_prefixes_size : Int32) (v_table_prefixes_longest : Int32) (v_table_prefixes_words : (Nat → Int64)) (v_table_suffixes_size : Int32) (v_table_suffixes_longest : Int32) (v_table_suffixes_words : (Nat → Int64)) (v_hypothesis_moves : (Nat → Int32)) (v_representatives : (Nat → Int32)) (v_o3_lieCount : Int32) (v_o3_machine_moves : (Nat → Int32)) (v_o3_machine_finals : (Nat → Int32)) (v_o3_lies : (Nat → Int64)) (x1 : Int64) (x6 : Int32) (K rec : Int32 → Int32 → Int32 → (Nat → Int64) → Int32 → Option (Int32 × (Nat → Int64) × Int32 × (Nat → Int64) × Int32 × Int32 × (Nat → Int64) × Int32 × Int32 × Int32)) (x4 : Int32) (x5 : Int32) (x7 : Int32) (v_asked_entries : (Nat → Int64)) (v_asked_size : Int32) : Option (Int32 × (Nat → Int64) × Int32 × (Nat → Int64) × Int32 × Int32 × (Nat → Int64) × Int32 × Int32 × Int32) :=
 (if (16 : Int32) ≤ x7 then
 (K x4 x5 x7 v_asked_entries v_asked_size)
 else
 (if (x5 - x4) ≤ (1 : Int32) then
 (K x4 x5 x7 v_asked_entries v_asked_size)
 else
 (bnd ((x4 + x5) / (2 : Int32)) (fun x8 =>
 (bd1 (f_Le_question x1 x8 v_table_prefixes_words v_hypothesis_moves v_representatives) (fun r =>
 (if r = (-1 : Int64) then
 (f_Le_addSplit_J85 rec x4 x5 x6 x7 x8 (-5 : Int32) v_formed v_asked_size v_asked_entries v_table_prefixes_size v_table_prefixes_longest v_table_prefixes_words v_table_suffixes_size v_table_suffixes_longest v_table_suffixes_words)
 else
 (bd3 (f_Le_askAbout r v_budget v_asked_size v_asked_entries v_o3_lieCount v_o3_machine_moves v_o3_machine_finals v_o3_lies) (fun r_1 v_asked_entries_1 v_asked_size_1 =>
 (f_Le_addSplit_J85 rec x4 x5 x6 x7 x8 r_1 v_formed v_asked_size_1 v_asked_entries_1 v_table_prefixes_size v_table_prefixes_longest v_table_prefixes_words v_table_suffixes_size v_table_suffixes_longest v_table_suffixes_words))))))))))
def f_Le_addSplit (x1 : Int64) (v_budget : Int32) (v_formed : Int32) (v_asked_size : Int32) (v_asked_entries : (Nat → Int64)) (v_table_prefixes_size : Int32) (v_table_prefixes_longest : Int32) (v_table_prefixes_words : (Nat → Int64)) (v_table_suffixes_size : Int32) (v_table_suffixes_longest : Int32) (v_table_suffixes_words : (Nat → Int64)) (v_hypothesis_moves : (Nat → Int32)) (v_representatives : (Nat → Int32)) (v_o3_lieCount : Int32) (v_o3_machine_moves : (Nat → Int32)) (v_o3_machine_finals : (Nat → Int32)) (v_o3_lies : (Nat → Int64)) : Option (Int32 × (Nat → Int64) × Int32 × (Nat → Int64) × Int32 × Int32 × (Nat → Int64) × Int32 × Int32 × Int32) :=
 (bd1 (f_Ws_lengthOf x1) (fun r =>
 (bd3 (f_Le_askAbout x1 v_budget v_asked_size v_asked_entries v_o3_lieCount v_o3_machine_moves v_o3_machine_finals v_o3_lies) (fun r_1 v_asked_entries_1 v_asked_size_1 =>
 (if r_1 = (-4 : Int32) then
 (some ((-4 : Int32), v_asked_entries_1, v_asked_size_1, v_table_prefixes_words, v_table_prefixes_size, v_table_prefixes_longest, v_table_suffixes_words, v_table_suffixes_size, v_table_suffixes_longest, v_formed))
 else
 (itr (fun _ _ _ _ _ => none) (f_Le_addSplit_L30 v_budget v_formed v_table_prefixes_size v_table_prefixes_longest v_table_prefixes_words v_table_suffixes_size v_table_suffixes_longest v_table_suffixes_words v_hypothesis_moves v_representatives v_o3_lieCount v_o3_machine_moves v_o3_machine_finals v_o3_lies x1 r_1 (fun x4 x5 x7 v_asked_entries_2 v_asked_size_2 =>
 (bd1 (f_Ws_tailFrom x1 x5) (fun r_2 =>
 (bd8 (f_Le_addWord (1 : Int32) r_2 v_formed v_table_prefixes_size v_table_prefixes_longest v_table_prefixes_words v_table_suffixes_size v_table_suffixes_longest v_table_suffixes_words) (fun r_3 v_table_prefixes_words_1 v_table_prefixes_size_1 v_table_prefixes_longest_1 v_table_suffixes_words_1 v_table_suffixes_size_1 v_table_suffixes_longest_1 v_formed_1 =>
 (some (r_3, v_asked_entries_2, v_asked_size_2, v_table_prefixes_words_1, v_table_prefixes_size_1, v_table_prefixes_longest_1, v_table_suffixes_words_1, v_table_suffixes_size_1, v_table_suffixes_longest_1, v_formed_1)))))))) FU (0 : Int32) r (0 : Int32) v_asked_entries_1 v_asked_size_1))))))
abbrev ws_Le_finishCorrection (cI cJ cZ : ClassId) (q_this q_asked q_table q_hypothesis q_representatives : Nat) (v_mode : Int32) (v_budget : Int32) (v_formed : Int32) (v_counterexample : Int64) (v_corrections : Int32) (v_deceived : Int32) : va_W := [(q_this, .inr (1, [.ref q_asked, .ref q_table, .ref q_hypothesis, .ref q_representatives, .int v_mode, .int v_budget, .int v_formed, .long v_counterexample, .int v_corrections, .int v_deceived]))]
abbrev rm_Le_finishCorrection : Room := { frames := 0, cells := 0, slots := 0, locals := 0 }
def f_Le_finishCorrection (x1 : Int64) (x3 : Int32) (v_corrections : Int32) : Option (Int32 × Int64 × Int32 × Int32) :=
 (bnd (v_corrections + (1 : Int32)) (fun v_corrections_1 =>
 (bnd (if x3 = 0 then (1 : Int32) else (0 : Int32)) (fun t =>
 (gB t
 (bnd (if t = 0 then (5 : Int32) else (7 : Int32)) (fun t_1 =>
 (some (t_1, x1, v_corrections_1, t)))))))))
abbrev ws_Ta_prefixRow (cI cJ cZ : ClassId) : va_W := []
abbrev rm_Ta_prefixRow : Room := { frames := 0, cells := 0, slots := 0, locals := 0 }
def f_Ta_prefixRow (x0 : Int32) : Option (Int32) :=
 (some (x0 * (4 : Int32)))
abbrev ws_Le_stateWithRow (cI cJ cZ : ClassId) (q_this q_asked q_table q_hypothesis q_representatives q_table_prefixes q_table_suffixes q_table_known q_table_bits q_hypothesis_moves q_hypothesis_finals : Nat) (v_mode : Int32) (v_budget : Int32) (v_formed : Int32) (v_counterexample : Int64) (v_corrections : Int32) (v_deceived : Int32) (v_table_letters : Int32) (v_table_bits : (Nat → Int32)) (v_hypothesis_size : Int32) (v_hypothesis_letters : Int32) (v_representatives : (Nat → Int32)) : va_W := [(q_this, .inr (1, [.ref q_asked, .ref q_table, .ref q_hypothesis, .ref q_representatives, .int v_mode, .int v_budget, .int v_formed, .long v_counterexample, .int v_corrections, .int v_deceived])), (q_table, .inr (4, [.ref q_table_prefixes, .ref q_table_suffixes, .ref q_table_known, .ref q_table_bits, .int v_table_letters])), (q_table_bits, .inl (cI, 160, .inl v_table_bits)), (q_hypothesis, .inr (0, [.ref q_hypothesis_moves, .ref q_hypothesis_finals, .int v_hypothesis_size, .int v_hypothesis_letters])), (q_representatives, .inl (cI, 40, .inl v_representatives))]
abbrev rm_Le_stateWithRow : Room := { frames := 1, cells := 0, slots := 0, locals := 20 }
def f_Le_stateWithRow_L2 (v_table_bits : (Nat → Int32)) (v_hypothesis_size : Int32) (v_representatives : (Nat → Int32)) (x1 : Int32) (K rec : Int32 → Option (Int32)) (x2 : Int32) : Option (Int32) :=
 (if v_hypothesis_size ≤ x2 then
 (K x2)
 else
 (gIn x2 40
 (bd1 (f_Ta_prefixRow (v_representatives x2.toNatClampNeg)) (fun r =>
 (gIn r 160
 (if (v_table_bits r.toNatClampNeg) = x1 then
 (some x2)
 else
 (bnd (x2 + 1) (fun x2_1 =>
 (rec x2_1)))))))))
def f_Le_stateWithRow (x1 : Int32) (v_table_bits : (Nat → Int32)) (v_hypothesis_size : Int32) (v_representatives : (Nat → Int32)) : Option (Int32) :=
 (itr (fun _ => none) (f_Le_stateWithRow_L2 v_table_bits v_hypothesis_size v_representatives x1 (fun x2 =>
 (some (-1 : Int32)))) FU (0 : Int32))
abbrev ws_Ta_extensionRow (cI cJ cZ : ClassId) : va_W := []
abbrev rm_Ta_extensionRow : Room := { frames := 0, cells := 0, slots := 0, locals := 0 }
def f_Ta_extensionRow (x0 : Int32) (x1 : Int32) : Option (Int32) :=
 (some (((x0 * (4 : Int32)) + (1 : Int32)) + x1))
abbrev ws_Le_formHypothesis (cI cJ cZ : ClassId) (q_this q_asked q_table q_hypothesis q_representatives q_table_prefixes q_table_suffixes q_table_known q_table_bits q_table_prefixes_words q_hypothesis_moves q_hypothesis_finals : Nat) (v_mode : Int32) (v_budget : Int32) (v_formed : Int32) (v_counterexample : Int64) (v_corrections : Int32) (v_deceived : Int32) (v_table_letters : Int32) (v_table_prefixes_size : Int32) (v_table_prefixes_longest : Int32) (v_table_bits : (Nat → Int32)) (v_hypothesis_size : Int32) (v_hypothesis_letters : Int32) (v_hypothesis_moves : (Nat → Int32)) (v_hypothesis_finals : (Nat → Int32)) (v_representatives : (Nat → Int32)) : va_W := [(q_this, .inr (1, [.ref q_asked, .ref q_table, .ref q_hypothesis, .ref q_representatives, .int v_mode, .int v_budget, .int v_formed, .long v_counterexample, .int v_corrections, .int v_deceived])), (q_table, .inr (4, [.ref q_table_prefixes, .ref q_table_suffixes, .ref q_table_known, .ref q_table_bits, .int v_table_letters])), (q_table_prefixes, .inr (6, [.ref q_table_prefixes_words, .int v_table_prefixes_size, .int v_table_prefixes_longest])), (q_table_bits, .inl (cI, 160, .inl v_table_bits)), (q_hypothesis, .inr (0, [.ref q_hypothesis_moves, .ref q_hypothesis_finals, .int v_hypothesis_size, .int v_hypothesis_letters])), (q_hypothesis_moves, .inl (cI, 120, .inl v_hypothesis_moves)), (q_hypothesis_finals, .inl (cI, 40, .inl v_hypothesis_finals)), (q_representatives, .inl (cI, 40, .inl v_representatives))]
abbrev rm_Le_formHypothesis : Room := { frames := 2, cells := 0, slots := 0, locals := 45 }
def f_Le_formHypothesis_J97 (rec : Int32 → (Nat → Int32) → Int32 → (Nat → Int32) → Option ((Nat → Int32) × (Nat → Int32) × Int32 × Int32 × (Nat → Int32) × Int32)) (x1 : Int32) (v_hypothesis_size : Int32) (v_hypothesis_finals : (Nat → Int32)) (v_representatives : (Nat → Int32)) : Option ((Nat → Int32) × (Nat → Int32) × Int32 × Int32 × (Nat → Int32) × Int32) :=
 (bnd (x1 + 1) (fun x1_1 =>
 (rec x1_1 v_hypothesis_finals v_hypothesis_size v_representatives)))
def f_Le_formHypothesis_L17 (v_table_prefixes_size : Int32) (v_table_bits : (Nat → Int32)) (K rec : Int32 → (Nat → Int32) → Int32 → (Nat → Int32) → Option ((Nat → Int32) × (Nat → Int32) × Int32 × Int32 × (Nat → Int32) × Int32)) (x1 : Int32) (v_hypothesis_finals : (Nat → Int32)) (v_hypothesis_size : Int32) (v_representatives : (Nat → Int32)) : Option ((Nat → Int32) × (Nat → Int32) × Int32 × Int32 × (Nat → Int32) × Int32) :=
 (if v_table_prefixes_size ≤ x1 then
 (K x1 v_hypothesis_finals v_hypothesis_size v_representatives)
 else
 (bd1 (f_Ta_prefixRow x1) (fun r =>
 (gIn r 160
 (bnd (v_table_bits r.toNatClampNeg) (fun x2 =>
 (bd1 (f_Le_stateWithRow x2 v_table_bits v_hypothesis_size v_representatives) (fun r_1 =>
 (if r_1 = (-1 : Int32) then
 (gIn v_hypothesis_size 40
 (bnd (upd v_representatives v_hypothesis_size.toNatClampNeg x1) (fun v_representatives_1 =>
 (gIn v_hypothesis_size 40
 (bnd (upd v_hypothesis_finals v_hypothesis_size.toNatClampNeg (x2 &&& (1 : Int32))) (fun v_hypothesis_finals_1 =>
 (bnd (v_hypothesis_size + (1 : Int32)) (fun v_hypothesis_size_1 =>
 (f_Le_formHypothesis_J97 rec x1 v_hypothesis_size_1 v_hypothesis_finals_1 v_representatives_1)))))))))
 else
 (f_Le_formHypothesis_J97 rec x1 v_hypothesis_size v_hypothesis_finals v_representatives))))))))))
def f_Le_formHypothesis_L118 (v_table_letters : Int32) (v_table_bits : (Nat → Int32)) (v_hypothesis_size : Int32) (v_representatives : (Nat → Int32)) (x1 : Int32) (K rec : Int32 → (Nat → Int32) → Option ((Nat → Int32) × (Nat → Int32) × Int32 × Int32 × (Nat → Int32) × Int32)) (x2 : Int32) (v_hypothesis_moves : (Nat → Int32)) : Option ((Nat → Int32) × (Nat → Int32) × Int32 × Int32 × (Nat → Int32) × Int32) :=
 (if v_table_letters ≤ x2 then
 (K x2 v_hypothesis_moves)
 else
 (gIn x1 40
 (bd1 (f_Ta_extensionRow (v_representatives x1.toNatClampNeg) x2) (fun r =>
 (gIn r 160
 (bnd (v_table_bits r.toNatClampNeg) (fun x3 =>
 (bd1 (f_Le_stateWithRow x3 v_table_bits v_hypothesis_size v_representatives) (fun r_1 =>
 (bd1 (f_Au_lead 120 x1 x2 (if (0 : Int32) < r_1 then r_1 else (0 : Int32)) v_hypothesis_moves) (fun v_hypothesis_moves_1 =>
 (bnd (x2 + 1) (fun x2_1 =>
 (rec x2_1 v_hypothesis_moves_1))))))))))))))
def f_Le_formHypothesis_L105 (v_table_letters : Int32) (v_table_bits : (Nat → Int32)) (v_hypothesis_size : Int32) (v_representatives : (Nat → Int32)) (K rec : Int32 → (Nat → Int32) → Option ((Nat → Int32) × (Nat → Int32) × Int32 × Int32 × (Nat → Int32) × Int32)) (x1 : Int32) (v_hypothesis_moves : (Nat → Int32)) : Option ((Nat → Int32) × (Nat → Int32) × Int32 × Int32 × (Nat → Int32) × Int32) :=
 (if v_hypothesis_size ≤ x1 then
 (K x1 v_hypothesis_moves)
 else
 (itr (fun _ _ => none) (f_Le_formHypothesis_L118 v_table_letters v_table_bits v_hypothesis_size v_representatives x1 (fun x2 v_hypothesis_moves_1 =>
 (bnd (x1 + 1) (fun x1_1 =>
 (rec x1_1 v_hypothesis_moves_1))))) FU (0 : Int32) v_hypothesis_moves))
def f_Le_formHypothesis (v_table_letters : Int32) (v_table_prefixes_size : Int32) (v_table_bits : (Nat → Int32)) (v_hypothesis_moves : (Nat → Int32)) (v_hypothesis_finals : (Nat → Int32)) (v_representatives : (Nat → Int32)) : Option ((Nat → Int32) × (Nat → Int32) × Int32 × Int32 × (Nat → Int32) × Int32) :=
 (bd4 (f_Au_shape 120 40 (0 : Int32) v_table_letters v_hypothesis_moves v_hypothesis_finals) (fun v_hypothesis_moves_1 v_hypothesis_finals_1 v_hypothesis_size_1 v_hypothesis_letters_1 =>
 (itr (fun _ _ _ _ => none) (f_Le_formHypothesis_L17 v_table_prefixes_size v_table_bits (fun x1 v_hypothesis_finals_2 v_hypothesis_size_2 v_representatives_1 =>
 (itr (fun _ _ => none) (f_Le_formHypothesis_L105 v_table_letters v_table_bits v_hypothesis_size_2 v_representatives_1 (fun x1_1 v_hypothesis_moves_2 =>
 (some (v_hypothesis_moves_2, v_hypothesis_finals_2, v_hypothesis_size_2, v_hypothesis_letters_1, v_representatives_1, (1 : Int32))))) FU (0 : Int32) v_hypothesis_moves_1))) FU (0 : Int32) v_hypothesis_finals_1 v_hypothesis_size_1 v_representatives)))
abbrev ws_Se_foundWord (cI cJ cZ : ClassId) (q_this q_seen q_queue q_origin q_arrival q_letters : Nat) (v_length : Int32) (v_queued : Int32) (v_letters : (Nat → Int32)) : va_W := [(q_this, .inr (3, [.ref q_seen, .ref q_queue, .ref q_origin, .ref q_arrival, .ref q_letters, .int v_length, .int v_queued])), (q_letters, .inl (cI, 320, .inl v_letters))]
abbrev rm_Se_foundWord : Room := { frames := 3, cells := 0, slots := 0, locals := 70 }
def f_Se_foundWord_L4 (v_length : Int32) (v_letters : (Nat → Int32)) (K rec : Int64 → Int32 → Option (Int64)) (x1 : Int64) (x3 : Int32) : Option (Int64) :=
 (if v_length ≤ x3 then
 (K x1 x3)
 else
 (if (16 : Int32) ≤ x3 then
 (K x1 x3)
 else
 (gIn x3 320
 (bd1 (f_Ws_append x1 (v_letters x3.toNatClampNeg)) (fun r =>
 (bnd (x3 + 1) (fun x3_1 =>
 (rec r x3_1))))))))
def f_Se_foundWord (v_length : Int32) (v_letters : (Nat → Int32)) : Option (Int64) :=
 (itr (fun _ _ => none) (f_Se_foundWord_L4 v_length v_letters (fun x1 x3 =>
 (some x1))) FU (1 : Int64) (0 : Int32))
abbrev ws_Ta_rowGap (cI cJ cZ : ClassId) (q_this q_prefixes q_suffixes q_known q_bits q_suffixes_words q_o4 q_o4_entries : Nat) (v_letters : Int32) (v_suffixes_size : Int32) (v_suffixes_longest : Int32) (v_suffixes_words : (Nat → Int64)) (v_known : (Nat → Int32)) (v_bits : (Nat → Int32)) (v_o4_size : Int32) (v_o4_entries : (Nat → Int64)) : va_W := [(q_this, .inr (4, [.ref q_prefixes, .ref q_suffixes, .ref q_known, .ref q_bits, .int v_letters])), (q_suffixes, .inr (6, [.ref q_suffixes_words, .int v_suffixes_size, .int v_suffixes_longest])), (q_suffixes_words, .inl (cJ, 16, .inr (.inl v_suffixes_words))), (q_known, .inl (cI, 160, .inl v_known)), (q_bits, .inl (cI, 160, .inl v_bits)), (q_o4, .inr (2, [.ref q_o4_entries, .int v_o4_size])), (q_o4_entries, .inl (cJ, 300, .inr (.inl v_o4_entries)))]
abbrev rm_Ta_rowGap : Room := { frames := 2, cells := 0, slots := 0, locals := 50 }
def f_Ta_rowGap_L8 (v_suffixes_size : Int32) (v_suffixes_words : (Nat → Int64)) (v_o4_size : Int32) (v_o4_entries : (Nat → Int64)) (x1 : Int32) (x2 : Int64) (K rec : Int32 → (Nat → Int32) → (Nat → Int32) → Option (Int64 × (Nat → Int32) × (Nat → Int32))) (x5 : Int32) (v_known : (Nat → Int32)) (v_bits : (Nat → Int32)) : Option (Int64 × (Nat → Int32) × (Nat → Int32)) :=
 (if v_suffixes_size ≤ x5 then
 (K x5 v_known v_bits)
 else
 (gIn x5 16
 (bd1 (f_Ws_join x2 (v_suffixes_words x5.toNatClampNeg)) (fun r =>
 (bd1 (f_Qu_answerTo r v_o4_size v_o4_entries) (fun r_1 =>
 (if r_1 = (-1 : Int32) then
 (some (r, v_known, v_bits))
 else
 (gIn x1 160
 (gIn x1 160
 (bnd (upd v_bits x1.toNatClampNeg ((v_bits x1.toNatClampNeg) ||| (r_1 <<< (x5 &&& 31)))) (fun v_bits_1 =>
 (gIn x1 160
 (bnd (upd v_known x1.toNatClampNeg (x5 + (1 : Int32))) (fun v_known_1 =>
 (bnd (x5 + 1) (fun x5_1 =>
 (rec x5_1 v_known_1 v_bits_1)))))))))))))))))
def f_Ta_rowGap (x1 : Int32) (x2 : Int64) (v_suffixes_size : Int32) (v_suffixes_words : (Nat → Int64)) (v_known : (Nat → Int32)) (v_bits : (Nat → Int32)) (v_o4_size : Int32) (v_o4_entries : (Nat → Int64)) : Option (Int64 × (Nat → Int32) × (Nat → Int32)) :=
 (gIn x1 160
 (bnd (v_known x1.toNatClampNeg) (fun x5 =>
 (itr (fun _ _ _ => none) (f_Ta_rowGap_L8 v_suffixes_size v_suffixes_words v_o4_size v_o4_entries x1 x2 (fun x5_1 v_known_1 v_bits_1 =>
 (some ((-1 : Int64), v_known_1, v_bits_1)))) FU x5 v_known v_bits))))
abbrev ws_Ta_firstGap (cI cJ cZ : ClassId) (q_this q_prefixes q_suffixes q_known q_bits q_prefixes_words q_suffixes_words q_o1 q_o1_entries : Nat) (v_letters : Int32) (v_prefixes_size : Int32) (v_prefixes_longest : Int32) (v_prefixes_words : (Nat → Int64)) (v_suffixes_size : Int32) (v_suffixes_longest : Int32) (v_suffixes_words : (Nat → Int64)) (v_known : (Nat → Int32)) (v_bits : (Nat → Int32)) (v_o1_size : Int32) (v_o1_entries : (Nat → Int64)) : va_W := [(q_this, .inr (4, [.ref q_prefixes, .ref q_suffixes, .ref q_known, .ref q_bits, .int v_letters])), (q_prefixes, .inr (6, [.ref q_prefixes_words, .int v_prefixes_size, .int v_prefixes_longest])), (q_prefixes_words, .inl (cJ, 40, .inr (.inl v_prefixes_words))), (q_suffixes, .inr (6, [.ref q_suffixes_words, .int v_suffixes_size, .int v_suffixes_longest])), (q_suffixes_words, .inl (cJ, 16, .inr (.inl v_suffixes_words))), (q_known, .inl (cI, 160, .inl v_known)), (q_bits, .inl (cI, 160, .inl v_bits)), (q_o1, .inr (2, [.ref q_o1_entries, .int v_o1_size])), (q_o1_entries, .inl (cJ, 300, .inr (.inl v_o1_entries)))]
abbrev rm_Ta_firstGap : Room := { frames := 3, cells := 0, slots := 0, locals := 78 }
def f_Ta_firstGap_L7 (v_prefixes_size : Int32) (v_prefixes_words : (Nat → Int64)) (v_suffixes_size : Int32) (v_suffixes_words : (Nat → Int64)) (v_o1_size : Int32) (v_o1_entries : (Nat → Int64)) (K rec : Int64 → Int32 → (Nat → Int32) → (Nat → Int32) → Option (Int64 × (Nat → Int32) × (Nat → Int32))) (x2 : Int64) (x4 : Int32) (v_known : (Nat → Int32)) (v_bits : (Nat → Int32)) : Option (Int64 × (Nat → Int32) × (Nat → Int32)) :=
 (if v_prefixes_size ≤ x4 then
 (K x2 x4 v_known v_bits)
 else
 (if x2 = (-1 : Int64) then
 (bd1 (f_Ta_prefixRow x4) (fun r =>
 (gIn x4 40
 (bd3 (f_Ta_rowGap r (v_prefixes_words x4.toNatClampNeg) v_suffixes_size v_suffixes_words v_known v_bits v_o1_size v_o1_entries) (fun r_1 v_known_1 v_bits_1 =>
 (bnd (x4 + 1) (fun x4_1 =>
 (rec r_1 x4_1 v_known_1 v_bits_1))))))))
 else
 (K x2 x4 v_known v_bits)))
def f_Ta_firstGap_J146 (rec : Int64 → Int32 → (Nat → Int32) → (Nat → Int32) → Option (Int64 × (Nat → Int32) × (Nat → Int32))) (x2 : Int64) (x5 : Int32) (v_known : (Nat → Int32)) (v_bits : (Nat → Int32)) : Option (Int64 × (Nat → Int32) × (Nat → Int32)) :=
 (bnd (x5 + 1) (fun x5_1 =>
 (rec x2 x5_1 v_known v_bits)))
def f_Ta_firstGap_L80 (v_letters : Int32) (v_prefixes_words : (Nat → Int64)) (v_suffixes_size : Int32) (v_suffixes_words : (Nat → Int64)) (v_o1_size : Int32) (v_o1_entries : (Nat → Int64)) (x4 : Int32) (K rec : Int64 → Int32 → (Nat → Int32) → (Nat → Int32) → Option (Int64 × (Nat → Int32) × (Nat → Int32))) (x2 : Int64) (x5 : Int32) (v_known : (Nat → Int32)) (v_bits : (Nat → Int32)) : Option (Int64 × (Nat → Int32) × (Nat → Int32)) :=
 (if v_letters ≤ x5 then
 (K x2 x5 v_known v_bits)
 else
 (if x2 = (-1 : Int64) then
 (bd1 (f_Ta_extensionRow x4 x5) (fun r =>
 (gIn r 160
 (if v_suffixes_size ≤ (v_known r.toNatClampNeg) then
 (f_Ta_firstGap_J146 rec x2 x5 v_known v_bits)
 else
 (gIn x4 40
 (bd1 (f_Ws_append (v_prefixes_words x4.toNatClampNeg) x5) (fun r_1 =>
 (bd3 (f_Ta_rowGap r r_1 v_suffixes_size v_suffixes_words v_known v_bits v_o1_size v_o1_entries) (fun r_2 v_known_1 v_bits_1 =>
 (f_Ta_firstGap_J146 rec r_2 x5 v_known_1 v_bits_1))))))))))
 else
 (K x2 x5 v_known v_bits)))
def f_Ta_firstGap_L57 (v_letters : Int32) (v_prefixes_size : Int32) (v_prefixes_words : (Nat → Int64)) (v_suffixes_size : Int32) (v_suffixes_words : (Nat → Int64)) (v_o1_size : Int32) (v_o1_entries : (Nat → Int64)) (K rec : Int64 → Int32 → (Nat → Int32) → (Nat → Int32) → Option (Int64 × (Nat → Int32) × (Nat → Int32))) (x2 : Int64) (x4 : Int32) (v_known : (Nat → Int32)) (v_bits : (Nat → Int32)) : Option (Int64 × (Nat → Int32) × (Nat → Int32)) :=
 (if v_prefixes_size ≤ x4 then
 (K x2 x4 v_known v_bits)
 else
 (if x2 = (-1 : Int64) then
 (itr (fun _ _ _ _ => none) (f_Ta_firstGap_L80 v_letters v_prefixes_words v_suffixes_size v_suffixes_words v_o1_size v_o1_entries x4 (fun x2_1 x5 v_known_1 v_bits_1 =>
 (bnd (x4 + 1) (fun x4_1 =>
 (rec x2_1 x4_1 v_known_1 v_bits_1))))) FU x2 (0 : Int32) v_known v_bits)
 else
 (K x2 x4 v_known v_bits)))
def f_Ta_firstGap (v_letters : Int32) (v_prefixes_size : Int32) (v_prefixes_words : (Nat → Int64)) (v_suffixes_size : Int32) (v_suffixes_words : (Nat → Int64)) (v_known : (Nat → Int32)) (v_bits : (Nat → Int32)) (v_o1_size : Int32) (v_o1_entries : (Nat → Int64)) : Option (Int64 × (Nat → Int32) × (Nat → Int32)) :=
 (itr (fun _ _ _ _ => none) (f_Ta_firstGap_L7 v_prefixes_size v_prefixes_words v_suffixes_size v_suffixes_words v_o1_size v_o1_entries (fun x2 x4 v_known_1 v_bits_1 =>
 (itr (fun _ _ _ _ => none) (f_Ta_firstGap_L57 v_letters v_prefixes_size v_prefixes_words v_suffixes_size v_suffixes_words v_o1_size v_o1_entries (fun x2_1 x4_1 v_known_2 v_bits_2 =>
 (some (x2_1, v_known_2, v_bits_2)))) FU x2 (0 : Int32) v_known_1 v_bits_1))) FU (-1 : Int64) (0 : Int32) v_known v_bits)
abbrev ws_Ta_isPrefixRow (cI cJ cZ : ClassId) (q_this q_prefixes q_suffixes q_known q_bits q_prefixes_words : Nat) (v_letters : Int32) (v_prefixes_size : Int32) (v_prefixes_longest : Int32) (v_bits : (Nat → Int32)) : va_W := [(q_this, .inr (4, [.ref q_prefixes, .ref q_suffixes, .ref q_known, .ref q_bits, .int v_letters])), (q_prefixes, .inr (6, [.ref q_prefixes_words, .int v_prefixes_size, .int v_prefixes_longest])), (q_bits, .inl (cI, 160, .inl v_bits))]
abbrev rm_Ta_isPrefixRow : Room := { frames := 1, cells := 0, slots := 0, locals := 20 }
def f_Ta_isPrefixRow_L2 (v_prefixes_size : Int32) (v_bits : (Nat → Int32)) (x1 : Int32) (K rec : Int32 → Option (Int32)) (x2 : Int32) : Option (Int32) :=
 (if v_prefixes_size ≤ x2 then
 (K x2)
 else
 (bd1 (f_Ta_prefixRow x2) (fun r =>
 (gIn r 160
 (if (v_bits r.toNatClampNeg) = x1 then
 (some (1 : Int32))
 else
 (bnd (x2 + 1) (fun x2_1 =>
 (rec x2_1))))))))
def f_Ta_isPrefixRow (x1 : Int32) (v_prefixes_size : Int32) (v_bits : (Nat → Int32)) : Option (Int32) :=
 (itr (fun _ => none) (f_Ta_isPrefixRow_L2 v_prefixes_size v_bits x1 (fun x2 =>
 (some (0 : Int32)))) FU (0 : Int32))
abbrev ws_Ta_firstOpen (cI cJ cZ : ClassId) (q_this q_prefixes q_suffixes q_known q_bits q_prefixes_words : Nat) (v_letters : Int32) (v_prefixes_size : Int32) (v_prefixes_longest : Int32) (v_prefixes_words : (Nat → Int64)) (v_bits : (Nat → Int32)) : va_W := [(q_this, .inr (4, [.ref q_prefixes, .ref q_suffixes, .ref q_known, .ref q_bits, .int v_letters])), (q_prefixes, .inr (6, [.ref q_prefixes_words, .int v_prefixes_size, .int v_prefixes_longest])), (q_prefixes_words, .inl (cJ, 40, .inr (.inl v_prefixes_words))), (q_bits, .inl (cI, 160, .inl v_bits))]
abbrev rm_Ta_firstOpen : Room := { frames := 3, cells := 0, slots := 0, locals := 70 }
def f_Ta_firstOpen_L15 (v_letters : Int32) (v_prefixes_size : Int32) (v_prefixes_words : (Nat → Int64)) (v_bits : (Nat → Int32)) (x1 : Int32) (K rec : Int32 → Option (Int64)) (x2 : Int32) : Option (Int64) :=
 (if v_letters ≤ x2 then
 (K x2)
 else
 (bd1 (f_Ta_extensionRow x1 x2) (fun r =>
 (gIn r 160
 (bd1 (f_Ta_isPrefixRow (v_bits r.toNatClampNeg) v_prefixes_size v_bits) (fun r_1 =>
 (if r_1 = 0 then
 (gIn x1 40
 (bd1 (f_Ws_append (v_prefixes_words x1.toNatClampNeg) x2) (fun r_2 =>
 (some r_2))))
 else
 (bnd (x2 + 1) (fun x2_1 =>
 (rec x2_1))))))))))
def f_Ta_firstOpen_L2 (v_letters : Int32) (v_prefixes_size : Int32) (v_prefixes_words : (Nat → Int64)) (v_bits : (Nat → Int32)) (K rec : Int32 → Option (Int64)) (x1 : Int32) : Option (Int64) :=
 (if v_prefixes_size ≤ x1 then
 (K x1)
 else
 (itr (fun _ => none) (f_Ta_firstOpen_L15 v_letters v_prefixes_size v_prefixes_words v_bits x1 (fun x2 =>
 (bnd (x1 + 1) (fun x1_1 =>
 (rec x1_1))))) FU (0 : Int32)))
def f_Ta_firstOpen (v_letters : Int32) (v_prefixes_size : Int32) (v_prefixes_words : (Nat → Int64)) (v_bits : (Nat → Int32)) : Option (Int64) :=
 (itr (fun _ => none) (f_Ta_firstOpen_L2 v_letters v_prefixes_size v_prefixes_words v_bits (fun x1 =>
 (some (-1 : Int64)))) FU (0 : Int32))
abbrev ws_Ta_separatorOf (cI cJ cZ : ClassId) (q_this q_prefixes q_suffixes q_known q_bits q_suffixes_words : Nat) (v_letters : Int32) (v_suffixes_size : Int32) (v_suffixes_longest : Int32) (v_suffixes_words : (Nat → Int64)) (v_bits : (Nat → Int32)) : va_W := [(q_this, .inr (4, [.ref q_prefixes, .ref q_suffixes, .ref q_known, .ref q_bits, .int v_letters])), (q_suffixes, .inr (6, [.ref q_suffixes_words, .int v_suffixes_size, .int v_suffixes_longest])), (q_suffixes_words, .inl (cJ, 16, .inr (.inl v_suffixes_words))), (q_bits, .inl (cI, 160, .inl v_bits))]
abbrev rm_Ta_separatorOf : Room := { frames := 2, cells := 0, slots := 0, locals := 48 }
def f_Ta_separatorOf_L36 (v_suffixes_size : Int32) (v_suffixes_words : (Nat → Int64)) (x3 : Int32) (x4 : Int32) (K rec : Int32 → Option (Int64)) (x5 : Int32) : Option (Int64) :=
 (if v_suffixes_size ≤ x5 then
 (K x5)
 else
 (if ((x4 >>> (x5 &&& 31)) &&& (1 : Int32)) = (1 : Int32) then
 (bd1 (f_Ws_single x3) (fun r =>
 (gIn x5 16
 (bd1 (f_Ws_join r (v_suffixes_words x5.toNatClampNeg)) (fun r_1 =>
 (some r_1))))))
 else
 (bnd (x5 + 1) (fun x5_1 =>
 (rec x5_1)))))
def f_Ta_separatorOf_L2 (v_letters : Int32) (v_suffixes_size : Int32) (v_suffixes_words : (Nat → Int64)) (v_bits : (Nat → Int32)) (x1 : Int32) (x2 : Int32) (K rec : Int32 → Option (Int64)) (x3 : Int32) : Option (Int64) :=
 (if v_letters ≤ x3 then
 (K x3)
 else
 (bd1 (f_Ta_extensionRow x1 x3) (fun r =>
 (gIn r 160
 (bd1 (f_Ta_extensionRow x2 x3) (fun r_1 =>
 (gIn r_1 160
 (bnd ((v_bits r.toNatClampNeg) ^^^ (v_bits r_1.toNatClampNeg)) (fun x4 =>
 (itr (fun _ => none) (f_Ta_separatorOf_L36 v_suffixes_size v_suffixes_words x3 x4 (fun x5 =>
 (bnd (x3 + 1) (fun x3_1 =>
 (rec x3_1))))) FU (0 : Int32)))))))))))
def f_Ta_separatorOf (x1 : Int32) (x2 : Int32) (v_letters : Int32) (v_suffixes_size : Int32) (v_suffixes_words : (Nat → Int64)) (v_bits : (Nat → Int32)) : Option (Int64) :=
 (itr (fun _ => none) (f_Ta_separatorOf_L2 v_letters v_suffixes_size v_suffixes_words v_bits x1 x2 (fun x3 =>
 (some (-1 : Int64)))) FU (0 : Int32))
abbrev ws_Ta_firstSeparator (cI cJ cZ : ClassId) (q_this q_prefixes q_suffixes q_known q_bits q_prefixes_words q_suffixes_words : Nat) (v_letters : Int32) (v_prefixes_size : Int32) (v_prefixes_longest : Int32) (v_suffixes_size : Int32) (v_suffixes_longest : Int32) (v_suffixes_words : (Nat → Int64)) (v_bits : (Nat → Int32)) : va_W := [(q_this, .inr (4, [.ref q_prefixes, .ref q_suffixes, .ref q_known, .ref q_bits, .int v_letters])), (q_prefixes, .inr (6, [.ref q_prefixes_words, .int v_prefixes_size, .int v_prefixes_longest])), (q_suffixes, .inr (6, [.ref q_suffixes_words, .int v_suffixes_size, .int v_suffixes_longest])), (q_suffixes_words, .inl (cJ, 16, .inr (.inl v_suffixes_words))), (q_bits, .inl (cI, 160, .inl v_bits))]
abbrev rm_Ta_firstSeparator : Room := { frames := 3, cells := 0, slots := 0, locals := 73 }
def f_Ta_firstSeparator_J66 (rec : Int32 → Option (Int64)) (x2 : Int32) : Option (Int64) :=
 (bnd (x2 + 1) (fun x2_1 =>
 (rec x2_1)))
def f_Ta_firstSeparator_L17 (v_letters : Int32) (v_prefixes_size : Int32) (v_suffixes_size : Int32) (v_suffixes_words : (Nat → Int64)) (v_bits : (Nat → Int32)) (x1 : Int32) (K rec : Int32 → Option (Int64)) (x2 : Int32) : Option (Int64) :=
 (if v_prefixes_size ≤ x2 then
 (K x2)
 else
 (bd1 (f_Ta_prefixRow x1) (fun r =>
 (gIn r 160
 (bd1 (f_Ta_prefixRow x2) (fun r_1 =>
 (gIn r_1 160
 (if (v_bits r.toNatClampNeg) = (v_bits r_1.toNatClampNeg) then
 (bd1 (f_Ta_separatorOf x1 x2 v_letters v_suffixes_size v_suffixes_words v_bits) (fun r_2 =>
 (if r_2 = (-1 : Int64) then
 (f_Ta_firstSeparator_J66 rec x2)
 else
 (some r_2))))
 else
 (f_Ta_firstSeparator_J66 rec x2)))))))))
def f_Ta_firstSeparator_L2 (v_letters : Int32) (v_prefixes_size : Int32) (v_suffixes_size : Int32) (v_suffixes_words : (Nat → Int64)) (v_bits : (Nat → Int32)) (K rec : Int32 → Option (Int64)) (x1 : Int32) : Option (Int64) :=
 (if v_prefixes_size ≤ x1 then
 (K x1)
 else
 (bnd (x1 + (1 : Int32)) (fun x2 =>
 (itr (fun _ => none) (f_Ta_firstSeparator_L17 v_letters v_prefixes_size v_suffixes_size v_suffixes_words v_bits x1 (fun x2_1 =>
 (bnd (x1 + 1) (fun x1_1 =>
 (rec x1_1))))) FU x2))))
def f_Ta_firstSeparator (v_letters : Int32) (v_prefixes_size : Int32) (v_suffixes_size : Int32) (v_suffixes_words : (Nat → Int64)) (v_bits : (Nat → Int32)) : Option (Int64) :=
 (itr (fun _ => none) (f_Ta_firstSeparator_L2 v_letters v_prefixes_size v_suffixes_size v_suffixes_words v_bits (fun x1 =>
 (some (-1 : Int64)))) FU (0 : Int32))
abbrev ws_Le_doStep (cI cJ cZ : ClassId) (q_this q_asked q_table q_hypothesis q_representatives q_asked_entries q_table_prefixes q_table_suffixes q_table_known q_table_bits q_table_prefixes_words q_table_suffixes_words q_hypothesis_moves q_hypothesis_finals q_o1 q_o1_machine q_o1_lies q_o1_machine_moves q_o1_machine_finals q_o2 q_o2_seen q_o2_queue q_o2_origin q_o2_arrival q_o2_letters : Nat) (v_mode : Int32) (v_budget : Int32) (v_formed : Int32) (v_counterexample : Int64) (v_corrections : Int32) (v_deceived : Int32) (v_asked_size : Int32) (v_asked_entries : (Nat → Int64)) (v_table_letters : Int32) (v_table_prefixes_size : Int32) (v_table_prefixes_longest : Int32) (v_table_prefixes_words : (Nat → Int64)) (v_table_suffixes_size : Int32) (v_table_suffixes_longest : Int32) (v_table_suffixes_words : (Nat → Int64)) (v_table_known : (Nat → Int32)) (v_table_bits : (Nat → Int32)) (v_hypothesis_size : Int32) (v_hypothesis_letters : Int32) (v_hypothesis_moves : (Nat → Int32)) (v_hypothesis_finals : (Nat → Int32)) (v_representatives : (Nat → Int32)) (v_o1_lieCount : Int32) (v_o1_machine_size : Int32) (v_o1_machine_letters : Int32) (v_o1_machine_moves : (Nat → Int32)) (v_o1_machine_finals : (Nat → Int32)) (v_o1_lies : (Nat → Int64)) (v_o2_length : Int32) (v_o2_queued : Int32) (v_o2_seen : (Nat → Int32)) (v_o2_queue : (Nat → Int32)) (v_o2_origin : (Nat → Int32)) (v_o2_arrival : (Nat → Int32)) (v_o2_letters : (Nat → Int32)) : va_W := [(q_this, .inr (1, [.ref q_asked, .ref q_table, .ref q_hypothesis, .ref q_representatives, .int v_mode, .int v_budget, .int v_formed, .long v_counterexample, .int v_corrections, .int v_deceived])), (q_asked, .inr (2, [.ref q_asked_entries, .int v_asked_size])), (q_asked_entries, .inl (cJ, 300, .inr (.inl v_asked_entries))), (q_table, .inr (4, [.ref q_table_prefixes, .ref q_table_suffixes, .ref q_table_known, .ref q_table_bits, .int v_table_letters])), (q_table_prefixes, .inr (6, [.ref q_table_prefixes_words, .int v_table_prefixes_size, .int v_table_prefixes_longest])), (q_table_prefixes_words, .inl (cJ, 40, .inr (.inl v_table_prefixes_words))), (q_table_suffixes, .inr (6, [.ref q_table_suffixes_words, .int v_table_suffixes_size, .int v_table_suffixes_longest])), (q_table_suffixes_words, .inl (cJ, 16, .inr (.inl v_table_suffixes_words))), (q_table_known, .inl (cI, 160, .inl v_table_known)), (q_table_bits, .inl (cI, 160, .inl v_table_bits)), (q_hypothesis, .inr (0, [.ref q_hypothesis_moves, .ref q_hypothesis_finals, .int v_hypothesis_size, .int v_hypothesis_letters])), (q_hypothesis_moves, .inl (cI, 120, .inl v_hypothesis_moves)), (q_hypothesis_finals, .inl (cI, 40, .inl v_hypothesis_finals)), (q_representatives, .inl (cI, 40, .inl v_representatives)), (q_o1, .inr (5, [.ref q_o1_machine, .ref q_o1_lies, .int v_o1_lieCount])), (q_o1_machine, .inr (0, [.ref q_o1_machine_moves, .ref q_o1_machine_finals, .int v_o1_machine_size, .int v_o1_machine_letters])), (q_o1_machine_moves, .inl (cI, 24, .inl v_o1_machine_moves)), (q_o1_machine_finals, .inl (cI, 8, .inl v_o1_machine_finals)), (q_o1_lies, .inl (cJ, 4, .inr (.inl v_o1_lies))), (q_o2, .inr (3, [.ref q_o2_seen, .ref q_o2_queue, .ref q_o2_origin, .ref q_o2_arrival, .ref q_o2_letters, .int v_o2_length, .int v_o2_queued])), (q_o2_seen, .inl (cI, 320, .inl v_o2_seen)), (q_o2_queue, .inl (cI, 320, .inl v_o2_queue)), (q_o2_origin, .inl (cI, 320, .inl v_o2_origin)), (q_o2_arrival, .inl (cI, 320, .inl v_o2_arrival)), (q_o2_letters, .inl (cI, 320, .inl v_o2_letters))]
abbrev rm_Le_doStep : Room := { frames := 5, cells := 0, slots := 0, locals := 128 }
def f_Le_doStep_J210 (x9 : Int64) (s0 : Int32) (v_formed : Int32) (v_counterexample : Int64) (v_corrections : Int32) (v_deceived : Int32) (v_asked_size : Int32) (v_asked_entries : (Nat → Int64)) (v_table_prefixes_size : Int32) (v_table_prefixes_longest : Int32) (v_table_prefixes_words : (Nat → Int64)) (v_table_suffixes_size : Int32) (v_table_suffixes_longest : Int32) (v_table_suffixes_words : (Nat → Int64)) (v_table_known : (Nat → Int32)) (v_table_bits : (Nat → Int32)) (v_hypothesis_size : Int32) (v_hypothesis_letters : Int32) (v_hypothesis_moves : (Nat → Int32)) (v_hypothesis_finals : (Nat → Int32)) (v_representatives : (Nat → Int32)) (v_o2_length : Int32) (v_o2_queued : Int32) (v_o2_seen : (Nat → Int32)) (v_o2_queue : (Nat → Int32)) (v_o2_origin : (Nat → Int32)) (v_o2_arrival : (Nat → Int32)) (v_o2_letters : (Nat → Int32)) : Option (Int32 × (Nat → Int64) × Int32 × (Nat → Int64) × Int32 × Int32 × (Nat → Int64) × Int32 × Int32 × (Nat → Int32) × (Nat → Int32) × (Nat → Int32) × (Nat → Int32) × Int32 × Int32 × (Nat → Int32) × Int32 × Int64 × Int32 × Int32 × (Nat → Int32) × (Nat → Int32) × (Nat → Int32) × (Nat → Int32) × (Nat → Int32) × Int32 × Int32) :=
 (if 0 ≤ s0 then
 (bd4 (f_Le_finishCorrection x9 s0 v_corrections) (fun r v_counterexample_1 v_corrections_1 v_deceived_1 =>
 (some (r, v_asked_entries, v_asked_size, v_table_prefixes_words, v_table_prefixes_size, v_table_prefixes_longest, v_table_suffixes_words, v_table_suffixes_size, v_table_suffixes_longest, v_table_known, v_table_bits, v_hypothesis_moves, v_hypothesis_finals, v_hypothesis_size, v_hypothesis_letters, v_representatives, v_formed, v_counterexample_1, v_corrections_1, v_deceived_1, v_o2_seen, v_o2_queue, v_o2_origin, v_o2_arrival, v_o2_letters, v_o2_length, v_o2_queued))))
 else
 (some (s0, v_asked_entries, v_asked_size, v_table_prefixes_words, v_table_prefixes_size, v_table_prefixes_longest, v_table_suffixes_words, v_table_suffixes_size, v_table_suffixes_longest, v_table_known, v_table_bits, v_hypothesis_moves, v_hypothesis_finals, v_hypothesis_size, v_hypothesis_letters, v_representatives, v_formed, v_counterexample, v_corrections, v_deceived, v_o2_seen, v_o2_queue, v_o2_origin, v_o2_arrival, v_o2_letters, v_o2_length, v_o2_queued)))
def f_Le_doStep (v_mode : Int32) (v_budget : Int32) (v_formed : Int32) (v_counterexample : Int64) (v_corrections : Int32) (v_deceived : Int32) (v_asked_size : Int32) (v_asked_entries : (Nat → Int64)) (v_table_letters : Int32) (v_table_prefixes_size : Int32) (v_table_prefixes_longest : Int32) (v_table_prefixes_words : (Nat → Int64)) (v_table_suffixes_size : Int32) (v_table_suffixes_longest : Int32) (v_table_suffixes_words : (Nat → Int64)) (v_table_known : (Nat → Int32)) (v_table_bits : (Nat → Int32)) (v_hypothesis_size : Int32) (v_hypothesis_letters : Int32) (v_hypothesis_moves : (Nat → Int32)) (v_hypothesis_finals : (Nat → Int32)) (v_representatives : (Nat → Int32)) (v_o1_lieCount : Int32) (v_o1_machine_letters : Int32) (v_o1_machine_moves : (Nat → Int32)) (v_o1_machine_finals : (Nat → Int32)) (v_o1_lies : (Nat → Int64)) (v_o2_length : Int32) (v_o2_queued : Int32) (v_o2_seen : (Nat → Int32)) (v_o2_queue : (Nat → Int32)) (v_o2_origin : (Nat → Int32)) (v_o2_arrival : (Nat → Int32)) (v_o2_letters : (Nat → Int32)) : Option (Int32 × (Nat → Int64) × Int32 × (Nat → Int64) × Int32 × Int32 × (Nat → Int64) × Int32 × Int32 × (Nat → Int32) × (Nat → Int32) × (Nat → Int32) × (Nat → Int32) × Int32 × Int32 × (Nat → Int32) × Int32 × Int64 × Int32 × Int32 × (Nat → Int32) × (Nat → Int32) × (Nat → Int32) × (Nat → Int32) × (Nat → Int32) × Int32 × Int32) :=
 (if v_deceived = 0 then
 (bd3 (f_Ta_firstGap v_table_letters v_table_prefixes_size v_table_prefixes_words v_table_suffixes_size v_table_suffixes_words v_table_known v_table_bits v_asked_size v_asked_entries) (fun r v_table_known_1 v_table_bits_1 =>
 (if r = (-1 : Int64) then
 (bd1 (f_Ta_firstOpen v_table_letters v_table_prefixes_size v_table_prefixes_words v_table_bits_1) (fun r_1 =>
 (if r_1 = (-1 : Int64) then
 (bd1 (f_Ta_firstSeparator v_table_letters v_table_prefixes_size v_table_suffixes_size v_table_suffixes_words v_table_bits_1) (fun r_2 =>
 (if r_2 = (-1 : Int64) then
 (if v_formed = 0 then
 (bd6 (f_Le_formHypothesis v_table_letters v_table_prefixes_size v_table_bits_1 v_hypothesis_moves v_hypothesis_finals v_representatives) (fun v_hypothesis_moves_1 v_hypothesis_finals_1 v_hypothesis_size_1 v_hypothesis_letters_1 v_representatives_1 v_formed_3 =>
 (some ((4 : Int32), v_asked_entries, v_asked_size, v_table_prefixes_words, v_table_prefixes_size, v_table_prefixes_longest, v_table_suffixes_words, v_table_suffixes_size, v_table_suffixes_longest, v_table_known_1, v_table_bits_1, v_hypothesis_moves_1, v_hypothesis_finals_1, v_hypothesis_size_1, v_hypothesis_letters_1, v_representatives_1, v_formed_3, v_counterexample, v_corrections, v_deceived, v_o2_seen, v_o2_queue, v_o2_origin, v_o2_arrival, v_o2_letters, v_o2_length, v_o2_queued))))
 else
 (bd8 (f_Se_findsDifference 120 40 24 8 (0 : Int32) (0 : Int32) v_o2_seen v_o2_queue v_o2_origin v_o2_arrival v_o2_letters v_hypothesis_moves v_hypothesis_finals v_o1_machine_letters v_o1_machine_moves v_o1_machine_finals) (fun r_3 v_o2_seen_1 v_o2_queue_1 v_o2_origin_1 v_o2_arrival_1 v_o2_letters_1 v_o2_length_1 v_o2_queued_1 =>
 (if r_3 = 0 then
 (some ((6 : Int32), v_asked_entries, v_asked_size, v_table_prefixes_words, v_table_prefixes_size, v_table_prefixes_longest, v_table_suffixes_words, v_table_suffixes_size, v_table_suffixes_longest, v_table_known_1, v_table_bits_1, v_hypothesis_moves, v_hypothesis_finals, v_hypothesis_size, v_hypothesis_letters, v_representatives, v_formed, v_counterexample, v_corrections, v_deceived, v_o2_seen_1, v_o2_queue_1, v_o2_origin_1, v_o2_arrival_1, v_o2_letters_1, v_o2_length_1, v_o2_queued_1))
 else
 (if v_o2_length_1 ≤ (16 : Int32) then
 (bd1 (f_Se_foundWord v_o2_length_1 v_o2_letters_1) (fun r_4 =>
 (if v_mode = (1 : Int32) then
 (bd10 (f_Le_addSplit r_4 v_budget v_formed v_asked_size v_asked_entries v_table_prefixes_size v_table_prefixes_longest v_table_prefixes_words v_table_suffixes_size v_table_suffixes_longest v_table_suffixes_words v_hypothesis_moves v_representatives v_o1_lieCount v_o1_machine_moves v_o1_machine_finals v_o1_lies) (fun r_6 v_asked_entries_1 v_asked_size_1 v_table_prefixes_words_2 v_table_prefixes_size_2 v_table_prefixes_longest_2 v_table_suffixes_words_2 v_table_suffixes_size_2 v_table_suffixes_longest_2 v_formed_2 =>
 (f_Le_doStep_J210 r_4 r_6 v_formed_2 v_counterexample v_corrections v_deceived v_asked_size_1 v_asked_entries_1 v_table_prefixes_size_2 v_table_prefixes_longest_2 v_table_prefixes_words_2 v_table_suffixes_size_2 v_table_suffixes_longest_2 v_table_suffixes_words_2 v_table_known_1 v_table_bits_1 v_hypothesis_size v_hypothesis_letters v_hypothesis_moves v_hypothesis_finals v_representatives v_o2_length_1 v_o2_queued_1 v_o2_seen_1 v_o2_queue_1 v_o2_origin_1 v_o2_arrival_1 v_o2_letters_1)))
 else
 (bnd (if v_mode = (2 : Int32) then (1 : Int32) else (0 : Int32)) (fun t =>
 (bd8 (f_Le_addParts t r_4 v_formed v_table_prefixes_size v_table_prefixes_longest v_table_prefixes_words v_table_suffixes_size v_table_suffixes_longest v_table_suffixes_words) (fun r_5 v_table_prefixes_words_1 v_table_prefixes_size_1 v_table_prefixes_longest_1 v_table_suffixes_words_1 v_table_suffixes_size_1 v_table_suffixes_longest_1 v_formed_1 =>
 (f_Le_doStep_J210 r_4 r_5 v_formed_1 v_counterexample v_corrections v_deceived v_asked_size v_asked_entries v_table_prefixes_size_1 v_table_prefixes_longest_1 v_table_prefixes_words_1 v_table_suffixes_size_1 v_table_suffixes_longest_1 v_table_suffixes_words_1 v_table_known_1 v_table_bits_1 v_hypothesis_size v_hypothesis_letters v_hypothesis_moves v_hypothesis_finals v_representatives v_o2_length_1 v_o2_queued_1 v_o2_seen_1 v_o2_queue_1 v_o2_origin_1 v_o2_arrival_1 v_o2_letters_1))))))))
 else
 (some ((-5 : Int32), v_asked_entries, v_asked_size, v_table_prefixes_words, v_table_prefixes_size, v_table_prefixes_longest, v_table_suffixes_words, v_table_suffixes_size, v_table_suffixes_longest, v_table_known_1, v_table_bits_1, v_hypothesis_moves, v_hypothesis_finals, v_hypothesis_size, v_hypothesis_letters, v_representatives, v_formed, v_counterexample, v_corrections, v_deceived, v_o2_seen_1, v_o2_queue_1, v_o2_origin_1, v_o2_arrival_1, v_o2_letters_1, v_o2_length_1, v_o2_queued_1)))))))
 else
 (bd8 (f_Le_addWord (1 : Int32) r_2 v_formed v_table_prefixes_size v_table_prefixes_longest v_table_prefixes_words v_table_suffixes_size v_table_suffixes_longest v_table_suffixes_words) (fun r_7 v_table_prefixes_words_3 v_table_prefixes_size_3 v_table_prefixes_longest_3 v_table_suffixes_words_3 v_table_suffixes_size_3 v_table_suffixes_longest_3 v_formed_4 =>
 (bnd (if r_7 = (-5 : Int32) then (-5 : Int32) else (3 : Int32)) (fun t_1 =>
 (some (t_1, v_asked_entries, v_asked_size, v_table_prefixes_words_3, v_table_prefixes_size_3, v_table_prefixes_longest_3, v_table_suffixes_words_3, v_table_suffixes_size_3, v_table_suffixes_longest_3, v_table_known_1, v_table_bits_1, v_hypothesis_moves, v_hypothesis_finals, v_hypothesis_size, v_hypothesis_letters, v_representatives, v_formed_4, v_counterexample, v_corrections, v_deceived, v_o2_seen, v_o2_queue, v_o2_origin, v_o2_arrival, v_o2_letters, v_o2_length, v_o2_queued)))))))))
 else
 (bd8 (f_Le_addWord (0 : Int32) r_1 v_formed v_table_prefixes_size v_table_prefixes_longest v_table_prefixes_words v_table_suffixes_size v_table_suffixes_longest v_table_suffixes_words) (fun r_8 v_table_prefixes_words_4 v_table_prefixes_size_4 v_table_prefixes_longest_4 v_table_suffixes_words_4 v_table_suffixes_size_4 v_table_suffixes_longest_4 v_formed_5 =>
 (bnd (if r_8 = (-5 : Int32) then (-5 : Int32) else (2 : Int32)) (fun t_2 =>
 (some (t_2, v_asked_entries, v_asked_size, v_table_prefixes_words_4, v_table_prefixes_size_4, v_table_prefixes_longest_4, v_table_suffixes_words_4, v_table_suffixes_size_4, v_table_suffixes_longest_4, v_table_known_1, v_table_bits_1, v_hypothesis_moves, v_hypothesis_finals, v_hypothesis_size, v_hypothesis_letters, v_representatives, v_formed_5, v_counterexample, v_corrections, v_deceived, v_o2_seen, v_o2_queue, v_o2_origin, v_o2_arrival, v_o2_letters, v_o2_length, v_o2_queued)))))))))
 else
 (bd3 (f_Le_askAbout r v_budget v_asked_size v_asked_entries v_o1_lieCount v_o1_machine_moves v_o1_machine_finals v_o1_lies) (fun r_9 v_asked_entries_2 v_asked_size_2 =>
 (bnd (if r_9 = (-4 : Int32) then (-4 : Int32) else (1 : Int32)) (fun t_3 =>
 (some (t_3, v_asked_entries_2, v_asked_size_2, v_table_prefixes_words, v_table_prefixes_size, v_table_prefixes_longest, v_table_suffixes_words, v_table_suffixes_size, v_table_suffixes_longest, v_table_known_1, v_table_bits_1, v_hypothesis_moves, v_hypothesis_finals, v_hypothesis_size, v_hypothesis_letters, v_representatives, v_formed, v_counterexample, v_corrections, v_deceived, v_o2_seen, v_o2_queue, v_o2_origin, v_o2_arrival, v_o2_letters, v_o2_length, v_o2_queued)))))))))
 else
 (some ((7 : Int32), v_asked_entries, v_asked_size, v_table_prefixes_words, v_table_prefixes_size, v_table_prefixes_longest, v_table_suffixes_words, v_table_suffixes_size, v_table_suffixes_longest, v_table_known, v_table_bits, v_hypothesis_moves, v_hypothesis_finals, v_hypothesis_size, v_hypothesis_letters, v_representatives, v_formed, v_counterexample, v_corrections, v_deceived, v_o2_seen, v_o2_queue, v_o2_origin, v_o2_arrival, v_o2_letters, v_o2_length, v_o2_queued)))
abbrev ws_TL_step (cI cJ cZ : ClassId) (q_this q_world q_slots q_text q_search q_world_teacher q_world_learner q_world_teacher_machine q_world_teacher_lies q_world_teacher_machine_moves q_world_teacher_machine_finals q_world_learner_asked q_world_learner_table q_world_learner_hypothesis q_world_learner_representatives q_world_learner_asked_entries q_world_learner_table_prefixes q_world_learner_table_suffixes q_world_learner_table_known q_world_learner_table_bits q_world_learner_table_prefixes_words q_world_learner_table_suffixes_words q_world_learner_hypothesis_moves q_world_learner_hypothesis_finals q_search_seen q_search_queue q_search_origin q_search_arrival q_search_letters : Nat) (v_textLength : Int32) (v_world_teacher_lieCount : Int32) (v_world_teacher_machine_size : Int32) (v_world_teacher_machine_letters : Int32) (v_world_teacher_machine_moves : (Nat → Int32)) (v_world_teacher_machine_finals : (Nat → Int32)) (v_world_teacher_lies : (Nat → Int64)) (v_world_learner_mode : Int32) (v_world_learner_budget : Int32) (v_world_learner_formed : Int32) (v_world_learner_counterexample : Int64) (v_world_learner_corrections : Int32) (v_world_learner_deceived : Int32) (v_world_learner_asked_size : Int32) (v_world_learner_asked_entries : (Nat → Int64)) (v_world_learner_table_letters : Int32) (v_world_learner_table_prefixes_size : Int32) (v_world_learner_table_prefixes_longest : Int32) (v_world_learner_table_prefixes_words : (Nat → Int64)) (v_world_learner_table_suffixes_size : Int32) (v_world_learner_table_suffixes_longest : Int32) (v_world_learner_table_suffixes_words : (Nat → Int64)) (v_world_learner_table_known : (Nat → Int32)) (v_world_learner_table_bits : (Nat → Int32)) (v_world_learner_hypothesis_size : Int32) (v_world_learner_hypothesis_letters : Int32) (v_world_learner_hypothesis_moves : (Nat → Int32)) (v_world_learner_hypothesis_finals : (Nat → Int32)) (v_world_learner_representatives : (Nat → Int32)) (v_search_length : Int32) (v_search_queued : Int32) (v_search_seen : (Nat → Int32)) (v_search_queue : (Nat → Int32)) (v_search_origin : (Nat → Int32)) (v_search_arrival : (Nat → Int32)) (v_search_letters : (Nat → Int32)) : va_W := [(q_this, .inr (8, [.ref q_world, .ref q_slots, .ref q_text, .int v_textLength, .ref q_search])), (q_world, .inr (7, [.ref q_world_teacher, .ref q_world_learner])), (q_world_teacher, .inr (5, [.ref q_world_teacher_machine, .ref q_world_teacher_lies, .int v_world_teacher_lieCount])), (q_world_teacher_machine, .inr (0, [.ref q_world_teacher_machine_moves, .ref q_world_teacher_machine_finals, .int v_world_teacher_machine_size, .int v_world_teacher_machine_letters])), (q_world_teacher_machine_moves, .inl (cI, 24, .inl v_world_teacher_machine_moves)), (q_world_teacher_machine_finals, .inl (cI, 8, .inl v_world_teacher_machine_finals)), (q_world_teacher_lies, .inl (cJ, 4, .inr (.inl v_world_teacher_lies))), (q_world_learner, .inr (1, [.ref q_world_learner_asked, .ref q_world_learner_table, .ref q_world_learner_hypothesis, .ref q_world_learner_representatives, .int v_world_learner_mode, .int v_world_learner_budget, .int v_world_learner_formed, .long v_world_learner_counterexample, .int v_world_learner_corrections, .int v_world_learner_deceived])), (q_world_learner_asked, .inr (2, [.ref q_world_learner_asked_entries, .int v_world_learner_asked_size])), (q_world_learner_asked_entries, .inl (cJ, 300, .inr (.inl v_world_learner_asked_entries))), (q_world_learner_table, .inr (4, [.ref q_world_learner_table_prefixes, .ref q_world_learner_table_suffixes, .ref q_world_learner_table_known, .ref q_world_learner_table_bits, .int v_world_learner_table_letters])), (q_world_learner_table_prefixes, .inr (6, [.ref q_world_learner_table_prefixes_words, .int v_world_learner_table_prefixes_size, .int v_world_learner_table_prefixes_longest])), (q_world_learner_table_prefixes_words, .inl (cJ, 40, .inr (.inl v_world_learner_table_prefixes_words))), (q_world_learner_table_suffixes, .inr (6, [.ref q_world_learner_table_suffixes_words, .int v_world_learner_table_suffixes_size, .int v_world_learner_table_suffixes_longest])), (q_world_learner_table_suffixes_words, .inl (cJ, 16, .inr (.inl v_world_learner_table_suffixes_words))), (q_world_learner_table_known, .inl (cI, 160, .inl v_world_learner_table_known)), (q_world_learner_table_bits, .inl (cI, 160, .inl v_world_learner_table_bits)), (q_world_learner_hypothesis, .inr (0, [.ref q_world_learner_hypothesis_moves, .ref q_world_learner_hypothesis_finals, .int v_world_learner_hypothesis_size, .int v_world_learner_hypothesis_letters])), (q_world_learner_hypothesis_moves, .inl (cI, 120, .inl v_world_learner_hypothesis_moves)), (q_world_learner_hypothesis_finals, .inl (cI, 40, .inl v_world_learner_hypothesis_finals)), (q_world_learner_representatives, .inl (cI, 40, .inl v_world_learner_representatives)), (q_search, .inr (3, [.ref q_search_seen, .ref q_search_queue, .ref q_search_origin, .ref q_search_arrival, .ref q_search_letters, .int v_search_length, .int v_search_queued])), (q_search_seen, .inl (cI, 320, .inl v_search_seen)), (q_search_queue, .inl (cI, 320, .inl v_search_queue)), (q_search_origin, .inl (cI, 320, .inl v_search_origin)), (q_search_arrival, .inl (cI, 320, .inl v_search_arrival)), (q_search_letters, .inl (cI, 320, .inl v_search_letters))]
abbrev rm_TL_step : Room := { frames := 6, cells := 0, slots := 0, locals := 159 }
def f_TL_step (v_world_teacher_lieCount : Int32) (v_world_teacher_machine_letters : Int32) (v_world_teacher_machine_moves : (Nat → Int32)) (v_world_teacher_machine_finals : (Nat → Int32)) (v_world_teacher_lies : (Nat → Int64)) (v_world_learner_mode : Int32) (v_world_learner_budget : Int32) (v_world_learner_formed : Int32) (v_world_learner_counterexample : Int64) (v_world_learner_corrections : Int32) (v_world_learner_deceived : Int32) (v_world_learner_asked_size : Int32) (v_world_learner_asked_entries : (Nat → Int64)) (v_world_learner_table_letters : Int32) (v_world_learner_table_prefixes_size : Int32) (v_world_learner_table_prefixes_longest : Int32) (v_world_learner_table_prefixes_words : (Nat → Int64)) (v_world_learner_table_suffixes_size : Int32) (v_world_learner_table_suffixes_longest : Int32) (v_world_learner_table_suffixes_words : (Nat → Int64)) (v_world_learner_table_known : (Nat → Int32)) (v_world_learner_table_bits : (Nat → Int32)) (v_world_learner_hypothesis_size : Int32) (v_world_learner_hypothesis_letters : Int32) (v_world_learner_hypothesis_moves : (Nat → Int32)) (v_world_learner_hypothesis_finals : (Nat → Int32)) (v_world_learner_representatives : (Nat → Int32)) (v_search_length : Int32) (v_search_queued : Int32) (v_search_seen : (Nat → Int32)) (v_search_queue : (Nat → Int32)) (v_search_origin : (Nat → Int32)) (v_search_arrival : (Nat → Int32)) (v_search_letters : (Nat → Int32)) : Option (Int32 × (Nat → Int64) × Int32 × (Nat → Int64) × Int32 × Int32 × (Nat → Int64) × Int32 × Int32 × (Nat → Int32) × (Nat → Int32) × (Nat → Int32) × (Nat → Int32) × Int32 × Int32 × (Nat → Int32) × Int32 × Int64 × Int32 × Int32 × (Nat → Int32) × (Nat → Int32) × (Nat → Int32) × (Nat → Int32) × (Nat → Int32) × Int32 × Int32) :=
 (bd27 (f_Le_doStep v_world_learner_mode v_world_learner_budget v_world_learner_formed v_world_learner_counterexample v_world_learner_corrections v_world_learner_deceived v_world_learner_asked_size v_world_learner_asked_entries v_world_learner_table_letters v_world_learner_table_prefixes_size v_world_learner_table_prefixes_longest v_world_learner_table_prefixes_words v_world_learner_table_suffixes_size v_world_learner_table_suffixes_longest v_world_learner_table_suffixes_words v_world_learner_table_known v_world_learner_table_bits v_world_learner_hypothesis_size v_world_learner_hypothesis_letters v_world_learner_hypothesis_moves v_world_learner_hypothesis_finals v_world_learner_representatives v_world_teacher_lieCount v_world_teacher_machine_letters v_world_teacher_machine_moves v_world_teacher_machine_finals v_world_teacher_lies v_search_length v_search_queued v_search_seen v_search_queue v_search_origin v_search_arrival v_search_letters) (fun r v_world_learner_asked_entries_1 v_world_learner_asked_size_1 v_world_learner_table_prefixes_words_1 v_world_learner_table_prefixes_size_1 v_world_learner_table_prefixes_longest_1 v_world_learner_table_suffixes_words_1 v_world_learner_table_suffixes_size_1 v_world_learner_table_suffixes_longest_1 v_world_learner_table_known_1 v_world_learner_table_bits_1 v_world_learner_hypothesis_moves_1 v_world_learner_hypothesis_finals_1 v_world_learner_hypothesis_size_1 v_world_learner_hypothesis_letters_1 v_world_learner_representatives_1 v_world_learner_formed_1 v_world_learner_counterexample_1 v_world_learner_corrections_1 v_world_learner_deceived_1 v_search_seen_1 v_search_queue_1 v_search_origin_1 v_search_arrival_1 v_search_letters_1 v_search_length_1 v_search_queued_1 =>
 (some (r, v_world_learner_asked_entries_1, v_world_learner_asked_size_1, v_world_learner_table_prefixes_words_1, v_world_learner_table_prefixes_size_1, v_world_learner_table_prefixes_longest_1, v_world_learner_table_suffixes_words_1, v_world_learner_table_suffixes_size_1, v_world_learner_table_suffixes_longest_1, v_world_learner_table_known_1, v_world_learner_table_bits_1, v_world_learner_hypothesis_moves_1, v_world_learner_hypothesis_finals_1, v_world_learner_hypothesis_size_1, v_world_learner_hypothesis_letters_1, v_world_learner_representatives_1, v_world_learner_formed_1, v_world_learner_counterexample_1, v_world_learner_corrections_1, v_world_learner_deceived_1, v_search_seen_1, v_search_queue_1, v_search_origin_1, v_search_arrival_1, v_search_letters_1, v_search_length_1, v_search_queued_1))))
abbrev ws_TL_learn (cI cJ cZ : ClassId) (q_this q_world q_slots q_text q_search q_world_teacher q_world_learner q_world_teacher_machine q_world_teacher_lies q_world_teacher_machine_moves q_world_teacher_machine_finals q_world_learner_asked q_world_learner_table q_world_learner_hypothesis q_world_learner_representatives q_world_learner_asked_entries q_world_learner_table_prefixes q_world_learner_table_suffixes q_world_learner_table_known q_world_learner_table_bits q_world_learner_table_prefixes_words q_world_learner_table_suffixes_words q_world_learner_hypothesis_moves q_world_learner_hypothesis_finals q_search_seen q_search_queue q_search_origin q_search_arrival q_search_letters : Nat) (v_textLength : Int32) (v_world_teacher_lieCount : Int32) (v_world_teacher_machine_size : Int32) (v_world_teacher_machine_letters : Int32) (v_world_teacher_machine_moves : (Nat → Int32)) (v_world_teacher_machine_finals : (Nat → Int32)) (v_world_teacher_lies : (Nat → Int64)) (v_world_learner_mode : Int32) (v_world_learner_budget : Int32) (v_world_learner_formed : Int32) (v_world_learner_counterexample : Int64) (v_world_learner_corrections : Int32) (v_world_learner_deceived : Int32) (v_world_learner_asked_size : Int32) (v_world_learner_asked_entries : (Nat → Int64)) (v_world_learner_table_letters : Int32) (v_world_learner_table_prefixes_size : Int32) (v_world_learner_table_prefixes_longest : Int32) (v_world_learner_table_prefixes_words : (Nat → Int64)) (v_world_learner_table_suffixes_size : Int32) (v_world_learner_table_suffixes_longest : Int32) (v_world_learner_table_suffixes_words : (Nat → Int64)) (v_world_learner_table_known : (Nat → Int32)) (v_world_learner_table_bits : (Nat → Int32)) (v_world_learner_hypothesis_size : Int32) (v_world_learner_hypothesis_letters : Int32) (v_world_learner_hypothesis_moves : (Nat → Int32)) (v_world_learner_hypothesis_finals : (Nat → Int32)) (v_world_learner_representatives : (Nat → Int32)) (v_search_length : Int32) (v_search_queued : Int32) (v_search_seen : (Nat → Int32)) (v_search_queue : (Nat → Int32)) (v_search_origin : (Nat → Int32)) (v_search_arrival : (Nat → Int32)) (v_search_letters : (Nat → Int32)) : va_W := [(q_this, .inr (8, [.ref q_world, .ref q_slots, .ref q_text, .int v_textLength, .ref q_search])), (q_world, .inr (7, [.ref q_world_teacher, .ref q_world_learner])), (q_world_teacher, .inr (5, [.ref q_world_teacher_machine, .ref q_world_teacher_lies, .int v_world_teacher_lieCount])), (q_world_teacher_machine, .inr (0, [.ref q_world_teacher_machine_moves, .ref q_world_teacher_machine_finals, .int v_world_teacher_machine_size, .int v_world_teacher_machine_letters])), (q_world_teacher_machine_moves, .inl (cI, 24, .inl v_world_teacher_machine_moves)), (q_world_teacher_machine_finals, .inl (cI, 8, .inl v_world_teacher_machine_finals)), (q_world_teacher_lies, .inl (cJ, 4, .inr (.inl v_world_teacher_lies))), (q_world_learner, .inr (1, [.ref q_world_learner_asked, .ref q_world_learner_table, .ref q_world_learner_hypothesis, .ref q_world_learner_representatives, .int v_world_learner_mode, .int v_world_learner_budget, .int v_world_learner_formed, .long v_world_learner_counterexample, .int v_world_learner_corrections, .int v_world_learner_deceived])), (q_world_learner_asked, .inr (2, [.ref q_world_learner_asked_entries, .int v_world_learner_asked_size])), (q_world_learner_asked_entries, .inl (cJ, 300, .inr (.inl v_world_learner_asked_entries))), (q_world_learner_table, .inr (4, [.ref q_world_learner_table_prefixes, .ref q_world_learner_table_suffixes, .ref q_world_learner_table_known, .ref q_world_learner_table_bits, .int v_world_learner_table_letters])), (q_world_learner_table_prefixes, .inr (6, [.ref q_world_learner_table_prefixes_words, .int v_world_learner_table_prefixes_size, .int v_world_learner_table_prefixes_longest])), (q_world_learner_table_prefixes_words, .inl (cJ, 40, .inr (.inl v_world_learner_table_prefixes_words))), (q_world_learner_table_suffixes, .inr (6, [.ref q_world_learner_table_suffixes_words, .int v_world_learner_table_suffixes_size, .int v_world_learner_table_suffixes_longest])), (q_world_learner_table_suffixes_words, .inl (cJ, 16, .inr (.inl v_world_learner_table_suffixes_words))), (q_world_learner_table_known, .inl (cI, 160, .inl v_world_learner_table_known)), (q_world_learner_table_bits, .inl (cI, 160, .inl v_world_learner_table_bits)), (q_world_learner_hypothesis, .inr (0, [.ref q_world_learner_hypothesis_moves, .ref q_world_learner_hypothesis_finals, .int v_world_learner_hypothesis_size, .int v_world_learner_hypothesis_letters])), (q_world_learner_hypothesis_moves, .inl (cI, 120, .inl v_world_learner_hypothesis_moves)), (q_world_learner_hypothesis_finals, .inl (cI, 40, .inl v_world_learner_hypothesis_finals)), (q_world_learner_representatives, .inl (cI, 40, .inl v_world_learner_representatives)), (q_search, .inr (3, [.ref q_search_seen, .ref q_search_queue, .ref q_search_origin, .ref q_search_arrival, .ref q_search_letters, .int v_search_length, .int v_search_queued])), (q_search_seen, .inl (cI, 320, .inl v_search_seen)), (q_search_queue, .inl (cI, 320, .inl v_search_queue)), (q_search_origin, .inl (cI, 320, .inl v_search_origin)), (q_search_arrival, .inl (cI, 320, .inl v_search_arrival)), (q_search_letters, .inl (cI, 320, .inl v_search_letters))]
abbrev rm_TL_learn : Room := { frames := 6, cells := 0, slots := 0, locals := 159 }
def f_TL_learn_L19 (v_world_teacher_lieCount : Int32) (v_world_teacher_machine_letters : Int32) (v_world_teacher_machine_moves : (Nat → Int32)) (v_world_teacher_machine_finals : (Nat → Int32)) (v_world_teacher_lies : (Nat → Int64)) (v_world_learner_mode : Int32) (v_world_learner_budget : Int32) (v_world_learner_table_letters : Int32) (x1 : Int32) (K rec : Int32 → Int32 → (Nat → Int64) → Int32 → (Nat → Int64) → Int32 → Int32 → (Nat → Int64) → Int32 → Int32 → (Nat → Int32) → (Nat → Int32) → (Nat → Int32) → (Nat → Int32) → Int32 → Int32 → (Nat → Int32) → Int32 → Int64 → Int32 → Int32 → (Nat → Int32) → (Nat → Int32) → (Nat → Int32) → (Nat → Int32) → (Nat → Int32) → Int32 → Int32 → Option (Int32 × (Nat → Int64) × Int32 × (Nat → Int64) × Int32 × Int32 × (Nat → Int64) × Int32 × Int32 × (Nat → Int32) × (Nat → Int32) × (Nat → Int32) × (Nat → Int32) × Int32 × Int32 × (Nat → Int32) × Int32 × Int64 × Int32 × Int32 × (Nat → Int32) × (Nat → Int32) × (Nat → Int32) × (Nat → Int32) × (Nat → Int32) × Int32 × Int32)) (x2 : Int32) (x3 : Int32) (v_world_learner_asked_entries : (Nat → Int64)) (v_world_learner_asked_size : Int32) (v_world_learner_table_prefixes_words : (Nat → Int64)) (v_world_learner_table_prefixes_size : Int32) (v_world_learner_table_prefixes_longest : Int32) (v_world_learner_table_suffixes_words : (Nat → Int64)) (v_world_learner_table_suffixes_size : Int32) (v_world_learner_table_suffixes_longest : Int32) (v_world_learner_table_known : (Nat → Int32)) (v_world_learner_table_bits : (Nat → Int32)) (v_world_learner_hypothesis_moves : (Nat → Int32)) (v_world_learner_hypothesis_finals : (Nat → Int32)) (v_world_learner_hypothesis_size : Int32) (v_world_learner_hypothesis_letters : Int32) (v_world_learner_representatives : (Nat → Int32)) (v_world_learner_formed : Int32) (v_world_learner_counterexample : Int64) (v_world_learner_corrections : Int32) (v_world_learner_deceived : Int32) (v_search_seen : (Nat → Int32)) (v_search_queue : (Nat → Int32)) (v_search_origin : (Nat → Int32)) (v_search_arrival : (Nat → Int32)) (v_search_letters : (Nat → Int32)) (v_search_length : Int32) (v_search_queued : Int32) : Option (Int32 × (Nat → Int64) × Int32 × (Nat → Int64) × Int32 × Int32 × (Nat → Int64) × Int32 × Int32 × (Nat → Int32) × (Nat → Int32) × (Nat → Int32) × (Nat → Int32) × Int32 × Int32 × (Nat → Int32) × Int32 × Int64 × Int32 × Int32 × (Nat → Int32) × (Nat → Int32) × (Nat → Int32) × (Nat → Int32) × (Nat → Int32) × Int32 × Int32) :=
 (if x1 ≤ x3 then
 (K x2 x3 v_world_learner_asked_entries v_world_learner_asked_size v_world_learner_table_prefixes_words v_world_learner_table_prefixes_size v_world_learner_table_prefixes_longest v_world_learner_table_suffixes_words v_world_learner_table_suffixes_size v_world_learner_table_suffixes_longest v_world_learner_table_known v_world_learner_table_bits v_world_learner_hypothesis_moves v_world_learner_hypothesis_finals v_world_learner_hypothesis_size v_world_learner_hypothesis_letters v_world_learner_representatives v_world_learner_formed v_world_learner_counterexample v_world_learner_corrections v_world_learner_deceived v_search_seen v_search_queue v_search_origin v_search_arrival v_search_letters v_search_length v_search_queued)
 else
 (if x2 < (1 : Int32) then
 (K x2 x3 v_world_learner_asked_entries v_world_learner_asked_size v_world_learner_table_prefixes_words v_world_learner_table_prefixes_size v_world_learner_table_prefixes_longest v_world_learner_table_suffixes_words v_world_learner_table_suffixes_size v_world_learner_table_suffixes_longest v_world_learner_table_known v_world_learner_table_bits v_world_learner_hypothesis_moves v_world_learner_hypothesis_finals v_world_learner_hypothesis_size v_world_learner_hypothesis_letters v_world_learner_representatives v_world_learner_formed v_world_learner_counterexample v_world_learner_corrections v_world_learner_deceived v_search_seen v_search_queue v_search_origin v_search_arrival v_search_letters v_search_length v_search_queued)
 else
 (if (5 : Int32) < x2 then
 (K x2 x3 v_world_learner_asked_entries v_world_learner_asked_size v_world_learner_table_prefixes_words v_world_learner_table_prefixes_size v_world_learner_table_prefixes_longest v_world_learner_table_suffixes_words v_world_learner_table_suffixes_size v_world_learner_table_suffixes_longest v_world_learner_table_known v_world_learner_table_bits v_world_learner_hypothesis_moves v_world_learner_hypothesis_finals v_world_learner_hypothesis_size v_world_learner_hypothesis_letters v_world_learner_representatives v_world_learner_formed v_world_learner_counterexample v_world_learner_corrections v_world_learner_deceived v_search_seen v_search_queue v_search_origin v_search_arrival v_search_letters v_search_length v_search_queued)
 else
 (bd27 (f_Le_doStep v_world_learner_mode v_world_learner_budget v_world_learner_formed v_world_learner_counterexample v_world_learner_corrections v_world_learner_deceived v_world_learner_asked_size v_world_learner_asked_entries v_world_learner_table_letters v_world_learner_table_prefixes_size v_world_learner_table_prefixes_longest v_world_learner_table_prefixes_words v_world_learner_table_suffixes_size v_world_learner_table_suffixes_longest v_world_learner_table_suffixes_words v_world_learner_table_known v_world_learner_table_bits v_world_learner_hypothesis_size v_world_learner_hypothesis_letters v_world_learner_hypothesis_moves v_world_learner_hypothesis_finals v_world_learner_representatives v_world_teacher_lieCount v_world_teacher_machine_letters v_world_teacher_machine_moves v_world_teacher_machine_finals v_world_teacher_lies v_search_length v_search_queued v_search_seen v_search_queue v_search_origin v_search_arrival v_search_letters) (fun r v_world_learner_asked_entries_1 v_world_learner_asked_size_1 v_world_learner_table_prefixes_words_1 v_world_learner_table_prefixes_size_1 v_world_learner_table_prefixes_longest_1 v_world_learner_table_suffixes_words_1 v_world_learner_table_suffixes_size_1 v_world_learner_table_suffixes_longest_1 v_world_learner_table_known_1 v_world_learner_table_bits_1 v_world_learner_hypothesis_moves_1 v_world_learner_hypothesis_finals_1 v_world_learner_hypothesis_size_1 v_world_learner_hypothesis_letters_1 v_world_learner_representatives_1 v_world_learner_formed_1 v_world_learner_counterexample_1 v_world_learner_corrections_1 v_world_learner_deceived_1 v_search_seen_1 v_search_queue_1 v_search_origin_1 v_search_arrival_1 v_search_letters_1 v_search_length_1 v_search_queued_1 =>
 (bnd (x3 + 1) (fun x3_1 =>
 (rec r x3_1 v_world_learner_asked_entries_1 v_world_learner_asked_size_1 v_world_learner_table_prefixes_words_1 v_world_learner_table_prefixes_size_1 v_world_learner_table_prefixes_longest_1 v_world_learner_table_suffixes_words_1 v_world_learner_table_suffixes_size_1 v_world_learner_table_suffixes_longest_1 v_world_learner_table_known_1 v_world_learner_table_bits_1 v_world_learner_hypothesis_moves_1 v_world_learner_hypothesis_finals_1 v_world_learner_hypothesis_size_1 v_world_learner_hypothesis_letters_1 v_world_learner_representatives_1 v_world_learner_formed_1 v_world_learner_counterexample_1 v_world_learner_corrections_1 v_world_learner_deceived_1 v_search_seen_1 v_search_queue_1 v_search_origin_1 v_search_arrival_1 v_search_letters_1 v_search_length_1 v_search_queued_1))))))))
def f_TL_learn (x1 : Int32) (v_world_teacher_lieCount : Int32) (v_world_teacher_machine_letters : Int32) (v_world_teacher_machine_moves : (Nat → Int32)) (v_world_teacher_machine_finals : (Nat → Int32)) (v_world_teacher_lies : (Nat → Int64)) (v_world_learner_mode : Int32) (v_world_learner_budget : Int32) (v_world_learner_formed : Int32) (v_world_learner_counterexample : Int64) (v_world_learner_corrections : Int32) (v_world_learner_deceived : Int32) (v_world_learner_asked_size : Int32) (v_world_learner_asked_entries : (Nat → Int64)) (v_world_learner_table_letters : Int32) (v_world_learner_table_prefixes_size : Int32) (v_world_learner_table_prefixes_longest : Int32) (v_world_learner_table_prefixes_words : (Nat → Int64)) (v_world_learner_table_suffixes_size : Int32) (v_world_learner_table_suffixes_longest : Int32) (v_world_learner_table_suffixes_words : (Nat → Int64)) (v_world_learner_table_known : (Nat → Int32)) (v_world_learner_table_bits : (Nat → Int32)) (v_world_learner_hypothesis_size : Int32) (v_world_learner_hypothesis_letters : Int32) (v_world_learner_hypothesis_moves : (Nat → Int32)) (v_world_learner_hypothesis_finals : (Nat → Int32)) (v_world_learner_representatives : (Nat → Int32)) (v_search_length : Int32) (v_search_queued : Int32) (v_search_seen : (Nat → Int32)) (v_search_queue : (Nat → Int32)) (v_search_origin : (Nat → Int32)) (v_search_arrival : (Nat → Int32)) (v_search_letters : (Nat → Int32)) : Option (Int32 × (Nat → Int64) × Int32 × (Nat → Int64) × Int32 × Int32 × (Nat → Int64) × Int32 × Int32 × (Nat → Int32) × (Nat → Int32) × (Nat → Int32) × (Nat → Int32) × Int32 × Int32 × (Nat → Int32) × Int32 × Int64 × Int32 × Int32 × (Nat → Int32) × (Nat → Int32) × (Nat → Int32) × (Nat → Int32) × (Nat → Int32) × Int32 × Int32) :=
 (if x1 < (1 : Int32) then
 (some ((-2 : Int32), v_world_learner_asked_entries, v_world_learner_asked_size, v_world_learner_table_prefixes_words, v_world_learner_table_prefixes_size, v_world_learner_table_prefixes_longest, v_world_learner_table_suffixes_words, v_world_learner_table_suffixes_size, v_world_learner_table_suffixes_longest, v_world_learner_table_known, v_world_learner_table_bits, v_world_learner_hypothesis_moves, v_world_learner_hypothesis_finals, v_world_learner_hypothesis_size, v_world_learner_hypothesis_letters, v_world_learner_representatives, v_world_learner_formed, v_world_learner_counterexample, v_world_learner_corrections, v_world_learner_deceived, v_search_seen, v_search_queue, v_search_origin, v_search_arrival, v_search_letters, v_search_length, v_search_queued))
 else
 (if x1 ≤ (1000 : Int32) then
 (itr (fun _ _ _ _ _ _ _ _ _ _ _ _ _ _ _ _ _ _ _ _ _ _ _ _ _ _ _ _ => none) (f_TL_learn_L19 v_world_teacher_lieCount v_world_teacher_machine_letters v_world_teacher_machine_moves v_world_teacher_machine_finals v_world_teacher_lies v_world_learner_mode v_world_learner_budget v_world_learner_table_letters x1 (fun x2 x3 v_world_learner_asked_entries_1 v_world_learner_asked_size_1 v_world_learner_table_prefixes_words_1 v_world_learner_table_prefixes_size_1 v_world_learner_table_prefixes_longest_1 v_world_learner_table_suffixes_words_1 v_world_learner_table_suffixes_size_1 v_world_learner_table_suffixes_longest_1 v_world_learner_table_known_1 v_world_learner_table_bits_1 v_world_learner_hypothesis_moves_1 v_world_learner_hypothesis_finals_1 v_world_learner_hypothesis_size_1 v_world_learner_hypothesis_letters_1 v_world_learner_representatives_1 v_world_learner_formed_1 v_world_learner_counterexample_1 v_world_learner_corrections_1 v_world_learner_deceived_1 v_search_seen_1 v_search_queue_1 v_search_origin_1 v_search_arrival_1 v_search_letters_1 v_search_length_1 v_search_queued_1 =>
 (some (x2, v_world_learner_asked_entries_1, v_world_learner_asked_size_1, v_world_learner_table_prefixes_words_1, v_world_learner_table_prefixes_size_1, v_world_learner_table_prefixes_longest_1, v_world_learner_table_suffixes_words_1, v_world_learner_table_suffixes_size_1, v_world_learner_table_suffixes_longest_1, v_world_learner_table_known_1, v_world_learner_table_bits_1, v_world_learner_hypothesis_moves_1, v_world_learner_hypothesis_finals_1, v_world_learner_hypothesis_size_1, v_world_learner_hypothesis_letters_1, v_world_learner_representatives_1, v_world_learner_formed_1, v_world_learner_counterexample_1, v_world_learner_corrections_1, v_world_learner_deceived_1, v_search_seen_1, v_search_queue_1, v_search_origin_1, v_search_arrival_1, v_search_letters_1, v_search_length_1, v_search_queued_1)))) FU (1 : Int32) (0 : Int32) v_world_learner_asked_entries v_world_learner_asked_size v_world_learner_table_prefixes_words v_world_learner_table_prefixes_size v_world_learner_table_prefixes_longest v_world_learner_table_suffixes_words v_world_learner_table_suffixes_size v_world_learner_table_suffixes_longest v_world_learner_table_known v_world_learner_table_bits v_world_learner_hypothesis_moves v_world_learner_hypothesis_finals v_world_learner_hypothesis_size v_world_learner_hypothesis_letters v_world_learner_representatives v_world_learner_formed v_world_learner_counterexample v_world_learner_corrections v_world_learner_deceived v_search_seen v_search_queue v_search_origin v_search_arrival v_search_letters v_search_length v_search_queued)
 else
 (some ((-2 : Int32), v_world_learner_asked_entries, v_world_learner_asked_size, v_world_learner_table_prefixes_words, v_world_learner_table_prefixes_size, v_world_learner_table_prefixes_longest, v_world_learner_table_suffixes_words, v_world_learner_table_suffixes_size, v_world_learner_table_suffixes_longest, v_world_learner_table_known, v_world_learner_table_bits, v_world_learner_hypothesis_moves, v_world_learner_hypothesis_finals, v_world_learner_hypothesis_size, v_world_learner_hypothesis_letters, v_world_learner_representatives, v_world_learner_formed, v_world_learner_counterexample, v_world_learner_corrections, v_world_learner_deceived, v_search_seen, v_search_queue, v_search_origin, v_search_arrival, v_search_letters, v_search_length, v_search_queued))))
abbrev ws_TL_ask (cI cJ cZ : ClassId) (q_this q_world q_slots q_text q_search q_world_teacher q_world_learner q_world_teacher_machine q_world_teacher_lies q_world_teacher_machine_moves q_world_teacher_machine_finals q_world_learner_asked q_world_learner_table q_world_learner_hypothesis q_world_learner_representatives q_world_learner_asked_entries : Nat) (v_textLength : Int32) (v_world_teacher_lieCount : Int32) (v_world_teacher_machine_size : Int32) (v_world_teacher_machine_letters : Int32) (v_world_teacher_machine_moves : (Nat → Int32)) (v_world_teacher_machine_finals : (Nat → Int32)) (v_world_teacher_lies : (Nat → Int64)) (v_world_learner_mode : Int32) (v_world_learner_budget : Int32) (v_world_learner_formed : Int32) (v_world_learner_counterexample : Int64) (v_world_learner_corrections : Int32) (v_world_learner_deceived : Int32) (v_world_learner_asked_size : Int32) (v_world_learner_asked_entries : (Nat → Int64)) (v_text : (Nat → Int32)) : va_W := [(q_this, .inr (8, [.ref q_world, .ref q_slots, .ref q_text, .int v_textLength, .ref q_search])), (q_world, .inr (7, [.ref q_world_teacher, .ref q_world_learner])), (q_world_teacher, .inr (5, [.ref q_world_teacher_machine, .ref q_world_teacher_lies, .int v_world_teacher_lieCount])), (q_world_teacher_machine, .inr (0, [.ref q_world_teacher_machine_moves, .ref q_world_teacher_machine_finals, .int v_world_teacher_machine_size, .int v_world_teacher_machine_letters])), (q_world_teacher_machine_moves, .inl (cI, 24, .inl v_world_teacher_machine_moves)), (q_world_teacher_machine_finals, .inl (cI, 8, .inl v_world_teacher_machine_finals)), (q_world_teacher_lies, .inl (cJ, 4, .inr (.inl v_world_teacher_lies))), (q_world_learner, .inr (1, [.ref q_world_learner_asked, .ref q_world_learner_table, .ref q_world_learner_hypothesis, .ref q_world_learner_representatives, .int v_world_learner_mode, .int v_world_learner_budget, .int v_world_learner_formed, .long v_world_learner_counterexample, .int v_world_learner_corrections, .int v_world_learner_deceived])), (q_world_learner_asked, .inr (2, [.ref q_world_learner_asked_entries, .int v_world_learner_asked_size])), (q_world_learner_asked_entries, .inl (cJ, 300, .inr (.inl v_world_learner_asked_entries))), (q_text, .inl (cI, 16, .inl v_text))]
abbrev rm_TL_ask : Room := { frames := 4, cells := 0, slots := 0, locals := 97 }
def f_TL_ask (v_textLength : Int32) (v_world_teacher_lieCount : Int32) (v_world_teacher_machine_letters : Int32) (v_world_teacher_machine_moves : (Nat → Int32)) (v_world_teacher_machine_finals : (Nat → Int32)) (v_world_teacher_lies : (Nat → Int64)) (v_world_learner_budget : Int32) (v_world_learner_asked_size : Int32) (v_world_learner_asked_entries : (Nat → Int64)) (v_text : (Nat → Int32)) : Option (Int32 × (Nat → Int64) × Int32) :=
 (bd1 (f_TL_textWord v_textLength v_world_teacher_machine_letters v_text) (fun r =>
 (if r = (-1 : Int64) then
 (some ((-2 : Int32), v_world_learner_asked_entries, v_world_learner_asked_size))
 else
 (bd3 (f_Le_askAbout r v_world_learner_budget v_world_learner_asked_size v_world_learner_asked_entries v_world_teacher_lieCount v_world_teacher_machine_moves v_world_teacher_machine_finals v_world_teacher_lies) (fun r_1 v_world_learner_asked_entries_1 v_world_learner_asked_size_1 =>
 (some (r_1, v_world_learner_asked_entries_1, v_world_learner_asked_size_1)))))))
abbrev ws_WL_hasNumber (cI cJ cZ : ClassId) (q_this q_words : Nat) (v_size : Int32) (v_longest : Int32) : va_W := [(q_this, .inr (6, [.ref q_words, .int v_size, .int v_longest]))]
abbrev rm_WL_hasNumber : Room := { frames := 0, cells := 0, slots := 0, locals := 0 }
def f_WL_hasNumber (x1 : Int32) (v_size : Int32) : Option (Int32) :=
 (if x1 < 0 then
 (some (0 : Int32))
 else
 (if v_size ≤ x1 then
 (some (0 : Int32))
 else
 (some (1 : Int32))))
abbrev ws_Ws_letterAt (cI cJ cZ : ClassId) : va_W := []
abbrev rm_Ws_letterAt : Room := { frames := 0, cells := 0, slots := 0, locals := 0 }
def f_Ws_letterAt (x0 : Int64) (x2 : Int32) : Option (Int32) :=
 (some ((x0 >>> (((2 : Int32) * x2).toInt64 &&& 63)) &&& (3 : Int64)).toInt32)
abbrev ws_Ws_letterOrLength (cI cJ cZ : ClassId) : va_W := []
abbrev rm_Ws_letterOrLength : Room := { frames := 1, cells := 0, slots := 0, locals := 24 }
def f_Ws_letterOrLength (x0 : Int64) (x2 : Int32) : Option (Int32) :=
 (bd1 (f_Ws_lengthOf x0) (fun r =>
 (if x2 = (-1 : Int32) then
 (some r)
 else
 (if r ≤ x2 then
 (some (-1 : Int32))
 else
 (bd1 (f_Ws_letterAt x0 x2) (fun r_1 =>
 (some r_1)))))))
abbrev ws_TL_word (cI cJ cZ : ClassId) (q_this q_world q_slots q_text q_search q_world_teacher q_world_learner q_world_learner_asked q_world_learner_table q_world_learner_hypothesis q_world_learner_representatives q_world_learner_table_prefixes q_world_learner_table_suffixes q_world_learner_table_known q_world_learner_table_bits q_world_learner_table_prefixes_words q_world_learner_table_suffixes_words : Nat) (v_textLength : Int32) (v_world_learner_mode : Int32) (v_world_learner_budget : Int32) (v_world_learner_formed : Int32) (v_world_learner_counterexample : Int64) (v_world_learner_corrections : Int32) (v_world_learner_deceived : Int32) (v_world_learner_table_letters : Int32) (v_world_learner_table_prefixes_size : Int32) (v_world_learner_table_prefixes_longest : Int32) (v_world_learner_table_prefixes_words : (Nat → Int64)) (v_world_learner_table_suffixes_size : Int32) (v_world_learner_table_suffixes_longest : Int32) (v_world_learner_table_suffixes_words : (Nat → Int64)) : va_W := [(q_this, .inr (8, [.ref q_world, .ref q_slots, .ref q_text, .int v_textLength, .ref q_search])), (q_world, .inr (7, [.ref q_world_teacher, .ref q_world_learner])), (q_world_learner, .inr (1, [.ref q_world_learner_asked, .ref q_world_learner_table, .ref q_world_learner_hypothesis, .ref q_world_learner_representatives, .int v_world_learner_mode, .int v_world_learner_budget, .int v_world_learner_formed, .long v_world_learner_counterexample, .int v_world_learner_corrections, .int v_world_learner_deceived])), (q_world_learner_table, .inr (4, [.ref q_world_learner_table_prefixes, .ref q_world_learner_table_suffixes, .ref q_world_learner_table_known, .ref q_world_learner_table_bits, .int v_world_learner_table_letters])), (q_world_learner_table_prefixes, .inr (6, [.ref q_world_learner_table_prefixes_words, .int v_world_learner_table_prefixes_size, .int v_world_learner_table_prefixes_longest])), (q_world_learner_table_prefixes_words, .inl (cJ, 40, .inr (.inl v_world_learner_table_prefixes_words))), (q_world_learner_table_suffixes, .inr (6, [.ref q_world_learner_table_suffixes_words, .int v_world_learner_table_suffixes_size, .int v_world_learner_table_suffixes_longest])), (q_world_learner_table_suffixes_words, .inl (cJ, 16, .inr (.inl v_world_learner_table_suffixes_words)))]
abbrev rm_TL_word : Room := { frames := 2, cells := 0, slots := 0, locals := 47 }
def f_TL_word_J29 (x2 : Int32) (x3 : Int32) (v_world_learner_table_prefixes_size : Int32) (v_world_learner_table_prefixes_words : (Nat → Int64)) : Option (Int32) :=
 (bd1 (f_WL_hasNumber x2 v_world_learner_table_prefixes_size) (fun r =>
 (if r = 0 then
 (some (-2 : Int32))
 else
 (if (-1 : Int32) ≤ x3 then
 (gIn x2 40
 (bd1 (f_Ws_letterOrLength (v_world_learner_table_prefixes_words x2.toNatClampNeg) x3) (fun r_1 =>
 (some r_1))))
 else
 (some (-2 : Int32))))))
def f_TL_word_J29v1 (x2 : Int32) (x3 : Int32) (v_world_learner_table_suffixes_size : Int32) (v_world_learner_table_suffixes_words : (Nat → Int64)) : Option (Int32) :=
 (bd1 (f_WL_hasNumber x2 v_world_learner_table_suffixes_size) (fun r =>
 (if r = 0 then
 (some (-2 : Int32))
 else
 (if (-1 : Int32) ≤ x3 then
 (gIn x2 16
 (bd1 (f_Ws_letterOrLength (v_world_learner_table_suffixes_words x2.toNatClampNeg) x3) (fun r_1 =>
 (some r_1))))
 else
 (some (-2 : Int32))))))
def f_TL_word (x1 : Int32) (x2 : Int32) (x3 : Int32) (v_world_learner_table_prefixes_size : Int32) (v_world_learner_table_prefixes_words : (Nat → Int64)) (v_world_learner_table_suffixes_size : Int32) (v_world_learner_table_suffixes_words : (Nat → Int64)) : Option (Int32) :=
 (if x1 = 0 then
 (f_TL_word_J29 x2 x3 v_world_learner_table_prefixes_size v_world_learner_table_prefixes_words)
 else
 (f_TL_word_J29v1 x2 x3 v_world_learner_table_suffixes_size v_world_learner_table_suffixes_words))
abbrev ws_TL_cell (cI cJ cZ : ClassId) (q_this q_world q_slots q_text q_search q_world_teacher q_world_learner q_world_teacher_machine q_world_teacher_lies q_world_teacher_machine_moves q_world_teacher_machine_finals q_world_learner_asked q_world_learner_table q_world_learner_hypothesis q_world_learner_representatives q_world_learner_asked_entries q_world_learner_table_prefixes q_world_learner_table_suffixes q_world_learner_table_known q_world_learner_table_bits q_world_learner_table_prefixes_words q_world_learner_table_suffixes_words : Nat) (v_textLength : Int32) (v_world_teacher_lieCount : Int32) (v_world_teacher_machine_size : Int32) (v_world_teacher_machine_letters : Int32) (v_world_learner_mode : Int32) (v_world_learner_budget : Int32) (v_world_learner_formed : Int32) (v_world_learner_counterexample : Int64) (v_world_learner_corrections : Int32) (v_world_learner_deceived : Int32) (v_world_learner_asked_size : Int32) (v_world_learner_asked_entries : (Nat → Int64)) (v_world_learner_table_letters : Int32) (v_world_learner_table_prefixes_size : Int32) (v_world_learner_table_prefixes_longest : Int32) (v_world_learner_table_prefixes_words : (Nat → Int64)) (v_world_learner_table_suffixes_size : Int32) (v_world_learner_table_suffixes_longest : Int32) (v_world_learner_table_suffixes_words : (Nat → Int64)) : va_W := [(q_this, .inr (8, [.ref q_world, .ref q_slots, .ref q_text, .int v_textLength, .ref q_search])), (q_world, .inr (7, [.ref q_world_teacher, .ref q_world_learner])), (q_world_teacher, .inr (5, [.ref q_world_teacher_machine, .ref q_world_teacher_lies, .int v_world_teacher_lieCount])), (q_world_teacher_machine, .inr (0, [.ref q_world_teacher_machine_moves, .ref q_world_teacher_machine_finals, .int v_world_teacher_machine_size, .int v_world_teacher_machine_letters])), (q_world_learner, .inr (1, [.ref q_world_learner_asked, .ref q_world_learner_table, .ref q_world_learner_hypothesis, .ref q_world_learner_representatives, .int v_world_learner_mode, .int v_world_learner_budget, .int v_world_learner_formed, .long v_world_learner_counterexample, .int v_world_learner_corrections, .int v_world_learner_deceived])), (q_world_learner_asked, .inr (2, [.ref q_world_learner_asked_entries, .int v_world_learner_asked_size])), (q_world_learner_asked_entries, .inl (cJ, 300, .inr (.inl v_world_learner_asked_entries))), (q_world_learner_table, .inr (4, [.ref q_world_learner_table_prefixes, .ref q_world_learner_table_suffixes, .ref q_world_learner_table_known, .ref q_world_learner_table_bits, .int v_world_learner_table_letters])), (q_world_learner_table_prefixes, .inr (6, [.ref q_world_learner_table_prefixes_words, .int v_world_learner_table_prefixes_size, .int v_world_learner_table_prefixes_longest])), (q_world_learner_table_prefixes_words, .inl (cJ, 40, .inr (.inl v_world_learner_table_prefixes_words))), (q_world_learner_table_suffixes, .inr (6, [.ref q_world_learner_table_suffixes_words, .int v_world_learner_table_suffixes_size, .int v_world_learner_table_suffixes_longest])), (q_world_learner_table_suffixes_words, .inl (cJ, 16, .inr (.inl v_world_learner_table_suffixes_words)))]
abbrev rm_TL_cell : Room := { frames := 3, cells := 0, slots := 0, locals := 70 }
def f_TL_cell_J98 (x3 : Int32) (x6 : Int64) (v_world_learner_asked_size : Int32) (v_world_learner_asked_entries : (Nat → Int64)) (v_world_learner_table_suffixes_words : (Nat → Int64)) : Option (Int32) :=
 (gIn x3 16
 (bd1 (f_Ws_join x6 (v_world_learner_table_suffixes_words x3.toNatClampNeg)) (fun r =>
 (bd1 (f_Qu_answerTo r v_world_learner_asked_size v_world_learner_asked_entries) (fun r_1 =>
 (some r_1))))))
def f_TL_cell_J39 (x1 : Int32) (x2 : Int32) (x3 : Int32) (s0 : Int32) (v_world_learner_asked_size : Int32) (v_world_learner_asked_entries : (Nat → Int64)) (v_world_learner_table_prefixes_size : Int32) (v_world_learner_table_prefixes_words : (Nat → Int64)) (v_world_learner_table_suffixes_size : Int32) (v_world_learner_table_suffixes_words : (Nat → Int64)) : Option (Int32) :=
 (if s0 = 0 then
 (some (-2 : Int32))
 else
 (bd1 (f_WL_hasNumber x1 v_world_learner_table_prefixes_size) (fun r =>
 (if r = 0 then
 (some (-2 : Int32))
 else
 (bd1 (f_WL_hasNumber x3 v_world_learner_table_suffixes_size) (fun r_1 =>
 (if r_1 = 0 then
 (some (-2 : Int32))
 else
 (gIn x1 40
 (bnd (v_world_learner_table_prefixes_words x1.toNatClampNeg) (fun x6 =>
 (if x2 = (-1 : Int32) then
 (f_TL_cell_J98 x3 x6 v_world_learner_asked_size v_world_learner_asked_entries v_world_learner_table_suffixes_words)
 else
 (bd1 (f_Ws_append x6 x2) (fun r_2 =>
 (f_TL_cell_J98 x3 r_2 v_world_learner_asked_size v_world_learner_asked_entries v_world_learner_table_suffixes_words))))))))))))))
def f_TL_cell_J34 (x1 : Int32) (x2 : Int32) (x3 : Int32) (v_world_learner_asked_size : Int32) (v_world_learner_asked_entries : (Nat → Int64)) (v_world_learner_table_prefixes_size : Int32) (v_world_learner_table_prefixes_words : (Nat → Int64)) (v_world_learner_table_suffixes_size : Int32) (v_world_learner_table_suffixes_words : (Nat → Int64)) : Option (Int32) :=
 (f_TL_cell_J39 x1 x2 x3 (1 : Int32) v_world_learner_asked_size v_world_learner_asked_entries v_world_learner_table_prefixes_size v_world_learner_table_prefixes_words v_world_learner_table_suffixes_size v_world_learner_table_suffixes_words)
def f_TL_cell (x1 : Int32) (x2 : Int32) (x3 : Int32) (v_world_teacher_machine_letters : Int32) (v_world_learner_asked_size : Int32) (v_world_learner_asked_entries : (Nat → Int64)) (v_world_learner_table_prefixes_size : Int32) (v_world_learner_table_prefixes_words : (Nat → Int64)) (v_world_learner_table_suffixes_size : Int32) (v_world_learner_table_suffixes_words : (Nat → Int64)) : Option (Int32) :=
 (if x2 = (-1 : Int32) then
 (f_TL_cell_J34 x1 x2 x3 v_world_learner_asked_size v_world_learner_asked_entries v_world_learner_table_prefixes_size v_world_learner_table_prefixes_words v_world_learner_table_suffixes_size v_world_learner_table_suffixes_words)
 else
 (bd1 (f_Au_hasLetter x2 v_world_teacher_machine_letters) (fun r =>
 (bnd (if r = 0 then (0 : Int32) else (1 : Int32)) (fun t =>
 (if t = 0 then
 (some (-2 : Int32))
 else
 (bd1 (f_WL_hasNumber x1 v_world_learner_table_prefixes_size) (fun r_1 =>
 (if r_1 = 0 then
 (some (-2 : Int32))
 else
 (bd1 (f_WL_hasNumber x3 v_world_learner_table_suffixes_size) (fun r_2 =>
 (if r_2 = 0 then
 (some (-2 : Int32))
 else
 (gIn x1 40
 (bnd (v_world_learner_table_prefixes_words x1.toNatClampNeg) (fun x6 =>
 (if x2 = (-1 : Int32) then
 (f_TL_cell_J98 x3 x6 v_world_learner_asked_size v_world_learner_asked_entries v_world_learner_table_suffixes_words)
 else
 (bd1 (f_Ws_append x6 x2) (fun r_3 =>
 (f_TL_cell_J98 x3 r_3 v_world_learner_asked_size v_world_learner_asked_entries v_world_learner_table_suffixes_words)))))))))))))))))))
abbrev ws_Le_hasHypothesis (cI cJ cZ : ClassId) (q_this q_asked q_table q_hypothesis q_representatives q_hypothesis_moves q_hypothesis_finals : Nat) (v_mode : Int32) (v_budget : Int32) (v_formed : Int32) (v_counterexample : Int64) (v_corrections : Int32) (v_deceived : Int32) (v_hypothesis_size : Int32) (v_hypothesis_letters : Int32) : va_W := [(q_this, .inr (1, [.ref q_asked, .ref q_table, .ref q_hypothesis, .ref q_representatives, .int v_mode, .int v_budget, .int v_formed, .long v_counterexample, .int v_corrections, .int v_deceived])), (q_hypothesis, .inr (0, [.ref q_hypothesis_moves, .ref q_hypothesis_finals, .int v_hypothesis_size, .int v_hypothesis_letters]))]
abbrev rm_Le_hasHypothesis : Room := { frames := 0, cells := 0, slots := 0, locals := 0 }
def f_Le_hasHypothesis (v_hypothesis_size : Int32) : Option (Int32) :=
 (bnd (if v_hypothesis_size ≤ 0 then (0 : Int32) else (1 : Int32)) (fun t =>
 (gB t (some t))))
abbrev ws_TL_hypothesis (cI cJ cZ : ClassId) (q_this q_world q_slots q_text q_search q_world_teacher q_world_learner q_world_teacher_machine q_world_teacher_lies q_world_teacher_machine_moves q_world_teacher_machine_finals q_world_learner_asked q_world_learner_table q_world_learner_hypothesis q_world_learner_representatives q_world_learner_hypothesis_moves q_world_learner_hypothesis_finals : Nat) (v_textLength : Int32) (v_world_teacher_lieCount : Int32) (v_world_teacher_machine_size : Int32) (v_world_teacher_machine_letters : Int32) (v_world_learner_mode : Int32) (v_world_learner_budget : Int32) (v_world_learner_formed : Int32) (v_world_learner_counterexample : Int64) (v_world_learner_corrections : Int32) (v_world_learner_deceived : Int32) (v_world_learner_hypothesis_size : Int32) (v_world_learner_hypothesis_letters : Int32) (v_world_learner_hypothesis_moves : (Nat → Int32)) (v_world_learner_hypothesis_finals : (Nat → Int32)) (v_world_learner_representatives : (Nat → Int32)) : va_W := [(q_this, .inr (8, [.ref q_world, .ref q_slots, .ref q_text, .int v_textLength, .ref q_search])), (q_world, .inr (7, [.ref q_world_teacher, .ref q_world_learner])), (q_world_teacher, .inr (5, [.ref q_world_teacher_machine, .ref q_world_teacher_lies, .int v_world_teacher_lieCount])), (q_world_teacher_machine, .inr (0, [.ref q_world_teacher_machine_moves, .ref q_world_teacher_machine_finals, .int v_world_teacher_machine_size, .int v_world_teacher_machine_letters])), (q_world_learner, .inr (1, [.ref q_world_learner_asked, .ref q_world_learner_table, .ref q_world_learner_hypothesis, .ref q_world_learner_representatives, .int v_world_learner_mode, .int v_world_learner_budget, .int v_world_learner_formed, .long v_world_learner_counterexample, .int v_world_learner_corrections, .int v_world_learner_deceived])), (q_world_learner_hypothesis, .inr (0, [.ref q_world_learner_hypothesis_moves, .ref q_world_learner_hypothesis_finals, .int v_world_learner_hypothesis_size, .int v_world_learner_hypothesis_letters])), (q_world_learner_hypothesis_moves, .inl (cI, 120, .inl v_world_learner_hypothesis_moves)), (q_world_learner_hypothesis_finals, .inl (cI, 40, .inl v_world_learner_hypothesis_finals)), (q_world_learner_representatives, .inl (cI, 40, .inl v_world_learner_representatives))]
abbrev rm_TL_hypothesis : Room := { frames := 2, cells := 0, slots := 0, locals := 44 }
def f_TL_hypothesis (x1 : Int32) (x2 : Int32) (v_world_teacher_machine_letters : Int32) (v_world_learner_hypothesis_size : Int32) (v_world_learner_hypothesis_moves : (Nat → Int32)) (v_world_learner_hypothesis_finals : (Nat → Int32)) (v_world_learner_representatives : (Nat → Int32)) : Option (Int32) :=
 (bd1 (f_Au_hasProperty x2 v_world_teacher_machine_letters) (fun r =>
 (if r = 0 then
 (some (-2 : Int32))
 else
 (bd1 (f_Le_hasHypothesis v_world_learner_hypothesis_size) (fun r_1 =>
 (if r_1 = 0 then
 (some (-3 : Int32))
 else
 (bd1 (f_Au_hasState x1 v_world_learner_hypothesis_size) (fun r_2 =>
 (if r_2 = 0 then
 (some (-1 : Int32))
 else
 (if x2 = (4 : Int32) then
 (gIn x1 40
 (some (v_world_learner_representatives x1.toNatClampNeg)))
 else
 (bd1 (f_Au_property 120 40 x1 x2 v_world_learner_hypothesis_moves v_world_learner_hypothesis_finals) (fun r_3 =>
 (some r_3)))))))))))))
abbrev ws_TL_guess (cI cJ cZ : ClassId) (q_this q_world q_slots q_text q_search q_world_teacher q_world_learner q_world_teacher_machine q_world_teacher_lies q_world_teacher_machine_moves q_world_teacher_machine_finals q_world_learner_asked q_world_learner_table q_world_learner_hypothesis q_world_learner_representatives q_world_learner_hypothesis_moves q_world_learner_hypothesis_finals : Nat) (v_textLength : Int32) (v_world_teacher_lieCount : Int32) (v_world_teacher_machine_size : Int32) (v_world_teacher_machine_letters : Int32) (v_world_learner_mode : Int32) (v_world_learner_budget : Int32) (v_world_learner_formed : Int32) (v_world_learner_counterexample : Int64) (v_world_learner_corrections : Int32) (v_world_learner_deceived : Int32) (v_world_learner_hypothesis_size : Int32) (v_world_learner_hypothesis_letters : Int32) (v_world_learner_hypothesis_moves : (Nat → Int32)) (v_world_learner_hypothesis_finals : (Nat → Int32)) (v_text : (Nat → Int32)) : va_W := [(q_this, .inr (8, [.ref q_world, .ref q_slots, .ref q_text, .int v_textLength, .ref q_search])), (q_world, .inr (7, [.ref q_world_teacher, .ref q_world_learner])), (q_world_teacher, .inr (5, [.ref q_world_teacher_machine, .ref q_world_teacher_lies, .int v_world_teacher_lieCount])), (q_world_teacher_machine, .inr (0, [.ref q_world_teacher_machine_moves, .ref q_world_teacher_machine_finals, .int v_world_teacher_machine_size, .int v_world_teacher_machine_letters])), (q_world_learner, .inr (1, [.ref q_world_learner_asked, .ref q_world_learner_table, .ref q_world_learner_hypothesis, .ref q_world_learner_representatives, .int v_world_learner_mode, .int v_world_learner_budget, .int v_world_learner_formed, .long v_world_learner_counterexample, .int v_world_learner_corrections, .int v_world_learner_deceived])), (q_world_learner_hypothesis, .inr (0, [.ref q_world_learner_hypothesis_moves, .ref q_world_learner_hypothesis_finals, .int v_world_learner_hypothesis_size, .int v_world_learner_hypothesis_letters])), (q_world_learner_hypothesis_moves, .inl (cI, 120, .inl v_world_learner_hypothesis_moves)), (q_world_learner_hypothesis_finals, .inl (cI, 40, .inl v_world_learner_hypothesis_finals)), (q_text, .inl (cI, 16, .inl v_text))]
abbrev rm_TL_guess : Room := { frames := 4, cells := 0, slots := 0, locals := 94 }
def f_TL_guess (v_textLength : Int32) (v_world_teacher_machine_letters : Int32) (v_world_learner_hypothesis_size : Int32) (v_world_learner_hypothesis_moves : (Nat → Int32)) (v_world_learner_hypothesis_finals : (Nat → Int32)) (v_text : (Nat → Int32)) : Option (Int32) :=
 (bd1 (f_TL_textWord v_textLength v_world_teacher_machine_letters v_text) (fun r =>
 (if r = (-1 : Int64) then
 (some (-2 : Int32))
 else
 (bd1 (f_Le_hasHypothesis v_world_learner_hypothesis_size) (fun r_1 =>
 (if r_1 = 0 then
 (some (-3 : Int32))
 else
 (bd1 (f_Au_verdict 120 40 r v_world_learner_hypothesis_moves v_world_learner_hypothesis_finals) (fun r_2 =>
 (some r_2)))))))))
abbrev ws_TL_difference (cI cJ cZ : ClassId) (q_this q_world q_slots q_text q_search q_world_teacher q_world_learner q_world_teacher_machine q_world_teacher_lies q_world_teacher_machine_moves q_world_teacher_machine_finals q_world_learner_asked q_world_learner_table q_world_learner_hypothesis q_world_learner_representatives q_world_learner_hypothesis_moves q_world_learner_hypothesis_finals q_search_seen q_search_queue q_search_origin q_search_arrival q_search_letters : Nat) (v_textLength : Int32) (v_world_teacher_lieCount : Int32) (v_world_teacher_machine_size : Int32) (v_world_teacher_machine_letters : Int32) (v_world_teacher_machine_moves : (Nat → Int32)) (v_world_teacher_machine_finals : (Nat → Int32)) (v_world_learner_mode : Int32) (v_world_learner_budget : Int32) (v_world_learner_formed : Int32) (v_world_learner_counterexample : Int64) (v_world_learner_corrections : Int32) (v_world_learner_deceived : Int32) (v_world_learner_hypothesis_size : Int32) (v_world_learner_hypothesis_letters : Int32) (v_world_learner_hypothesis_moves : (Nat → Int32)) (v_world_learner_hypothesis_finals : (Nat → Int32)) (v_search_length : Int32) (v_search_queued : Int32) (v_search_seen : (Nat → Int32)) (v_search_queue : (Nat → Int32)) (v_search_origin : (Nat → Int32)) (v_search_arrival : (Nat → Int32)) (v_search_letters : (Nat → Int32)) : va_W := [(q_this, .inr (8, [.ref q_world, .ref q_slots, .ref q_text, .int v_textLength, .ref q_search])), (q_world, .inr (7, [.ref q_world_teacher, .ref q_world_learner])), (q_world_teacher, .inr (5, [.ref q_world_teacher_machine, .ref q_world_teacher_lies, .int v_world_teacher_lieCount])), (q_world_teacher_machine, .inr (0, [.ref q_world_teacher_machine_moves, .ref q_world_teacher_machine_finals, .int v_world_teacher_machine_size, .int v_world_teacher_machine_letters])), (q_world_teacher_machine_moves, .inl (cI, 24, .inl v_world_teacher_machine_moves)), (q_world_teacher_machine_finals, .inl (cI, 8, .inl v_world_teacher_machine_finals)), (q_world_learner, .inr (1, [.ref q_world_learner_asked, .ref q_world_learner_table, .ref q_world_learner_hypothesis, .ref q_world_learner_representatives, .int v_world_learner_mode, .int v_world_learner_budget, .int v_world_learner_formed, .long v_world_learner_counterexample, .int v_world_learner_corrections, .int v_world_learner_deceived])), (q_world_learner_hypothesis, .inr (0, [.ref q_world_learner_hypothesis_moves, .ref q_world_learner_hypothesis_finals, .int v_world_learner_hypothesis_size, .int v_world_learner_hypothesis_letters])), (q_world_learner_hypothesis_moves, .inl (cI, 120, .inl v_world_learner_hypothesis_moves)), (q_world_learner_hypothesis_finals, .inl (cI, 40, .inl v_world_learner_hypothesis_finals)), (q_search, .inr (3, [.ref q_search_seen, .ref q_search_queue, .ref q_search_origin, .ref q_search_arrival, .ref q_search_letters, .int v_search_length, .int v_search_queued])), (q_search_seen, .inl (cI, 320, .inl v_search_seen)), (q_search_queue, .inl (cI, 320, .inl v_search_queue)), (q_search_origin, .inl (cI, 320, .inl v_search_origin)), (q_search_arrival, .inl (cI, 320, .inl v_search_arrival)), (q_search_letters, .inl (cI, 320, .inl v_search_letters))]
abbrev rm_TL_difference : Room := { frames := 2, cells := 0, slots := 0, locals := 53 }
def f_TL_difference (x1 : Int32) (v_world_teacher_machine_letters : Int32) (v_world_teacher_machine_moves : (Nat → Int32)) (v_world_teacher_machine_finals : (Nat → Int32)) (v_world_learner_hypothesis_size : Int32) (v_world_learner_hypothesis_moves : (Nat → Int32)) (v_world_learner_hypothesis_finals : (Nat → Int32)) (v_search_length : Int32) (v_search_queued : Int32) (v_search_seen : (Nat → Int32)) (v_search_queue : (Nat → Int32)) (v_search_origin : (Nat → Int32)) (v_search_arrival : (Nat → Int32)) (v_search_letters : (Nat → Int32)) : Option (Int32 × (Nat → Int32) × (Nat → Int32) × (Nat → Int32) × (Nat → Int32) × (Nat → Int32) × Int32 × Int32) :=
 (if (-1 : Int32) ≤ x1 then
 (bd1 (f_Le_hasHypothesis v_world_learner_hypothesis_size) (fun r =>
 (if r = 0 then
 (some ((-3 : Int32), v_search_seen, v_search_queue, v_search_origin, v_search_arrival, v_search_letters, v_search_length, v_search_queued))
 else
 (bd8 (f_Se_findsDifference 120 40 24 8 (0 : Int32) (0 : Int32) v_search_seen v_search_queue v_search_origin v_search_arrival v_search_letters v_world_learner_hypothesis_moves v_world_learner_hypothesis_finals v_world_teacher_machine_letters v_world_teacher_machine_moves v_world_teacher_machine_finals) (fun r_1 v_search_seen_1 v_search_queue_1 v_search_origin_1 v_search_arrival_1 v_search_letters_1 v_search_length_1 v_search_queued_1 =>
 (bd1 (f_Se_letterOrLength x1 v_search_length_1 v_search_letters_1) (fun r_2 =>
 (some (r_2, v_search_seen_1, v_search_queue_1, v_search_origin_1, v_search_arrival_1, v_search_letters_1, v_search_length_1, v_search_queued_1)))))))))
 else
 (some ((-2 : Int32), v_search_seen, v_search_queue, v_search_origin, v_search_arrival, v_search_letters, v_search_length, v_search_queued)))
abbrev ws_TL_counterexample (cI cJ cZ : ClassId) (q_this q_world q_slots q_text q_search q_world_teacher q_world_learner q_world_learner_asked q_world_learner_table q_world_learner_hypothesis q_world_learner_representatives : Nat) (v_textLength : Int32) (v_world_learner_mode : Int32) (v_world_learner_budget : Int32) (v_world_learner_formed : Int32) (v_world_learner_counterexample : Int64) (v_world_learner_corrections : Int32) (v_world_learner_deceived : Int32) : va_W := [(q_this, .inr (8, [.ref q_world, .ref q_slots, .ref q_text, .int v_textLength, .ref q_search])), (q_world, .inr (7, [.ref q_world_teacher, .ref q_world_learner])), (q_world_learner, .inr (1, [.ref q_world_learner_asked, .ref q_world_learner_table, .ref q_world_learner_hypothesis, .ref q_world_learner_representatives, .int v_world_learner_mode, .int v_world_learner_budget, .int v_world_learner_formed, .long v_world_learner_counterexample, .int v_world_learner_corrections, .int v_world_learner_deceived]))]
abbrev rm_TL_counterexample : Room := { frames := 2, cells := 0, slots := 0, locals := 47 }
def f_TL_counterexample (x1 : Int32) (v_world_learner_counterexample : Int64) : Option (Int32) :=
 (if (-1 : Int32) ≤ x1 then
 (if v_world_learner_counterexample = (-1 : Int64) then
 (some (-3 : Int32))
 else
 (bd1 (f_Ws_letterOrLength v_world_learner_counterexample x1) (fun r =>
 (some r))))
 else
 (some (-2 : Int32)))
abbrev ws_Au_copyFrom (cI cJ cZ : ClassId) (q_this q_moves q_finals q_o1 q_o1_moves q_o1_finals : Nat) (n_moves n_finals n_o1_moves n_o1_finals : Nat) (v_size : Int32) (v_letters : Int32) (v_moves : (Nat → Int32)) (v_finals : (Nat → Int32)) (v_o1_size : Int32) (v_o1_letters : Int32) (v_o1_moves : (Nat → Int32)) (v_o1_finals : (Nat → Int32)) : va_W := [(q_this, .inr (0, [.ref q_moves, .ref q_finals, .int v_size, .int v_letters])), (q_moves, .inl (cI, n_moves, .inl v_moves)), (q_finals, .inl (cI, n_finals, .inl v_finals)), (q_o1, .inr (0, [.ref q_o1_moves, .ref q_o1_finals, .int v_o1_size, .int v_o1_letters])), (q_o1_moves, .inl (cI, n_o1_moves, .inl v_o1_moves)), (q_o1_finals, .inl (cI, n_o1_finals, .inl v_o1_finals))]
abbrev rm_Au_copyFrom : Room := { frames := 1, cells := 0, slots := 0, locals := 26 }
def f_Au_copyFrom (n_moves : Nat) (n_finals : Nat) (n_o1_moves : Nat) (n_o1_finals : Nat) (v_moves : (Nat → Int32)) (v_finals : (Nat → Int32)) (v_o1_size : Int32) (v_o1_letters : Int32) (v_o1_moves : (Nat → Int32)) (v_o1_finals : (Nat → Int32)) : Option ((Nat → Int32) × (Nat → Int32) × Int32 × Int32) :=
 (gCp (0 : Int32) (0 : Int32) (Int32.ofNat n_moves) n_o1_moves n_moves
 (bnd (va_cpy v_o1_moves v_moves (0 : Int32).toNatClampNeg (0 : Int32).toNatClampNeg (Int32.ofNat n_moves).toNatClampNeg) (fun v_moves_1 =>
 (gCp (0 : Int32) (0 : Int32) (Int32.ofNat n_finals) n_o1_finals n_finals
 (bnd (va_cpy v_o1_finals v_finals (0 : Int32).toNatClampNeg (0 : Int32).toNatClampNeg (Int32.ofNat n_finals).toNatClampNeg) (fun v_finals_1 =>
 (some (v_moves_1, v_finals_1, v_o1_size, v_o1_letters))))))))
abbrev ws_Qu_copyFrom (cI cJ cZ : ClassId) (q_this q_entries q_o1 q_o1_entries : Nat) (v_size : Int32) (v_entries : (Nat → Int64)) (v_o1_size : Int32) (v_o1_entries : (Nat → Int64)) : va_W := [(q_this, .inr (2, [.ref q_entries, .int v_size])), (q_entries, .inl (cJ, 300, .inr (.inl v_entries))), (q_o1, .inr (2, [.ref q_o1_entries, .int v_o1_size])), (q_o1_entries, .inl (cJ, 300, .inr (.inl v_o1_entries)))]
abbrev rm_Qu_copyFrom : Room := { frames := 1, cells := 0, slots := 0, locals := 26 }
def f_Qu_copyFrom (v_entries : (Nat → Int64)) (v_o1_size : Int32) (v_o1_entries : (Nat → Int64)) : Option ((Nat → Int64) × Int32) :=
 (gCp (0 : Int32) (0 : Int32) v_o1_size 300 300
 (bnd (va_cpy v_o1_entries v_entries (0 : Int32).toNatClampNeg (0 : Int32).toNatClampNeg v_o1_size.toNatClampNeg) (fun v_entries_1 =>
 (some (v_entries_1, v_o1_size)))))
abbrev ws_WL_copyFrom (cI cJ cZ : ClassId) (q_this q_words q_o1 q_o1_words : Nat) (n_words n_o1_words : Nat) (v_size : Int32) (v_longest : Int32) (v_words : (Nat → Int64)) (v_o1_size : Int32) (v_o1_longest : Int32) (v_o1_words : (Nat → Int64)) : va_W := [(q_this, .inr (6, [.ref q_words, .int v_size, .int v_longest])), (q_words, .inl (cJ, n_words, .inr (.inl v_words))), (q_o1, .inr (6, [.ref q_o1_words, .int v_o1_size, .int v_o1_longest])), (q_o1_words, .inl (cJ, n_o1_words, .inr (.inl v_o1_words)))]
abbrev rm_WL_copyFrom : Room := { frames := 1, cells := 0, slots := 0, locals := 26 }
def f_WL_copyFrom (n_words : Nat) (n_o1_words : Nat) (v_words : (Nat → Int64)) (v_o1_size : Int32) (v_o1_longest : Int32) (v_o1_words : (Nat → Int64)) : Option ((Nat → Int64) × Int32 × Int32) :=
 (gCp (0 : Int32) (0 : Int32) v_o1_size n_o1_words n_words
 (bnd (va_cpy v_o1_words v_words (0 : Int32).toNatClampNeg (0 : Int32).toNatClampNeg v_o1_size.toNatClampNeg) (fun v_words_1 =>
 (some (v_words_1, v_o1_size, v_o1_longest)))))
abbrev ws_Ta_copyFrom (cI cJ cZ : ClassId) (q_this q_prefixes q_suffixes q_known q_bits q_prefixes_words q_suffixes_words q_o1 q_o1_prefixes q_o1_suffixes q_o1_known q_o1_bits q_o1_prefixes_words q_o1_suffixes_words : Nat) (v_letters : Int32) (v_prefixes_size : Int32) (v_prefixes_longest : Int32) (v_prefixes_words : (Nat → Int64)) (v_suffixes_size : Int32) (v_suffixes_longest : Int32) (v_suffixes_words : (Nat → Int64)) (v_known : (Nat → Int32)) (v_bits : (Nat → Int32)) (v_o1_letters : Int32) (v_o1_prefixes_size : Int32) (v_o1_prefixes_longest : Int32) (v_o1_prefixes_words : (Nat → Int64)) (v_o1_suffixes_size : Int32) (v_o1_suffixes_longest : Int32) (v_o1_suffixes_words : (Nat → Int64)) (v_o1_known : (Nat → Int32)) (v_o1_bits : (Nat → Int32)) : va_W := [(q_this, .inr (4, [.ref q_prefixes, .ref q_suffixes, .ref q_known, .ref q_bits, .int v_letters])), (q_prefixes, .inr (6, [.ref q_prefixes_words, .int v_prefixes_size, .int v_prefixes_longest])), (q_prefixes_words, .inl (cJ, 40, .inr (.inl v_prefixes_words))), (q_suffixes, .inr (6, [.ref q_suffixes_words, .int v_suffixes_size, .int v_suffixes_longest])), (q_suffixes_words, .inl (cJ, 16, .inr (.inl v_suffixes_words))), (q_known, .inl (cI, 160, .inl v_known)), (q_bits, .inl (cI, 160, .inl v_bits)), (q_o1, .inr (4, [.ref q_o1_prefixes, .ref q_o1_suffixes, .ref q_o1_known, .ref q_o1_bits, .int v_o1_letters])), (q_o1_prefixes, .inr (6, [.ref q_o1_prefixes_words, .int v_o1_prefixes_size, .int v_o1_prefixes_longest])), (q_o1_prefixes_words, .inl (cJ, 40, .inr (.inl v_o1_prefixes_words))), (q_o1_suffixes, .inr (6, [.ref q_o1_suffixes_words, .int v_o1_suffixes_size, .int v_o1_suffixes_longest])), (q_o1_suffixes_words, .inl (cJ, 16, .inr (.inl v_o1_suffixes_words))), (q_o1_known, .inl (cI, 160, .inl v_o1_known)), (q_o1_bits, .inl (cI, 160, .inl v_o1_bits))]
abbrev rm_Ta_copyFrom : Room := { frames := 2, cells := 0, slots := 0, locals := 47 }
def f_Ta_copyFrom (v_prefixes_words : (Nat → Int64)) (v_suffixes_words : (Nat → Int64)) (v_known : (Nat → Int32)) (v_bits : (Nat → Int32)) (v_o1_letters : Int32) (v_o1_prefixes_size : Int32) (v_o1_prefixes_longest : Int32) (v_o1_prefixes_words : (Nat → Int64)) (v_o1_suffixes_size : Int32) (v_o1_suffixes_longest : Int32) (v_o1_suffixes_words : (Nat → Int64)) (v_o1_known : (Nat → Int32)) (v_o1_bits : (Nat → Int32)) : Option ((Nat → Int64) × Int32 × Int32 × (Nat → Int64) × Int32 × Int32 × (Nat → Int32) × (Nat → Int32) × Int32) :=
 (bd3 (f_WL_copyFrom 40 40 v_prefixes_words v_o1_prefixes_size v_o1_prefixes_longest v_o1_prefixes_words) (fun v_prefixes_words_1 v_prefixes_size_1 v_prefixes_longest_1 =>
 (bd3 (f_WL_copyFrom 16 16 v_suffixes_words v_o1_suffixes_size v_o1_suffixes_longest v_o1_suffixes_words) (fun v_suffixes_words_1 v_suffixes_size_1 v_suffixes_longest_1 =>
 (gCp (0 : Int32) (0 : Int32) (160 : Int32) 160 160
 (bnd (va_cpy v_o1_known v_known (0 : Int32).toNatClampNeg (0 : Int32).toNatClampNeg (160 : Int32).toNatClampNeg) (fun v_known_1 =>
 (gCp (0 : Int32) (0 : Int32) (160 : Int32) 160 160
 (bnd (va_cpy v_o1_bits v_bits (0 : Int32).toNatClampNeg (0 : Int32).toNatClampNeg (160 : Int32).toNatClampNeg) (fun v_bits_1 =>
 (some (v_prefixes_words_1, v_prefixes_size_1, v_prefixes_longest_1, v_suffixes_words_1, v_suffixes_size_1, v_suffixes_longest_1, v_known_1, v_bits_1, v_o1_letters))))))))))))
abbrev ws_Le_copyFrom (cI cJ cZ : ClassId) (q_this q_asked q_table q_hypothesis q_representatives q_asked_entries q_table_prefixes q_table_suffixes q_table_known q_table_bits q_table_prefixes_words q_table_suffixes_words q_hypothesis_moves q_hypothesis_finals q_o1 q_o1_asked q_o1_table q_o1_hypothesis q_o1_representatives q_o1_asked_entries q_o1_table_prefixes q_o1_table_suffixes q_o1_table_known q_o1_table_bits q_o1_table_prefixes_words q_o1_table_suffixes_words q_o1_hypothesis_moves q_o1_hypothesis_finals : Nat) (v_mode : Int32) (v_budget : Int32) (v_formed : Int32) (v_counterexample : Int64) (v_corrections : Int32) (v_deceived : Int32) (v_asked_size : Int32) (v_asked_entries : (Nat → Int64)) (v_table_letters : Int32) (v_table_prefixes_size : Int32) (v_table_prefixes_longest : Int32) (v_table_prefixes_words : (Nat → Int64)) (v_table_suffixes_size : Int32) (v_table_suffixes_longest : Int32) (v_table_suffixes_words : (Nat → Int64)) (v_table_known : (Nat → Int32)) (v_table_bits : (Nat → Int32)) (v_hypothesis_size : Int32) (v_hypothesis_letters : Int32) (v_hypothesis_moves : (Nat → Int32)) (v_hypothesis_finals : (Nat → Int32)) (v_representatives : (Nat → Int32)) (v_o1_mode : Int32) (v_o1_budget : Int32) (v_o1_formed : Int32) (v_o1_counterexample : Int64) (v_o1_corrections : Int32) (v_o1_deceived : Int32) (v_o1_asked_size : Int32) (v_o1_asked_entries : (Nat → Int64)) (v_o1_table_letters : Int32) (v_o1_table_prefixes_size : Int32) (v_o1_table_prefixes_longest : Int32) (v_o1_table_prefixes_words : (Nat → Int64)) (v_o1_table_suffixes_size : Int32) (v_o1_table_suffixes_longest : Int32) (v_o1_table_suffixes_words : (Nat → Int64)) (v_o1_table_known : (Nat → Int32)) (v_o1_table_bits : (Nat → Int32)) (v_o1_hypothesis_size : Int32) (v_o1_hypothesis_letters : Int32) (v_o1_hypothesis_moves : (Nat → Int32)) (v_o1_hypothesis_finals : (Nat → Int32)) (v_o1_representatives : (Nat → Int32)) : va_W := [(q_this, .inr (1, [.ref q_asked, .ref q_table, .ref q_hypothesis, .ref q_representatives, .int v_mode, .int v_budget, .int v_formed, .long v_counterexample, .int v_corrections, .int v_deceived])), (q_asked, .inr (2, [.ref q_asked_entries, .int v_asked_size])), (q_asked_entries, .inl (cJ, 300, .inr (.inl v_asked_entries))), (q_table, .inr (4, [.ref q_table_prefixes, .ref q_table_suffixes, .ref q_table_known, .ref q_table_bits, .int v_table_letters])), (q_table_prefixes, .inr (6, [.ref q_table_prefixes_words, .int v_table_prefixes_size, .int v_table_prefixes_longest])), (q_table_prefixes_words, .inl (cJ, 40, .inr (.inl v_table_prefixes_words))), (q_table_suffixes, .inr (6, [.ref q_table_suffixes_words, .int v_table_suffixes_size, .int v_table_suffixes_longest])), (q_table_suffixes_words, .inl (cJ, 16, .inr (.inl v_table_suffixes_words))), (q_table_known, .inl (cI, 160, .inl v_table_known)), (q_table_bits, .inl (cI, 160, .inl v_table_bits)), (q_hypothesis, .inr (0, [.ref q_hypothesis_moves, .ref q_hypothesis_finals, .int v_hypothesis_size, .int v_hypothesis_letters])), (q_hypothesis_moves, .inl (cI, 120, .inl v_hypothesis_moves)), (q_hypothesis_finals, .inl (cI, 40, .inl v_hypothesis_finals)), (q_representatives, .inl (cI, 40, .inl v_representatives)), (q_o1, .inr (1, [.ref q_o1_asked, .ref q_o1_table, .ref q_o1_hypothesis, .ref q_o1_representatives, .int v_o1_mode, .int v_o1_budget, .int v_o1_formed, .long v_o1_counterexample, .int v_o1_corrections, .int v_o1_deceived])), (q_o1_asked, .inr (2, [.ref q_o1_asked_entries, .int v_o1_asked_size])), (q_o1_asked_entries, .inl (cJ, 300, .inr (.inl v_o1_asked_entries))), (q_o1_table, .inr (4, [.ref q_o1_table_prefixes, .ref q_o1_table_suffixes, .ref q_o1_table_known, .ref q_o1_table_bits, .int v_o1_table_letters])), (q_o1_table_prefixes, .inr (6, [.ref q_o1_table_prefixes_words, .int v_o1_table_prefixes_size, .int v_o1_table_prefixes_longest])), (q_o1_table_prefixes_words, .inl (cJ, 40, .inr (.inl v_o1_table_prefixes_words))), (q_o1_table_suffixes, .inr (6, [.ref q_o1_table_suffixes_words, .int v_o1_table_suffixes_size, .int v_o1_table_suffixes_longest])), (q_o1_table_suffixes_words, .inl (cJ, 16, .inr (.inl v_o1_table_suffixes_words))), (q_o1_table_known, .inl (cI, 160, .inl v_o1_table_known)), (q_o1_table_bits, .inl (cI, 160, .inl v_o1_table_bits)), (q_o1_hypothesis, .inr (0, [.ref q_o1_hypothesis_moves, .ref q_o1_hypothesis_finals, .int v_o1_hypothesis_size, .int v_o1_hypothesis_letters])), (q_o1_hypothesis_moves, .inl (cI, 120, .inl v_o1_hypothesis_moves)), (q_o1_hypothesis_finals, .inl (cI, 40, .inl v_o1_hypothesis_finals)), (q_o1_representatives, .inl (cI, 40, .inl v_o1_representatives))]
abbrev rm_Le_copyFrom : Room := { frames := 3, cells := 0, slots := 0, locals := 68 }
def f_Le_copyFrom (v_asked_entries : (Nat → Int64)) (v_table_prefixes_words : (Nat → Int64)) (v_table_suffixes_words : (Nat → Int64)) (v_table_known : (Nat → Int32)) (v_table_bits : (Nat → Int32)) (v_hypothesis_moves : (Nat → Int32)) (v_hypothesis_finals : (Nat → Int32)) (v_representatives : (Nat → Int32)) (v_o1_mode : Int32) (v_o1_budget : Int32) (v_o1_formed : Int32) (v_o1_counterexample : Int64) (v_o1_corrections : Int32) (v_o1_deceived : Int32) (v_o1_asked_size : Int32) (v_o1_asked_entries : (Nat → Int64)) (v_o1_table_letters : Int32) (v_o1_table_prefixes_size : Int32) (v_o1_table_prefixes_longest : Int32) (v_o1_table_prefixes_words : (Nat → Int64)) (v_o1_table_suffixes_size : Int32) (v_o1_table_suffixes_longest : Int32) (v_o1_table_suffixes_words : (Nat → Int64)) (v_o1_table_known : (Nat → Int32)) (v_o1_table_bits : (Nat → Int32)) (v_o1_hypothesis_size : Int32) (v_o1_hypothesis_letters : Int32) (v_o1_hypothesis_moves : (Nat → Int32)) (v_o1_hypothesis_finals : (Nat → Int32)) (v_o1_representatives : (Nat → Int32)) : Option ((Nat → Int64) × Int32 × (Nat → Int64) × Int32 × Int32 × (Nat → Int64) × Int32 × Int32 × (Nat → Int32) × (Nat → Int32) × Int32 × (Nat → Int32) × (Nat → Int32) × Int32 × Int32 × (Nat → Int32) × Int32 × Int32 × Int32 × Int64 × Int32 × Int32) :=
 (bd2 (f_Qu_copyFrom v_asked_entries v_o1_asked_size v_o1_asked_entries) (fun v_asked_entries_1 v_asked_size_1 =>
 (bd9 (f_Ta_copyFrom v_table_prefixes_words v_table_suffixes_words v_table_known v_table_bits v_o1_table_letters v_o1_table_prefixes_size v_o1_table_prefixes_longest v_o1_table_prefixes_words v_o1_table_suffixes_size v_o1_table_suffixes_longest v_o1_table_suffixes_words v_o1_table_known v_o1_table_bits) (fun v_table_prefixes_words_1 v_table_prefixes_size_1 v_table_prefixes_longest_1 v_table_suffixes_words_1 v_table_suffixes_size_1 v_table_suffixes_longest_1 v_table_known_1 v_table_bits_1 v_table_letters_1 =>
 (bd4 (f_Au_copyFrom 120 40 120 40 v_hypothesis_moves v_hypothesis_finals v_o1_hypothesis_size v_o1_hypothesis_letters v_o1_hypothesis_moves v_o1_hypothesis_finals) (fun v_hypothesis_moves_1 v_hypothesis_finals_1 v_hypothesis_size_1 v_hypothesis_letters_1 =>
 (gCp (0 : Int32) (0 : Int32) (40 : Int32) 40 40
 (bnd (va_cpy v_o1_representatives v_representatives (0 : Int32).toNatClampNeg (0 : Int32).toNatClampNeg (40 : Int32).toNatClampNeg) (fun v_representatives_1 =>
 (gB v_o1_formed
 (gB v_o1_deceived
 (some (v_asked_entries_1, v_asked_size_1, v_table_prefixes_words_1, v_table_prefixes_size_1, v_table_prefixes_longest_1, v_table_suffixes_words_1, v_table_suffixes_size_1, v_table_suffixes_longest_1, v_table_known_1, v_table_bits_1, v_table_letters_1, v_hypothesis_moves_1, v_hypothesis_finals_1, v_hypothesis_size_1, v_hypothesis_letters_1, v_representatives_1, v_o1_mode, v_o1_budget, v_o1_formed, v_o1_counterexample, v_o1_corrections, v_o1_deceived)))))))))))))
abbrev ws_Te_copyFrom (cI cJ cZ : ClassId) (q_this q_machine q_lies q_machine_moves q_machine_finals q_o1 q_o1_machine q_o1_lies q_o1_machine_moves q_o1_machine_finals : Nat) (v_lieCount : Int32) (v_machine_size : Int32) (v_machine_letters : Int32) (v_machine_moves : (Nat → Int32)) (v_machine_finals : (Nat → Int32)) (v_lies : (Nat → Int64)) (v_o1_lieCount : Int32) (v_o1_machine_size : Int32) (v_o1_machine_letters : Int32) (v_o1_machine_moves : (Nat → Int32)) (v_o1_machine_finals : (Nat → Int32)) (v_o1_lies : (Nat → Int64)) : va_W := [(q_this, .inr (5, [.ref q_machine, .ref q_lies, .int v_lieCount])), (q_machine, .inr (0, [.ref q_machine_moves, .ref q_machine_finals, .int v_machine_size, .int v_machine_letters])), (q_machine_moves, .inl (cI, 24, .inl v_machine_moves)), (q_machine_finals, .inl (cI, 8, .inl v_machine_finals)), (q_lies, .inl (cJ, 4, .inr (.inl v_lies))), (q_o1, .inr (5, [.ref q_o1_machine, .ref q_o1_lies, .int v_o1_lieCount])), (q_o1_machine, .inr (0, [.ref q_o1_machine_moves, .ref q_o1_machine_finals, .int v_o1_machine_size, .int v_o1_machine_letters])), (q_o1_machine_moves, .inl (cI, 24, .inl v_o1_machine_moves)), (q_o1_machine_finals, .inl (cI, 8, .inl v_o1_machine_finals)), (q_o1_lies, .inl (cJ, 4, .inr (.inl v_o1_lies)))]
abbrev rm_Te_copyFrom : Room := { frames := 2, cells := 0, slots := 0, locals := 47 }
def f_Te_copyFrom (v_machine_moves : (Nat → Int32)) (v_machine_finals : (Nat → Int32)) (v_lies : (Nat → Int64)) (v_o1_lieCount : Int32) (v_o1_machine_size : Int32) (v_o1_machine_letters : Int32) (v_o1_machine_moves : (Nat → Int32)) (v_o1_machine_finals : (Nat → Int32)) (v_o1_lies : (Nat → Int64)) : Option ((Nat → Int32) × (Nat → Int32) × Int32 × Int32 × (Nat → Int64) × Int32) :=
 (bd4 (f_Au_copyFrom 24 8 24 8 v_machine_moves v_machine_finals v_o1_machine_size v_o1_machine_letters v_o1_machine_moves v_o1_machine_finals) (fun v_machine_moves_1 v_machine_finals_1 v_machine_size_1 v_machine_letters_1 =>
 (gCp (0 : Int32) (0 : Int32) v_o1_lieCount 4 4
 (bnd (va_cpy v_o1_lies v_lies (0 : Int32).toNatClampNeg (0 : Int32).toNatClampNeg v_o1_lieCount.toNatClampNeg) (fun v_lies_1 =>
 (some (v_machine_moves_1, v_machine_finals_1, v_machine_size_1, v_machine_letters_1, v_lies_1, v_o1_lieCount)))))))
abbrev ws_Wo_copyFrom (cI cJ cZ : ClassId) (q_this q_teacher q_learner q_teacher_machine q_teacher_lies q_teacher_machine_moves q_teacher_machine_finals q_learner_asked q_learner_table q_learner_hypothesis q_learner_representatives q_learner_asked_entries q_learner_table_prefixes q_learner_table_suffixes q_learner_table_known q_learner_table_bits q_learner_table_prefixes_words q_learner_table_suffixes_words q_learner_hypothesis_moves q_learner_hypothesis_finals q_o1 q_o1_teacher q_o1_learner q_o1_teacher_machine q_o1_teacher_lies q_o1_teacher_machine_moves q_o1_teacher_machine_finals q_o1_learner_asked q_o1_learner_table q_o1_learner_hypothesis q_o1_learner_representatives q_o1_learner_asked_entries q_o1_learner_table_prefixes q_o1_learner_table_suffixes q_o1_learner_table_known q_o1_learner_table_bits q_o1_learner_table_prefixes_words q_o1_learner_table_suffixes_words q_o1_learner_hypothesis_moves q_o1_learner_hypothesis_finals : Nat) (v_teacher_lieCount : Int32) (v_teacher_machine_size : Int32) (v_teacher_machine_letters : Int32) (v_teacher_machine_moves : (Nat → Int32)) (v_teacher_machine_finals : (Nat → Int32)) (v_teacher_lies : (Nat → Int64)) (v_learner_mode : Int32) (v_learner_budget : Int32) (v_learner_formed : Int32) (v_learner_counterexample : Int64) (v_learner_corrections : Int32) (v_learner_deceived : Int32) (v_learner_asked_size : Int32) (v_learner_asked_entries : (Nat → Int64)) (v_learner_table_letters : Int32) (v_learner_table_prefixes_size : Int32) (v_learner_table_prefixes_longest : Int32) (v_learner_table_prefixes_words : (Nat → Int64)) (v_learner_table_suffixes_size : Int32) (v_learner_table_suffixes_longest : Int32) (v_learner_table_suffixes_words : (Nat → Int64)) (v_learner_table_known : (Nat → Int32)) (v_learner_table_bits : (Nat → Int32)) (v_learner_hypothesis_size : Int32) (v_learner_hypothesis_letters : Int32) (v_learner_hypothesis_moves : (Nat → Int32)) (v_learner_hypothesis_finals : (Nat → Int32)) (v_learner_representatives : (Nat → Int32)) (v_o1_teacher_lieCount : Int32) (v_o1_teacher_machine_size : Int32) (v_o1_teacher_machine_letters : Int32) (v_o1_teacher_machine_moves : (Nat → Int32)) (v_o1_teacher_machine_finals : (Nat → Int32)) (v_o1_teacher_lies : (Nat → Int64)) (v_o1_learner_mode : Int32) (v_o1_learner_budget : Int32) (v_o1_learner_formed : Int32) (v_o1_learner_counterexample : Int64) (v_o1_learner_corrections : Int32) (v_o1_learner_deceived : Int32) (v_o1_learner_asked_size : Int32) (v_o1_learner_asked_entries : (Nat → Int64)) (v_o1_learner_table_letters : Int32) (v_o1_learner_table_prefixes_size : Int32) (v_o1_learner_table_prefixes_longest : Int32) (v_o1_learner_table_prefixes_words : (Nat → Int64)) (v_o1_learner_table_suffixes_size : Int32) (v_o1_learner_table_suffixes_longest : Int32) (v_o1_learner_table_suffixes_words : (Nat → Int64)) (v_o1_learner_table_known : (Nat → Int32)) (v_o1_learner_table_bits : (Nat → Int32)) (v_o1_learner_hypothesis_size : Int32) (v_o1_learner_hypothesis_letters : Int32) (v_o1_learner_hypothesis_moves : (Nat → Int32)) (v_o1_learner_hypothesis_finals : (Nat → Int32)) (v_o1_learner_representatives : (Nat → Int32)) : va_W := [(q_this, .inr (7, [.ref q_teacher, .ref q_learner])), (q_teacher, .inr (5, [.ref q_teacher_machine, .ref q_teacher_lies, .int v_teacher_lieCount])), (q_teacher_machine, .inr (0, [.ref q_teacher_machine_moves, .ref q_teacher_machine_finals, .int v_teacher_machine_size, .int v_teacher_machine_letters])), (q_teacher_machine_moves, .inl (cI, 24, .inl v_teacher_machine_moves)), (q_teacher_machine_finals, .inl (cI, 8, .inl v_teacher_machine_finals)), (q_teacher_lies, .inl (cJ, 4, .inr (.inl v_teacher_lies))), (q_learner, .inr (1, [.ref q_learner_asked, .ref q_learner_table, .ref q_learner_hypothesis, .ref q_learner_representatives, .int v_learner_mode, .int v_learner_budget, .int v_learner_formed, .long v_learner_counterexample, .int v_learner_corrections, .int v_learner_deceived])), (q_learner_asked, .inr (2, [.ref q_learner_asked_entries, .int v_learner_asked_size])), (q_learner_asked_entries, .inl (cJ, 300, .inr (.inl v_learner_asked_entries))), (q_learner_table, .inr (4, [.ref q_learner_table_prefixes, .ref q_learner_table_suffixes, .ref q_learner_table_known, .ref q_learner_table_bits, .int v_learner_table_letters])), (q_learner_table_prefixes, .inr (6, [.ref q_learner_table_prefixes_words, .int v_learner_table_prefixes_size, .int v_learner_table_prefixes_longest])), (q_learner_table_prefixes_words, .inl (cJ, 40, .inr (.inl v_learner_table_prefixes_words))), (q_learner_table_suffixes, .inr (6, [.ref q_learner_table_suffixes_words, .int v_learner_table_suffixes_size, .int v_learner_table_suffixes_longest])), (q_learner_table_suffixes_words, .inl (cJ, 16, .inr (.inl v_learner_table_suffixes_words))), (q_learner_table_known, .inl (cI, 160, .inl v_learner_table_known)), (q_learner_table_bits, .inl (cI, 160, .inl v_learner_table_bits)), (q_learner_hypothesis, .inr (0, [.ref q_learner_hypothesis_moves, .ref q_learner_hypothesis_finals, .int v_learner_hypothesis_size, .int v_learner_hypothesis_letters])), (q_learner_hypothesis_moves, .inl (cI, 120, .inl v_learner_hypothesis_moves)), (q_learner_hypothesis_finals, .inl (cI, 40, .inl v_learner_hypothesis_finals)), (q_learner_representatives, .inl (cI, 40, .inl v_learner_representatives)), (q_o1, .inr (7, [.ref q_o1_teacher, .ref q_o1_learner])), (q_o1_teacher, .inr (5, [.ref q_o1_teacher_machine, .ref q_o1_teacher_lies, .int v_o1_teacher_lieCount])), (q_o1_teacher_machine, .inr (0, [.ref q_o1_teacher_machine_moves, .ref q_o1_teacher_machine_finals, .int v_o1_teacher_machine_size, .int v_o1_teacher_machine_letters])), (q_o1_teacher_machine_moves, .inl (cI, 24, .inl v_o1_teacher_machine_moves)), (q_o1_teacher_machine_finals, .inl (cI, 8, .inl v_o1_teacher_machine_finals)), (q_o1_teacher_lies, .inl (cJ, 4, .inr (.inl v_o1_teacher_lies))), (q_o1_learner, .inr (1, [.ref q_o1_learner_asked, .ref q_o1_learner_table, .ref q_o1_learner_hypothesis, .ref q_o1_learner_representatives, .int v_o1_learner_mode, .int v_o1_learner_budget, .int v_o1_learner_formed, .long v_o1_learner_counterexample, .int v_o1_learner_corrections, .int v_o1_learner_deceived])), (q_o1_learner_asked, .inr (2, [.ref q_o1_learner_asked_entries, .int v_o1_learner_asked_size])), (q_o1_learner_asked_entries, .inl (cJ, 300, .inr (.inl v_o1_learner_asked_entries))), (q_o1_learner_table, .inr (4, [.ref q_o1_learner_table_prefixes, .ref q_o1_learner_table_suffixes, .ref q_o1_learner_table_known, .ref q_o1_learner_table_bits, .int v_o1_learner_table_letters])), (q_o1_learner_table_prefixes, .inr (6, [.ref q_o1_learner_table_prefixes_words, .int v_o1_learner_table_prefixes_size, .int v_o1_learner_table_prefixes_longest])), (q_o1_learner_table_prefixes_words, .inl (cJ, 40, .inr (.inl v_o1_learner_table_prefixes_words))), (q_o1_learner_table_suffixes, .inr (6, [.ref q_o1_learner_table_suffixes_words, .int v_o1_learner_table_suffixes_size, .int v_o1_learner_table_suffixes_longest])), (q_o1_learner_table_suffixes_words, .inl (cJ, 16, .inr (.inl v_o1_learner_table_suffixes_words))), (q_o1_learner_table_known, .inl (cI, 160, .inl v_o1_learner_table_known)), (q_o1_learner_table_bits, .inl (cI, 160, .inl v_o1_learner_table_bits)), (q_o1_learner_hypothesis, .inr (0, [.ref q_o1_learner_hypothesis_moves, .ref q_o1_learner_hypothesis_finals, .int v_o1_learner_hypothesis_size, .int v_o1_learner_hypothesis_letters])), (q_o1_learner_hypothesis_moves, .inl (cI, 120, .inl v_o1_learner_hypothesis_moves)), (q_o1_learner_hypothesis_finals, .inl (cI, 40, .inl v_o1_learner_hypothesis_finals)), (q_o1_learner_representatives, .inl (cI, 40, .inl v_o1_learner_representatives))]
abbrev rm_Wo_copyFrom : Room := { frames := 4, cells := 0, slots := 0, locals := 89 }
def f_Wo_copyFrom (v_teacher_machine_moves : (Nat → Int32)) (v_teacher_machine_finals : (Nat → Int32)) (v_teacher_lies : (Nat → Int64)) (v_learner_asked_entries : (Nat → Int64)) (v_learner_table_prefixes_words : (Nat → Int64)) (v_learner_table_suffixes_words : (Nat → Int64)) (v_learner_table_known : (Nat → Int32)) (v_learner_table_bits : (Nat → Int32)) (v_learner_hypothesis_moves : (Nat → Int32)) (v_learner_hypothesis_finals : (Nat → Int32)) (v_learner_representatives : (Nat → Int32)) (v_o1_teacher_lieCount : Int32) (v_o1_teacher_machine_size : Int32) (v_o1_teacher_machine_letters : Int32) (v_o1_teacher_machine_moves : (Nat → Int32)) (v_o1_teacher_machine_finals : (Nat → Int32)) (v_o1_teacher_lies : (Nat → Int64)) (v_o1_learner_mode : Int32) (v_o1_learner_budget : Int32) (v_o1_learner_formed : Int32) (v_o1_learner_counterexample : Int64) (v_o1_learner_corrections : Int32) (v_o1_learner_deceived : Int32) (v_o1_learner_asked_size : Int32) (v_o1_learner_asked_entries : (Nat → Int64)) (v_o1_learner_table_letters : Int32) (v_o1_learner_table_prefixes_size : Int32) (v_o1_learner_table_prefixes_longest : Int32) (v_o1_learner_table_prefixes_words : (Nat → Int64)) (v_o1_learner_table_suffixes_size : Int32) (v_o1_learner_table_suffixes_longest : Int32) (v_o1_learner_table_suffixes_words : (Nat → Int64)) (v_o1_learner_table_known : (Nat → Int32)) (v_o1_learner_table_bits : (Nat → Int32)) (v_o1_learner_hypothesis_size : Int32) (v_o1_learner_hypothesis_letters : Int32) (v_o1_learner_hypothesis_moves : (Nat → Int32)) (v_o1_learner_hypothesis_finals : (Nat → Int32)) (v_o1_learner_representatives : (Nat → Int32)) : Option ((Nat → Int32) × (Nat → Int32) × Int32 × Int32 × (Nat → Int64) × Int32 × (Nat → Int64) × Int32 × (Nat → Int64) × Int32 × Int32 × (Nat → Int64) × Int32 × Int32 × (Nat → Int32) × (Nat → Int32) × Int32 × (Nat → Int32) × (Nat → Int32) × Int32 × Int32 × (Nat → Int32) × Int32 × Int32 × Int32 × Int64 × Int32 × Int32) :=
 (bd6 (f_Te_copyFrom v_teacher_machine_moves v_teacher_machine_finals v_teacher_lies v_o1_teacher_lieCount v_o1_teacher_machine_size v_o1_teacher_machine_letters v_o1_teacher_machine_moves v_o1_teacher_machine_finals v_o1_teacher_lies) (fun v_teacher_machine_moves_1 v_teacher_machine_finals_1 v_teacher_machine_size_1 v_teacher_machine_letters_1 v_teacher_lies_1 v_teacher_lieCount_1 =>
 (bd22 (f_Le_copyFrom v_learner_asked_entries v_learner_table_prefixes_words v_learner_table_suffixes_words v_learner_table_known v_learner_table_bits v_learner_hypothesis_moves v_learner_hypothesis_finals v_learner_representatives v_o1_learner_mode v_o1_learner_budget v_o1_learner_formed v_o1_learner_counterexample v_o1_learner_corrections v_o1_learner_deceived v_o1_learner_asked_size v_o1_learner_asked_entries v_o1_learner_table_letters v_o1_learner_table_prefixes_size v_o1_learner_table_prefixes_longest v_o1_learner_table_prefixes_words v_o1_learner_table_suffixes_size v_o1_learner_table_suffixes_longest v_o1_learner_table_suffixes_words v_o1_learner_table_known v_o1_learner_table_bits v_o1_learner_hypothesis_size v_o1_learner_hypothesis_letters v_o1_learner_hypothesis_moves v_o1_learner_hypothesis_finals v_o1_learner_representatives) (fun v_learner_asked_entries_1 v_learner_asked_size_1 v_learner_table_prefixes_words_1 v_learner_table_prefixes_size_1 v_learner_table_prefixes_longest_1 v_learner_table_suffixes_words_1 v_learner_table_suffixes_size_1 v_learner_table_suffixes_longest_1 v_learner_table_known_1 v_learner_table_bits_1 v_learner_table_letters_1 v_learner_hypothesis_moves_1 v_learner_hypothesis_finals_1 v_learner_hypothesis_size_1 v_learner_hypothesis_letters_1 v_learner_representatives_1 v_learner_mode_1 v_learner_budget_1 v_learner_formed_1 v_learner_counterexample_1 v_learner_corrections_1 v_learner_deceived_1 =>
 (some (v_teacher_machine_moves_1, v_teacher_machine_finals_1, v_teacher_machine_size_1, v_teacher_machine_letters_1, v_teacher_lies_1, v_teacher_lieCount_1, v_learner_asked_entries_1, v_learner_asked_size_1, v_learner_table_prefixes_words_1, v_learner_table_prefixes_size_1, v_learner_table_prefixes_longest_1, v_learner_table_suffixes_words_1, v_learner_table_suffixes_size_1, v_learner_table_suffixes_longest_1, v_learner_table_known_1, v_learner_table_bits_1, v_learner_table_letters_1, v_learner_hypothesis_moves_1, v_learner_hypothesis_finals_1, v_learner_hypothesis_size_1, v_learner_hypothesis_letters_1, v_learner_representatives_1, v_learner_mode_1, v_learner_budget_1, v_learner_formed_1, v_learner_counterexample_1, v_learner_corrections_1, v_learner_deceived_1))))))
abbrev ws_TL_count (cI cJ cZ : ClassId) (q_this q_world q_slots q_text q_search q_world_teacher q_world_learner q_world_teacher_machine q_world_teacher_lies q_world_teacher_machine_moves q_world_teacher_machine_finals q_world_learner_asked q_world_learner_table q_world_learner_hypothesis q_world_learner_representatives q_world_learner_asked_entries q_world_learner_table_prefixes q_world_learner_table_suffixes q_world_learner_table_known q_world_learner_table_bits q_world_learner_table_prefixes_words q_world_learner_table_suffixes_words q_world_learner_hypothesis_moves q_world_learner_hypothesis_finals : Nat) (v_textLength : Int32) (v_world_teacher_lieCount : Int32) (v_world_teacher_machine_size : Int32) (v_world_teacher_machine_letters : Int32) (v_world_teacher_machine_finals : (Nat → Int32)) (v_world_learner_mode : Int32) (v_world_learner_budget : Int32) (v_world_learner_formed : Int32) (v_world_learner_counterexample : Int64) (v_world_learner_corrections : Int32) (v_world_learner_deceived : Int32) (v_world_learner_asked_size : Int32) (v_world_learner_table_letters : Int32) (v_world_learner_table_prefixes_size : Int32) (v_world_learner_table_prefixes_longest : Int32) (v_world_learner_table_suffixes_size : Int32) (v_world_learner_table_suffixes_longest : Int32) (v_world_learner_hypothesis_size : Int32) (v_world_learner_hypothesis_letters : Int32) : va_W := [(q_this, .inr (8, [.ref q_world, .ref q_slots, .ref q_text, .int v_textLength, .ref q_search])), (q_world, .inr (7, [.ref q_world_teacher, .ref q_world_learner])), (q_world_teacher, .inr (5, [.ref q_world_teacher_machine, .ref q_world_teacher_lies, .int v_world_teacher_lieCount])), (q_world_teacher_machine, .inr (0, [.ref q_world_teacher_machine_moves, .ref q_world_teacher_machine_finals, .int v_world_teacher_machine_size, .int v_world_teacher_machine_letters])), (q_world_teacher_machine_finals, .inl (cI, 8, .inl v_world_teacher_machine_finals)), (q_world_learner, .inr (1, [.ref q_world_learner_asked, .ref q_world_learner_table, .ref q_world_learner_hypothesis, .ref q_world_learner_representatives, .int v_world_learner_mode, .int v_world_learner_budget, .int v_world_learner_formed, .long v_world_learner_counterexample, .int v_world_learner_corrections, .int v_world_learner_deceived])), (q_world_learner_asked, .inr (2, [.ref q_world_learner_asked_entries, .int v_world_learner_asked_size])), (q_world_learner_table, .inr (4, [.ref q_world_learner_table_prefixes, .ref q_world_learner_table_suffixes, .ref q_world_learner_table_known, .ref q_world_learner_table_bits, .int v_world_learner_table_letters])), (q_world_learner_table_prefixes, .inr (6, [.ref q_world_learner_table_prefixes_words, .int v_world_learner_table_prefixes_size, .int v_world_learner_table_prefixes_longest])), (q_world_learner_table_suffixes, .inr (6, [.ref q_world_learner_table_suffixes_words, .int v_world_learner_table_suffixes_size, .int v_world_learner_table_suffixes_longest])), (q_world_learner_hypothesis, .inr (0, [.ref q_world_learner_hypothesis_moves, .ref q_world_learner_hypothesis_finals, .int v_world_learner_hypothesis_size, .int v_world_learner_hypothesis_letters]))]
abbrev rm_TL_count : Room := { frames := 1, cells := 0, slots := 0, locals := 22 }
def f_TL_count (x1 : Int32) (v_textLength : Int32) (v_world_teacher_lieCount : Int32) (v_world_teacher_machine_size : Int32) (v_world_teacher_machine_letters : Int32) (v_world_teacher_machine_finals : (Nat → Int32)) (v_world_learner_mode : Int32) (v_world_learner_budget : Int32) (v_world_learner_corrections : Int32) (v_world_learner_deceived : Int32) (v_world_learner_asked_size : Int32) (v_world_learner_table_prefixes_size : Int32) (v_world_learner_table_suffixes_size : Int32) (v_world_learner_hypothesis_size : Int32) : Option (Int32) :=
 (if x1 = (0 : Int32) then
 (some v_world_teacher_machine_size)
 else
 (if x1 = (1 : Int32) then
 (some v_world_teacher_machine_letters)
 else
 (if x1 = (2 : Int32) then
 (bd1 (f_Au_countFinals 8 v_world_teacher_machine_size v_world_teacher_machine_finals) (fun r =>
 (some r)))
 else
 (if x1 = (3 : Int32) then
 (some v_world_teacher_lieCount)
 else
 (if x1 = (4 : Int32) then
 (some v_world_learner_mode)
 else
 (if x1 = (5 : Int32) then
 (some v_world_learner_budget)
 else
 (if x1 = (6 : Int32) then
 (some v_world_learner_asked_size)
 else
 (if x1 = (7 : Int32) then
 (some v_world_learner_table_prefixes_size)
 else
 (if x1 = (8 : Int32) then
 (some v_world_learner_table_suffixes_size)
 else
 (if x1 = (9 : Int32) then
 (some v_world_learner_hypothesis_size)
 else
 (if x1 = (10 : Int32) then
 (some v_world_learner_corrections)
 else
 (if x1 = (11 : Int32) then
 (bnd (if v_world_learner_deceived = 0 then (0 : Int32) else (1 : Int32)) (fun t =>
 (some t)))
 else
 (if x1 = (12 : Int32) then
 (some v_textLength)
 else
 (some (-2 : Int32)))))))))))))))
abbrev ws_TL_mixAutomaton (cI cJ cZ : ClassId) (q_o2 q_o2_moves q_o2_finals : Nat) (n_o2_moves n_o2_finals : Nat) (v_o2_size : Int32) (v_o2_letters : Int32) (v_o2_moves : (Nat → Int32)) (v_o2_finals : (Nat → Int32)) : va_W := [(q_o2, .inr (0, [.ref q_o2_moves, .ref q_o2_finals, .int v_o2_size, .int v_o2_letters])), (q_o2_moves, .inl (cI, n_o2_moves, .inl v_o2_moves)), (q_o2_finals, .inl (cI, n_o2_finals, .inl v_o2_finals))]
abbrev rm_TL_mixAutomaton : Room := { frames := 1, cells := 0, slots := 0, locals := 22 }
def f_TL_mixAutomaton_L17 (n_o2_moves : Nat) (v_o2_letters : Int32) (v_o2_moves : (Nat → Int32)) (x5 : Int32) (K rec : Int64 → Int32 → Option (Int64)) (x3 : Int64) (x6 : Int32) : Option (Int64) :=
 (if v_o2_letters ≤ x6 then
 (K x3 x6)
 else
 (bd1 (f_Au_next n_o2_moves x5 x6 v_o2_moves) (fun r =>
 (bnd (((31 : Int64) * x3) + r.toInt64) (fun x3_1 =>
 (bnd (x6 + 1) (fun x6_1 =>
 (rec x3_1 x6_1))))))))
def f_TL_mixAutomaton_L5 (n_o2_moves : Nat) (n_o2_finals : Nat) (v_o2_size : Int32) (v_o2_letters : Int32) (v_o2_moves : (Nat → Int32)) (v_o2_finals : (Nat → Int32)) (K rec : Int64 → Int32 → Option (Int64)) (x3 : Int64) (x5 : Int32) : Option (Int64) :=
 (if v_o2_size ≤ x5 then
 (K x3 x5)
 else
 (itr (fun _ _ => none) (f_TL_mixAutomaton_L17 n_o2_moves v_o2_letters v_o2_moves x5 (fun x3_1 x6 =>
 (gIn x5 n_o2_finals
 (bnd (((31 : Int64) * x3_1) + (v_o2_finals x5.toNatClampNeg).toInt64) (fun x3_2 =>
 (bnd (x5 + 1) (fun x5_1 =>
 (rec x3_2 x5_1)))))))) FU x3 (0 : Int32)))
def f_TL_mixAutomaton (n_o2_moves : Nat) (n_o2_finals : Nat) (x0 : Int64) (v_o2_size : Int32) (v_o2_letters : Int32) (v_o2_moves : (Nat → Int32)) (v_o2_finals : (Nat → Int32)) : Option (Int64) :=
 (itr (fun _ _ => none) (f_TL_mixAutomaton_L5 n_o2_moves n_o2_finals v_o2_size v_o2_letters v_o2_moves v_o2_finals (fun x3 x5 =>
 (some x3))) FU x0 (0 : Int32))
abbrev ws_TL_mixLetters (cI cJ cZ : ClassId) : va_W := []
abbrev rm_TL_mixLetters : Room := { frames := 1, cells := 0, slots := 0, locals := 24 }
def f_TL_mixLetters_L12 (x2 : Int64) (x6 : Int32) (K rec : Int64 → Int32 → Option (Int64)) (x4 : Int64) (x7 : Int32) : Option (Int64) :=
 (if x6 ≤ x7 then
 (K x4 x7)
 else
 (bd1 (f_Ws_letterAt x2 x7) (fun r =>
 (bnd (((31 : Int64) * x4) + r.toInt64) (fun x4_1 =>
 (bnd (x7 + 1) (fun x7_1 =>
 (rec x4_1 x7_1))))))))
def f_TL_mixLetters (x0 : Int64) (x2 : Int64) : Option (Int64) :=
 (bd1 (f_Ws_lengthOf x2) (fun r =>
 (itr (fun _ _ => none) (f_TL_mixLetters_L12 x2 r (fun x4 x7 =>
 (some x4))) FU x0 (0 : Int32))))
abbrev ws_TL_mixRow (cI cJ cZ : ClassId) (q_this q_world q_slots q_text q_search q_world_teacher q_world_learner q_world_teacher_machine q_world_teacher_lies q_world_teacher_machine_moves q_world_teacher_machine_finals q_world_learner_asked q_world_learner_table q_world_learner_hypothesis q_world_learner_representatives q_world_learner_asked_entries q_world_learner_table_prefixes q_world_learner_table_suffixes q_world_learner_table_known q_world_learner_table_bits q_world_learner_table_prefixes_words q_world_learner_table_suffixes_words : Nat) (v_textLength : Int32) (v_world_teacher_lieCount : Int32) (v_world_teacher_machine_size : Int32) (v_world_teacher_machine_letters : Int32) (v_world_learner_mode : Int32) (v_world_learner_budget : Int32) (v_world_learner_formed : Int32) (v_world_learner_counterexample : Int64) (v_world_learner_corrections : Int32) (v_world_learner_deceived : Int32) (v_world_learner_asked_size : Int32) (v_world_learner_asked_entries : (Nat → Int64)) (v_world_learner_table_letters : Int32) (v_world_learner_table_prefixes_size : Int32) (v_world_learner_table_prefixes_longest : Int32) (v_world_learner_table_prefixes_words : (Nat → Int64)) (v_world_learner_table_suffixes_size : Int32) (v_world_learner_table_suffixes_longest : Int32) (v_world_learner_table_suffixes_words : (Nat → Int64)) : va_W := [(q_this, .inr (8, [.ref q_world, .ref q_slots, .ref q_text, .int v_textLength, .ref q_search])), (q_world, .inr (7, [.ref q_world_teacher, .ref q_world_learner])), (q_world_teacher, .inr (5, [.ref q_world_teacher_machine, .ref q_world_teacher_lies, .int v_world_teacher_lieCount])), (q_world_teacher_machine, .inr (0, [.ref q_world_teacher_machine_moves, .ref q_world_teacher_machine_finals, .int v_world_teacher_machine_size, .int v_world_teacher_machine_letters])), (q_world_learner, .inr (1, [.ref q_world_learner_asked, .ref q_world_learner_table, .ref q_world_learner_hypothesis, .ref q_world_learner_representatives, .int v_world_learner_mode, .int v_world_learner_budget, .int v_world_learner_formed, .long v_world_learner_counterexample, .int v_world_learner_corrections, .int v_world_learner_deceived])), (q_world_learner_asked, .inr (2, [.ref q_world_learner_asked_entries, .int v_world_learner_asked_size])), (q_world_learner_asked_entries, .inl (cJ, 300, .inr (.inl v_world_learner_asked_entries))), (q_world_learner_table, .inr (4, [.ref q_world_learner_table_prefixes, .ref q_world_learner_table_suffixes, .ref q_world_learner_table_known, .ref q_world_learner_table_bits, .int v_world_learner_table_letters])), (q_world_learner_table_prefixes, .inr (6, [.ref q_world_learner_table_prefixes_words, .int v_world_learner_table_prefixes_size, .int v_world_learner_table_prefixes_longest])), (q_world_learner_table_prefixes_words, .inl (cJ, 40, .inr (.inl v_world_learner_table_prefixes_words))), (q_world_learner_table_suffixes, .inr (6, [.ref q_world_learner_table_suffixes_words, .int v_world_learner_table_suffixes_size, .int v_world_learner_table_suffixes_longest])), (q_world_learner_table_suffixes_words, .inl (cJ, 16, .inr (.inl v_world_learner_table_suffixes_words)))]
abbrev rm_TL_mixRow : Room := { frames := 4, cells := 0, slots := 0, locals := 97 }
def f_TL_mixRow_L24 (v_world_teacher_machine_letters : Int32) (v_world_learner_asked_size : Int32) (v_world_learner_asked_entries : (Nat → Int64)) (v_world_learner_table_prefixes_size : Int32) (v_world_learner_table_prefixes_words : (Nat → Int64)) (v_world_learner_table_suffixes_size : Int32) (v_world_learner_table_suffixes_words : (Nat → Int64)) (x3 : Int32) (x4 : Int32) (x7 : Int32) (K rec : Int64 → Int32 → Option (Int64)) (x5 : Int64) (x8 : Int32) : Option (Int64) :=
 (if x7 ≤ x8 then
 (K x5 x8)
 else
 (bd1 (f_TL_cell x3 x4 x8 v_world_teacher_machine_letters v_world_learner_asked_size v_world_learner_asked_entries v_world_learner_table_prefixes_size v_world_learner_table_prefixes_words v_world_learner_table_suffixes_size v_world_learner_table_suffixes_words) (fun r =>
 (bnd (((31 : Int64) * x5) + r.toInt64) (fun x5_1 =>
 (bnd (x8 + 1) (fun x8_1 =>
 (rec x5_1 x8_1))))))))
def f_TL_mixRow (x1 : Int64) (x3 : Int32) (x4 : Int32) (v_world_teacher_machine_letters : Int32) (v_world_learner_asked_size : Int32) (v_world_learner_asked_entries : (Nat → Int64)) (v_world_learner_table_prefixes_size : Int32) (v_world_learner_table_prefixes_words : (Nat → Int64)) (v_world_learner_table_suffixes_size : Int32) (v_world_learner_table_suffixes_words : (Nat → Int64)) : Option (Int64) :=
 (itr (fun _ _ => none) (f_TL_mixRow_L24 v_world_teacher_machine_letters v_world_learner_asked_size v_world_learner_asked_entries v_world_learner_table_prefixes_size v_world_learner_table_prefixes_words v_world_learner_table_suffixes_size v_world_learner_table_suffixes_words x3 x4 v_world_learner_table_suffixes_size (fun x5 x8 =>
 (some x5))) FU x1 (0 : Int32))
abbrev ws_TL_mixTable_a (cI cJ cZ : ClassId) (q_this q_world q_slots q_text q_search q_world_teacher q_world_learner q_world_teacher_machine q_world_teacher_lies q_world_teacher_machine_moves q_world_teacher_machine_finals q_world_learner_asked q_world_learner_table q_world_learner_hypothesis q_world_learner_representatives q_world_learner_asked_entries q_world_learner_table_prefixes q_world_learner_table_suffixes q_world_learner_table_known q_world_learner_table_bits q_world_learner_table_prefixes_words q_world_learner_table_suffixes_words : Nat) (v_textLength : Int32) (v_world_teacher_lieCount : Int32) (v_world_teacher_machine_size : Int32) (v_world_teacher_machine_letters : Int32) (v_world_learner_mode : Int32) (v_world_learner_budget : Int32) (v_world_learner_formed : Int32) (v_world_learner_counterexample : Int64) (v_world_learner_corrections : Int32) (v_world_learner_deceived : Int32) (v_world_learner_asked_size : Int32) (v_world_learner_asked_entries : (Nat → Int64)) (v_world_learner_table_letters : Int32) (v_world_learner_table_prefixes_size : Int32) (v_world_learner_table_prefixes_longest : Int32) (v_world_learner_table_prefixes_words : (Nat → Int64)) (v_world_learner_table_suffixes_size : Int32) (v_world_learner_table_suffixes_longest : Int32) (v_world_learner_table_suffixes_words : (Nat → Int64)) : va_W := [(q_this, .inr (8, [.ref q_world, .ref q_slots, .ref q_text, .int v_textLength, .ref q_search])), (q_world, .inr (7, [.ref q_world_teacher, .ref q_world_learner])), (q_world_teacher, .inr (5, [.ref q_world_teacher_machine, .ref q_world_teacher_lies, .int v_world_teacher_lieCount])), (q_world_teacher_machine, .inr (0, [.ref q_world_teacher_machine_moves, .ref q_world_teacher_machine_finals, .int v_world_teacher_machine_size, .int v_world_teacher_machine_letters])), (q_world_learner, .inr (1, [.ref q_world_learner_asked, .ref q_world_learner_table, .ref q_world_learner_hypothesis, .ref q_world_learner_representatives, .int v_world_learner_mode, .int v_world_learner_budget, .int v_world_learner_formed, .long v_world_learner_counterexample, .int v_world_learner_corrections, .int v_world_learner_deceived])), (q_world_learner_asked, .inr (2, [.ref q_world_learner_asked_entries, .int v_world_learner_asked_size])), (q_world_learner_asked_entries, .inl (cJ, 300, .inr (.inl v_world_learner_asked_entries))), (q_world_learner_table, .inr (4, [.ref q_world_learner_table_prefixes, .ref q_world_learner_table_suffixes, .ref q_world_learner_table_known, .ref q_world_learner_table_bits, .int v_world_learner_table_letters])), (q_world_learner_table_prefixes, .inr (6, [.ref q_world_learner_table_prefixes_words, .int v_world_learner_table_prefixes_size, .int v_world_learner_table_prefixes_longest])), (q_world_learner_table_prefixes_words, .inl (cJ, 40, .inr (.inl v_world_learner_table_prefixes_words))), (q_world_learner_table_suffixes, .inr (6, [.ref q_world_learner_table_suffixes_words, .int v_world_learner_table_suffixes_size, .int v_world_learner_table_suffixes_longest])), (q_world_learner_table_suffixes_words, .inl (cJ, 16, .inr (.inl v_world_learner_table_suffixes_words)))]
abbrev rm_TL_mixTable_a : Room := { frames := 5, cells := 0, slots := 0, locals := 125 }
def f_TL_mixTable_a_L6 (v_world_teacher_machine_letters : Int32) (v_world_learner_asked_size : Int32) (v_world_learner_asked_entries : (Nat → Int64)) (v_world_learner_table_prefixes_size : Int32) (v_world_learner_table_prefixes_words : (Nat → Int64)) (v_world_learner_table_suffixes_size : Int32) (v_world_learner_table_suffixes_words : (Nat → Int64)) (K rec : Int64 → Int32 → Option (Int64)) (x4 : Int64) (x6 : Int32) : Option (Int64) :=
 (if v_world_learner_table_prefixes_size ≤ x6 then
 (K x4 x6)
 else
 (gIn x6 40
 (bd1 (f_Ws_lengthOf (v_world_learner_table_prefixes_words x6.toNatClampNeg)) (fun r =>
 (bnd (((31 : Int64) * x4) + r.toInt64) (fun x4_1 =>
 (gIn x6 40
 (bd1 (f_TL_mixLetters x4_1 (v_world_learner_table_prefixes_words x6.toNatClampNeg)) (fun r_1 =>
 (bd1 (f_TL_mixRow r_1 x6 (-1 : Int32) v_world_teacher_machine_letters v_world_learner_asked_size v_world_learner_asked_entries v_world_learner_table_prefixes_size v_world_learner_table_prefixes_words v_world_learner_table_suffixes_size v_world_learner_table_suffixes_words) (fun r_2 =>
 (bnd (x6 + 1) (fun x6_1 =>
 (rec r_2 x6_1))))))))))))))
def f_TL_mixTable_a_L93 (v_world_teacher_machine_letters : Int32) (v_world_learner_asked_size : Int32) (v_world_learner_asked_entries : (Nat → Int64)) (v_world_learner_table_letters : Int32) (v_world_learner_table_prefixes_size : Int32) (v_world_learner_table_prefixes_words : (Nat → Int64)) (v_world_learner_table_suffixes_size : Int32) (v_world_learner_table_suffixes_words : (Nat → Int64)) (x6 : Int32) (K rec : Int64 → Int32 → Option (Int64)) (x4 : Int64) (x7 : Int32) : Option (Int64) :=
 (if v_world_learner_table_letters ≤ x7 then
 (K x4 x7)
 else
 (bd1 (f_TL_mixRow x4 x6 x7 v_world_teacher_machine_letters v_world_learner_asked_size v_world_learner_asked_entries v_world_learner_table_prefixes_size v_world_learner_table_prefixes_words v_world_learner_table_suffixes_size v_world_learner_table_suffixes_words) (fun r =>
 (bnd (x7 + 1) (fun x7_1 =>
 (rec r x7_1))))))
def f_TL_mixTable_a_L78 (v_world_teacher_machine_letters : Int32) (v_world_learner_asked_size : Int32) (v_world_learner_asked_entries : (Nat → Int64)) (v_world_learner_table_letters : Int32) (v_world_learner_table_prefixes_size : Int32) (v_world_learner_table_prefixes_words : (Nat → Int64)) (v_world_learner_table_suffixes_size : Int32) (v_world_learner_table_suffixes_words : (Nat → Int64)) (K rec : Int64 → Int32 → Option (Int64)) (x4 : Int64) (x6 : Int32) : Option (Int64) :=
 (if v_world_learner_table_prefixes_size ≤ x6 then
 (K x4 x6)
 else
 (itr (fun _ _ => none) (f_TL_mixTable_a_L93 v_world_teacher_machine_letters v_world_learner_asked_size v_world_learner_asked_entries v_world_learner_table_letters v_world_learner_table_prefixes_size v_world_learner_table_prefixes_words v_world_learner_table_suffixes_size v_world_learner_table_suffixes_words x6 (fun x4_1 x7 =>
 (bnd (x6 + 1) (fun x6_1 =>
 (rec x4_1 x6_1))))) FU x4 (0 : Int32)))
def f_TL_mixTable_a_L129 (v_world_learner_table_suffixes_size : Int32) (v_world_learner_table_suffixes_words : (Nat → Int64)) (K rec : Int64 → Int32 → Option (Int64)) (x4 : Int64) (x6 : Int32) : Option (Int64) :=
 (if v_world_learner_table_suffixes_size ≤ x6 then
 (K x4 x6)
 else
 (gIn x6 16
 (bd1 (f_Ws_lengthOf (v_world_learner_table_suffixes_words x6.toNatClampNeg)) (fun r =>
 (bnd (((31 : Int64) * x4) + r.toInt64) (fun x4_1 =>
 (gIn x6 16
 (bd1 (f_TL_mixLetters x4_1 (v_world_learner_table_suffixes_words x6.toNatClampNeg)) (fun r_1 =>
 (bnd (x6 + 1) (fun x6_1 =>
 (rec r_1 x6_1))))))))))))
def f_TL_mixTable_a (x1 : Int64) (v_world_teacher_machine_letters : Int32) (v_world_learner_asked_size : Int32) (v_world_learner_asked_entries : (Nat → Int64)) (v_world_learner_table_letters : Int32) (v_world_learner_table_prefixes_size : Int32) (v_world_learner_table_prefixes_words : (Nat → Int64)) (v_world_learner_table_suffixes_size : Int32) (v_world_learner_table_suffixes_words : (Nat → Int64)) : Option (Int64) :=
 (itr (fun _ _ => none) (f_TL_mixTable_a_L6 v_world_teacher_machine_letters v_world_learner_asked_size v_world_learner_asked_entries v_world_learner_table_prefixes_size v_world_learner_table_prefixes_words v_world_learner_table_suffixes_size v_world_learner_table_suffixes_words (fun x4 x6 =>
 (itr (fun _ _ => none) (f_TL_mixTable_a_L78 v_world_teacher_machine_letters v_world_learner_asked_size v_world_learner_asked_entries v_world_learner_table_letters v_world_learner_table_prefixes_size v_world_learner_table_prefixes_words v_world_learner_table_suffixes_size v_world_learner_table_suffixes_words (fun x4_1 x6_1 =>
 (itr (fun _ _ => none) (f_TL_mixTable_a_L129 v_world_learner_table_suffixes_size v_world_learner_table_suffixes_words (fun x4_2 x6_2 =>
 (some x4_2))) FU x4_1 (0 : Int32)))) FU x4 (0 : Int32)))) FU x1 (0 : Int32))
abbrev ws_TL_digest (cI cJ cZ : ClassId) (q_this q_world q_slots q_text q_search q_world_teacher q_world_learner q_world_teacher_machine q_world_teacher_lies q_world_teacher_machine_moves q_world_teacher_machine_finals q_world_learner_asked q_world_learner_table q_world_learner_hypothesis q_world_learner_representatives q_world_learner_asked_entries q_world_learner_table_prefixes q_world_learner_table_suffixes q_world_learner_table_known q_world_learner_table_bits q_world_learner_table_prefixes_words q_world_learner_table_suffixes_words q_world_learner_hypothesis_moves q_world_learner_hypothesis_finals q_search_seen q_search_queue q_search_origin q_search_arrival q_search_letters : Nat) (v_textLength : Int32) (v_world_teacher_lieCount : Int32) (v_world_teacher_machine_size : Int32) (v_world_teacher_machine_letters : Int32) (v_world_teacher_machine_moves : (Nat → Int32)) (v_world_teacher_machine_finals : (Nat → Int32)) (v_world_learner_mode : Int32) (v_world_learner_budget : Int32) (v_world_learner_formed : Int32) (v_world_learner_counterexample : Int64) (v_world_learner_corrections : Int32) (v_world_learner_deceived : Int32) (v_world_learner_asked_size : Int32) (v_world_learner_asked_entries : (Nat → Int64)) (v_world_learner_table_letters : Int32) (v_world_learner_table_prefixes_size : Int32) (v_world_learner_table_prefixes_longest : Int32) (v_world_learner_table_prefixes_words : (Nat → Int64)) (v_world_learner_table_suffixes_size : Int32) (v_world_learner_table_suffixes_longest : Int32) (v_world_learner_table_suffixes_words : (Nat → Int64)) (v_world_learner_hypothesis_size : Int32) (v_world_learner_hypothesis_letters : Int32) (v_world_learner_hypothesis_moves : (Nat → Int32)) (v_world_learner_hypothesis_finals : (Nat → Int32)) (v_text : (Nat → Int32)) (v_search_length : Int32) (v_search_queued : Int32) (v_search_seen : (Nat → Int32)) (v_search_queue : (Nat → Int32)) (v_search_origin : (Nat → Int32)) (v_search_arrival : (Nat → Int32)) (v_search_letters : (Nat → Int32)) : va_W := [(q_this, .inr (8, [.ref q_world, .ref q_slots, .ref q_text, .int v_textLength, .ref q_search])), (q_world, .inr (7, [.ref q_world_teacher, .ref q_world_learner])), (q_world_teacher, .inr (5, [.ref q_world_teacher_machine, .ref q_world_teacher_lies, .int v_world_teacher_lieCount])), (q_world_teacher_machine, .inr (0, [.ref q_world_teacher_machine_moves, .ref q_world_teacher_machine_finals, .int v_world_teacher_machine_size, .int v_world_teacher_machine_letters])), (q_world_teacher_machine_moves, .inl (cI, 24, .inl v_world_teacher_machine_moves)), (q_world_teacher_machine_finals, .inl (cI, 8, .inl v_world_teacher_machine_finals)), (q_world_learner, .inr (1, [.ref q_world_learner_asked, .ref q_world_learner_table, .ref q_world_learner_hypothesis, .ref q_world_learner_representatives, .int v_world_learner_mode, .int v_world_learner_budget, .int v_world_learner_formed, .long v_world_learner_counterexample, .int v_world_learner_corrections, .int v_world_learner_deceived])), (q_world_learner_asked, .inr (2, [.ref q_world_learner_asked_entries, .int v_world_learner_asked_size])), (q_world_learner_asked_entries, .inl (cJ, 300, .inr (.inl v_world_learner_asked_entries))), (q_world_learner_table, .inr (4, [.ref q_world_learner_table_prefixes, .ref q_world_learner_table_suffixes, .ref q_world_learner_table_known, .ref q_world_learner_table_bits, .int v_world_learner_table_letters])), (q_world_learner_table_prefixes, .inr (6, [.ref q_world_learner_table_prefixes_words, .int v_world_learner_table_prefixes_size, .int v_world_learner_table_prefixes_longest])), (q_world_learner_table_prefixes_words, .inl (cJ, 40, .inr (.inl v_world_learner_table_prefixes_words))), (q_world_learner_table_suffixes, .inr (6, [.ref q_world_learner_table_suffixes_words, .int v_world_learner_table_suffixes_size, .int v_world_learner_table_suffixes_longest])), (q_world_learner_table_suffixes_words, .inl (cJ, 16, .inr (.inl v_world_learner_table_suffixes_words))), (q_world_learner_hypothesis, .inr (0, [.ref q_world_learner_hypothesis_moves, .ref q_world_learner_hypothesis_finals, .int v_world_learner_hypothesis_size, .int v_world_learner_hypothesis_letters])), (q_world_learner_hypothesis_moves, .inl (cI, 120, .inl v_world_learner_hypothesis_moves)), (q_world_learner_hypothesis_finals, .inl (cI, 40, .inl v_world_learner_hypothesis_finals)), (q_text, .inl (cI, 16, .inl v_text)), (q_search, .inr (3, [.ref q_search_seen, .ref q_search_queue, .ref q_search_origin, .ref q_search_arrival, .ref q_search_letters, .int v_search_length, .int v_search_queued])), (q_search_seen, .inl (cI, 320, .inl v_search_seen)), (q_search_queue, .inl (cI, 320, .inl v_search_queue)), (q_search_origin, .inl (cI, 320, .inl v_search_origin)), (q_search_arrival, .inl (cI, 320, .inl v_search_arrival)), (q_search_letters, .inl (cI, 320, .inl v_search_letters))]
abbrev rm_TL_digest : Room := { frames := 6, cells := 0, slots := 0, locals := 152 }
def f_TL_digest_L15 (v_textLength : Int32) (v_world_teacher_lieCount : Int32) (v_world_teacher_machine_size : Int32) (v_world_teacher_machine_letters : Int32) (v_world_teacher_machine_finals : (Nat → Int32)) (v_world_learner_mode : Int32) (v_world_learner_budget : Int32) (v_world_learner_corrections : Int32) (v_world_learner_deceived : Int32) (v_world_learner_asked_size : Int32) (v_world_learner_table_prefixes_size : Int32) (v_world_learner_table_suffixes_size : Int32) (v_world_learner_hypothesis_size : Int32) (K rec : Int64 → Int32 → Option (Int64 × (Nat → Int32) × (Nat → Int32) × (Nat → Int32) × (Nat → Int32) × (Nat → Int32) × Int32 × Int32)) (x2 : Int64) (x4 : Int32) : Option (Int64 × (Nat → Int32) × (Nat → Int32) × (Nat → Int32) × (Nat → Int32) × (Nat → Int32) × Int32 × Int32) :=
 (if (12 : Int32) < x4 then
 (K x2 x4)
 else
 (bd1 (f_TL_count x4 v_textLength v_world_teacher_lieCount v_world_teacher_machine_size v_world_teacher_machine_letters v_world_teacher_machine_finals v_world_learner_mode v_world_learner_budget v_world_learner_corrections v_world_learner_deceived v_world_learner_asked_size v_world_learner_table_prefixes_size v_world_learner_table_suffixes_size v_world_learner_hypothesis_size) (fun r =>
 (bnd (((31 : Int64) * x2) + r.toInt64) (fun x2_1 =>
 (bnd (x4 + 1) (fun x4_1 =>
 (rec x2_1 x4_1))))))))
def f_TL_digest_L111 (v_textLength : Int32) (v_text : (Nat → Int32)) (K rec : Int64 → Int32 → Option (Int64 × (Nat → Int32) × (Nat → Int32) × (Nat → Int32) × (Nat → Int32) × (Nat → Int32) × Int32 × Int32)) (x2 : Int64) (x4 : Int32) : Option (Int64 × (Nat → Int32) × (Nat → Int32) × (Nat → Int32) × (Nat → Int32) × (Nat → Int32) × Int32 × Int32) :=
 (if v_textLength ≤ x4 then
 (K x2 x4)
 else
 (gIn x4 16
 (bnd (((31 : Int64) * x2) + (v_text x4.toNatClampNeg).toInt64) (fun x2_1 =>
 (bnd (x4 + 1) (fun x4_1 =>
 (rec x2_1 x4_1)))))))
def f_TL_digest_J108 (x2 : Int64) (v_textLength : Int32) (v_text : (Nat → Int32)) (v_search_length : Int32) (v_search_queued : Int32) (v_search_seen : (Nat → Int32)) (v_search_queue : (Nat → Int32)) (v_search_origin : (Nat → Int32)) (v_search_arrival : (Nat → Int32)) (v_search_letters : (Nat → Int32)) : Option (Int64 × (Nat → Int32) × (Nat → Int32) × (Nat → Int32) × (Nat → Int32) × (Nat → Int32) × Int32 × Int32) :=
 (itr (fun _ _ => none) (f_TL_digest_L111 v_textLength v_text (fun x2_1 x4 =>
 (some (x2_1, v_search_seen, v_search_queue, v_search_origin, v_search_arrival, v_search_letters, v_search_length, v_search_queued)))) FU x2 (0 : Int32))
def f_TL_digest (v_textLength : Int32) (v_world_teacher_lieCount : Int32) (v_world_teacher_machine_size : Int32) (v_world_teacher_machine_letters : Int32) (v_world_teacher_machine_moves : (Nat → Int32)) (v_world_teacher_machine_finals : (Nat → Int32)) (v_world_learner_mode : Int32) (v_world_learner_budget : Int32) (v_world_learner_counterexample : Int64) (v_world_learner_corrections : Int32) (v_world_learner_deceived : Int32) (v_world_learner_asked_size : Int32) (v_world_learner_asked_entries : (Nat → Int64)) (v_world_learner_table_letters : Int32) (v_world_learner_table_prefixes_size : Int32) (v_world_learner_table_prefixes_words : (Nat → Int64)) (v_world_learner_table_suffixes_size : Int32) (v_world_learner_table_suffixes_words : (Nat → Int64)) (v_world_learner_hypothesis_size : Int32) (v_world_learner_hypothesis_letters : Int32) (v_world_learner_hypothesis_moves : (Nat → Int32)) (v_world_learner_hypothesis_finals : (Nat → Int32)) (v_text : (Nat → Int32)) (v_search_length : Int32) (v_search_queued : Int32) (v_search_seen : (Nat → Int32)) (v_search_queue : (Nat → Int32)) (v_search_origin : (Nat → Int32)) (v_search_arrival : (Nat → Int32)) (v_search_letters : (Nat → Int32)) : Option (Int64 × (Nat → Int32) × (Nat → Int32) × (Nat → Int32) × (Nat → Int32) × (Nat → Int32) × Int32 × Int32) :=
 (itr (fun _ _ => none) (f_TL_digest_L15 v_textLength v_world_teacher_lieCount v_world_teacher_machine_size v_world_teacher_machine_letters v_world_teacher_machine_finals v_world_learner_mode v_world_learner_budget v_world_learner_corrections v_world_learner_deceived v_world_learner_asked_size v_world_learner_table_prefixes_size v_world_learner_table_suffixes_size v_world_learner_hypothesis_size (fun x2 x4 =>
 (bd1 (f_TL_mixAutomaton 24 8 x2 v_world_teacher_machine_size v_world_teacher_machine_letters v_world_teacher_machine_moves v_world_teacher_machine_finals) (fun r =>
 (bd8 (f_TL_leastStates v_world_teacher_machine_size v_world_teacher_machine_letters v_world_teacher_machine_moves v_world_teacher_machine_finals v_search_length v_search_queued v_search_seen v_search_queue v_search_origin v_search_arrival v_search_letters) (fun r_1 v_search_seen_1 v_search_queue_1 v_search_origin_1 v_search_arrival_1 v_search_letters_1 v_search_length_1 v_search_queued_1 =>
 (bnd (((31 : Int64) * r) + r_1.toInt64) (fun x2_1 =>
 (bd1 (f_TL_mixTable_a x2_1 v_world_teacher_machine_letters v_world_learner_asked_size v_world_learner_asked_entries v_world_learner_table_letters v_world_learner_table_prefixes_size v_world_learner_table_prefixes_words v_world_learner_table_suffixes_size v_world_learner_table_suffixes_words) (fun r_2 =>
 (bd1 (f_TL_mixAutomaton 120 40 r_2 v_world_learner_hypothesis_size v_world_learner_hypothesis_letters v_world_learner_hypothesis_moves v_world_learner_hypothesis_finals) (fun r_3 =>
 (if v_world_learner_counterexample = (-1 : Int64) then
 (f_TL_digest_J108 r_3 v_textLength v_text v_search_length_1 v_search_queued_1 v_search_seen_1 v_search_queue_1 v_search_origin_1 v_search_arrival_1 v_search_letters_1)
 else
 (bd1 (f_TL_mixLetters r_3 v_world_learner_counterexample) (fun r_4 =>
 (f_TL_digest_J108 r_4 v_textLength v_text v_search_length_1 v_search_queued_1 v_search_seen_1 v_search_queue_1 v_search_origin_1 v_search_arrival_1 v_search_letters_1)))))))))))))))) FU (59 : Int64) (0 : Int32))
abbrev ws_Mo_begins (cI cJ cZ : ClassId) (q_this q_m q_saved q_w q_savedWords q_isSaved q_text q_far q_queue q_parent q_by q_seen q_path q_row q_more q_stateOf : Nat) (v_textLength : Int32) (v_steps : Int32) (v_missing : Int64) (v_mores : Int32) (v_hash : Int64) (v_m : (Nat → Int32)) (v_w : (Nat → Int64)) : va_W := [(q_this, .inr (9, [.ref q_m, .ref q_saved, .ref q_w, .ref q_savedWords, .ref q_isSaved, .ref q_text, .int v_textLength, .ref q_far, .ref q_queue, .ref q_parent, .ref q_by, .ref q_seen, .ref q_path, .int v_steps, .ref q_row, .long v_missing, .ref q_more, .int v_mores, .ref q_stateOf, .long v_hash])), (q_m, .inl (cI, 561, .inl v_m)), (q_w, .inl (cJ, 360, .inr (.inl v_w)))]
abbrev rm_Mo_begins : Room := { frames := 0, cells := 0, slots := 0, locals := 0 }
def f_Mo_begins (v_m : (Nat → Int32)) (v_w : (Nat → Int64)) : Option ((Nat → Int32) × (Nat → Int64)) :=
 (bnd (upd v_m 37 (0 : Int32)) (fun v_m_1 =>
 (bnd (upd v_m_1 38 (1 : Int32)) (fun v_m_2 =>
 (bnd (upd v_m_2 39 (1 : Int32)) (fun v_m_3 =>
 (bnd (upd v_m_3 40 (0 : Int32)) (fun v_m_4 =>
 (bnd (upd v_m_4 41 (0 : Int32)) (fun v_m_5 =>
 (bnd (upd v_m_5 42 (0 : Int32)) (fun v_m_6 =>
 (bnd (upd v_m_6 43 (0 : Int32)) (fun v_m_7 =>
 (bnd (upd v_m_7 44 (-1 : Int32)) (fun v_m_8 =>
 (bnd (vp_updL v_w 304 (0 : Int64)) (fun v_w_1 =>
 (bnd (vp_updL v_w_1 344 (0 : Int64)) (fun v_w_2 =>
 (some (v_m_8, v_w_2))))))))))))))))))))))
abbrev ws_Mo_in (cI cJ cZ : ClassId) : va_W := []
abbrev rm_Mo_in : Room := { frames := 0, cells := 0, slots := 0, locals := 0 }
def f_Mo_in (x0 : Int32) (x1 : Int32) (x2 : Int32) : Option (Int32) :=
 (if x0 < x1 then
 (some (0 : Int32))
 else
 (if x2 < x0 then
 (some (0 : Int32))
 else
 (some (1 : Int32))))
abbrev ws_Mo_lengthOf (cI cJ cZ : ClassId) : va_W := []
abbrev rm_Mo_lengthOf : Room := { frames := 0, cells := 0, slots := 0, locals := 0 }
def f_Mo_lengthOf_L4 (K rec : Int32 → Int64 → Option (Int32)) (x2 : Int32) (x3 : Int64) : Option (Int32) :=
 (if (0 : Int64) < x3 then
 (bnd (x2 + 1) (fun x2_1 =>
 (bnd (x3 >>> (2 : Int64)) (fun x3_1 =>
 (rec x2_1 x3_1)))))
 else
 (K x2 x3))
def f_Mo_lengthOf (x0 : Int64) : Option (Int32) :=
 (itr (fun _ _ => none) (f_Mo_lengthOf_L4 (fun x2 x3 =>
 (some x2))) FU (0 : Int32) x0)
abbrev ws_Mo_longer (cI cJ cZ : ClassId) : va_W := []
abbrev rm_Mo_longer : Room := { frames := 0, cells := 0, slots := 0, locals := 0 }
def f_Mo_longer (x0 : Int64) (x2 : Int32) : Option (Int64) :=
 (some ((((4 : Int64) * x0) + x2.toInt64) + (1 : Int64)))
abbrev ws_Mo_letterOf (cI cJ cZ : ClassId) : va_W := []
abbrev rm_Mo_letterOf : Room := { frames := 1, cells := 0, slots := 0, locals := 24 }
def f_Mo_letterOf (x0 : Int64) (x2 : Int32) : Option (Int32) :=
 (bd1 (f_Mo_lengthOf x0) (fun r =>
 (some (((x0 >>> (((2 : Int32) * ((r - (1 : Int32)) - x2)).toInt64 &&& 63)) &&& (3 : Int64)).toInt32 - (1 : Int32)))))
abbrev ws_Mo_joined (cI cJ cZ : ClassId) : va_W := []
abbrev rm_Mo_joined : Room := { frames := 1, cells := 0, slots := 0, locals := 24 }
def f_Mo_joined (x0 : Int64) (x2 : Int64) : Option (Int64) :=
 (bd1 (f_Mo_lengthOf x2) (fun r =>
 (some ((x0 <<< (((2 : Int32) * r).toInt64 &&& 63)) ||| x2))))
abbrev ws_Mo_letterOrLength (cI cJ cZ : ClassId) (q_this : Nat) : va_W := []
abbrev rm_Mo_letterOrLength : Room := { frames := 2, cells := 0, slots := 0, locals := 46 }
def f_Mo_letterOrLength (x1 : Int64) (x3 : Int32) : Option (Int32) :=
 (if x3 = (-1 : Int32) then
 (bd1 (f_Mo_lengthOf x1) (fun r_2 =>
 (some r_2)))
 else
 (bd1 (f_Mo_lengthOf x1) (fun r =>
 (if r ≤ x3 then
 (some (-1 : Int32))
 else
 (bd1 (f_Mo_letterOf x1 x3) (fun r_1 =>
 (some r_1)))))))
abbrev ws_Mo_told (cI cJ cZ : ClassId) (q_this q_m q_saved q_w q_savedWords q_isSaved q_text q_far q_queue q_parent q_by q_seen q_path q_row q_more q_stateOf : Nat) (v_textLength : Int32) (v_steps : Int32) (v_missing : Int64) (v_mores : Int32) (v_hash : Int64) (v_m : (Nat → Int32)) (v_text : (Nat → Int32)) : va_W := [(q_this, .inr (9, [.ref q_m, .ref q_saved, .ref q_w, .ref q_savedWords, .ref q_isSaved, .ref q_text, .int v_textLength, .ref q_far, .ref q_queue, .ref q_parent, .ref q_by, .ref q_seen, .ref q_path, .int v_steps, .ref q_row, .long v_missing, .ref q_more, .int v_mores, .ref q_stateOf, .long v_hash])), (q_m, .inl (cI, 561, .inl v_m)), (q_text, .inl (cI, 16, .inl v_text))]
abbrev rm_Mo_told : Room := { frames := 1, cells := 0, slots := 0, locals := 22 }
def f_Mo_told_L4 (v_textLength : Int32) (v_m : (Nat → Int32)) (v_text : (Nat → Int32)) (K rec : Int64 → Int32 → Option (Int64)) (x1 : Int64) (x3 : Int32) : Option (Int64) :=
 (if v_textLength ≤ x3 then
 (K x1 x3)
 else
 (gIn x3 16
 (bd1 (f_Mo_in (v_text x3.toNatClampNeg) (97 : Int32) (((97 : Int32) + (v_m 1)) - (1 : Int32))) (fun r =>
 (if r = 0 then
 (some (-1 : Int64))
 else
 (gIn x3 16
 (bd1 (f_Mo_longer x1 ((v_text x3.toNatClampNeg) - (97 : Int32))) (fun r_1 =>
 (bnd (x3 + 1) (fun x3_1 =>
 (rec r_1 x3_1)))))))))))
def f_Mo_told (v_textLength : Int32) (v_m : (Nat → Int32)) (v_text : (Nat → Int32)) : Option (Int64) :=
 (itr (fun _ _ => none) (f_Mo_told_L4 v_textLength v_m v_text (fun x1 x3 =>
 (some x1))) FU (0 : Int64) (0 : Int32))
abbrev ws_Mo_isState (cI cJ cZ : ClassId) (q_this q_m q_saved q_w q_savedWords q_isSaved q_text q_far q_queue q_parent q_by q_seen q_path q_row q_more q_stateOf : Nat) (v_textLength : Int32) (v_steps : Int32) (v_missing : Int64) (v_mores : Int32) (v_hash : Int64) (v_m : (Nat → Int32)) : va_W := [(q_this, .inr (9, [.ref q_m, .ref q_saved, .ref q_w, .ref q_savedWords, .ref q_isSaved, .ref q_text, .int v_textLength, .ref q_far, .ref q_queue, .ref q_parent, .ref q_by, .ref q_seen, .ref q_path, .int v_steps, .ref q_row, .long v_missing, .ref q_more, .int v_mores, .ref q_stateOf, .long v_hash])), (q_m, .inl (cI, 561, .inl v_m))]
abbrev rm_Mo_isState : Room := { frames := 1, cells := 0, slots := 0, locals := 22 }
def f_Mo_isState (x1 : Int32) (v_m : (Nat → Int32)) : Option (Int32) :=
 (bd1 (f_Mo_in x1 (0 : Int32) ((v_m 0) - (1 : Int32))) (fun r =>
 (gB r (some r))))
abbrev ws_Mo_isLetter (cI cJ cZ : ClassId) (q_this q_m q_saved q_w q_savedWords q_isSaved q_text q_far q_queue q_parent q_by q_seen q_path q_row q_more q_stateOf : Nat) (v_textLength : Int32) (v_steps : Int32) (v_missing : Int64) (v_mores : Int32) (v_hash : Int64) (v_m : (Nat → Int32)) : va_W := [(q_this, .inr (9, [.ref q_m, .ref q_saved, .ref q_w, .ref q_savedWords, .ref q_isSaved, .ref q_text, .int v_textLength, .ref q_far, .ref q_queue, .ref q_parent, .ref q_by, .ref q_seen, .ref q_path, .int v_steps, .ref q_row, .long v_missing, .ref q_more, .int v_mores, .ref q_stateOf, .long v_hash])), (q_m, .inl (cI, 561, .inl v_m))]
abbrev rm_Mo_isLetter : Room := { frames := 1, cells := 0, slots := 0, locals := 22 }
def f_Mo_isLetter (x1 : Int32) (v_m : (Nat → Int32)) : Option (Int32) :=
 (bd1 (f_Mo_in x1 (0 : Int32) ((v_m 1) - (1 : Int32))) (fun r =>
 (gB r (some r))))
abbrev ws_Mo_reset (cI cJ cZ : ClassId) (q_this q_m q_saved q_w q_savedWords q_isSaved q_text q_far q_queue q_parent q_by q_seen q_path q_row q_more q_stateOf : Nat) (v_textLength : Int32) (v_steps : Int32) (v_missing : Int64) (v_mores : Int32) (v_hash : Int64) (v_m : (Nat → Int32)) (v_w : (Nat → Int64)) : va_W := [(q_this, .inr (9, [.ref q_m, .ref q_saved, .ref q_w, .ref q_savedWords, .ref q_isSaved, .ref q_text, .int v_textLength, .ref q_far, .ref q_queue, .ref q_parent, .ref q_by, .ref q_seen, .ref q_path, .int v_steps, .ref q_row, .long v_missing, .ref q_more, .int v_mores, .ref q_stateOf, .long v_hash])), (q_m, .inl (cI, 561, .inl v_m)), (q_w, .inl (cJ, 360, .inr (.inl v_w)))]
abbrev rm_Mo_reset : Room := { frames := 1, cells := 0, slots := 0, locals := 22 }
def f_Mo_reset_L46 (K rec : Int32 → (Nat → Int32) → Option (Int32 × (Nat → Int32) × (Nat → Int64))) (x3 : Int32) (v_m : (Nat → Int32)) : Option (Int32 × (Nat → Int32) × (Nat → Int64)) :=
 (if (34 : Int32) ≤ x3 then
 (K x3 v_m)
 else
 (gIn x3 561
 (bnd (upd v_m x3.toNatClampNeg (0 : Int32)) (fun v_m_1 =>
 (bnd (x3 + 1) (fun x3_1 =>
 (rec x3_1 v_m_1)))))))
def f_Mo_reset (x1 : Int32) (x2 : Int32) (v_m : (Nat → Int32)) (v_w : (Nat → Int64)) : Option (Int32 × (Nat → Int32) × (Nat → Int64)) :=
 (bd1 (f_Mo_in x1 (1 : Int32) (8 : Int32)) (fun r =>
 (if r = 0 then
 (some ((-2 : Int32), v_m, v_w))
 else
 (bd1 (f_Mo_in x2 (1 : Int32) (3 : Int32)) (fun r_1 =>
 (if r_1 = 0 then
 (some ((-2 : Int32), v_m, v_w))
 else
 (bnd (upd v_m 0 x1) (fun v_m_1 =>
 (bnd (upd v_m_1 1 x2) (fun v_m_2 =>
 (bnd (upd v_m_2 34 (0 : Int32)) (fun v_m_3 =>
 (itr (fun _ _ => none) (f_Mo_reset_L46 (fun x3 v_m_4 =>
 (bd2 (f_Mo_begins v_m_4 v_w) (fun v_m_5 v_w_1 =>
 (some (x1, v_m_5, v_w_1)))))) FU (2 : Int32) v_m_3)))))))))))))
abbrev ws_Mo_setMove (cI cJ cZ : ClassId) (q_this q_m q_saved q_w q_savedWords q_isSaved q_text q_far q_queue q_parent q_by q_seen q_path q_row q_more q_stateOf : Nat) (v_textLength : Int32) (v_steps : Int32) (v_missing : Int64) (v_mores : Int32) (v_hash : Int64) (v_m : (Nat → Int32)) (v_w : (Nat → Int64)) : va_W := [(q_this, .inr (9, [.ref q_m, .ref q_saved, .ref q_w, .ref q_savedWords, .ref q_isSaved, .ref q_text, .int v_textLength, .ref q_far, .ref q_queue, .ref q_parent, .ref q_by, .ref q_seen, .ref q_path, .int v_steps, .ref q_row, .long v_missing, .ref q_more, .int v_mores, .ref q_stateOf, .long v_hash])), (q_m, .inl (cI, 561, .inl v_m)), (q_w, .inl (cJ, 360, .inr (.inl v_w)))]
abbrev rm_Mo_setMove : Room := { frames := 2, cells := 0, slots := 0, locals := 43 }
def f_Mo_setMove (x1 : Int32) (x2 : Int32) (x3 : Int32) (v_m : (Nat → Int32)) (v_w : (Nat → Int64)) : Option (Int32 × (Nat → Int32) × (Nat → Int64)) :=
 (bd1 (f_Mo_isState x1 v_m) (fun r =>
 (if r = 0 then
 (some ((-2 : Int32), v_m, v_w))
 else
 (bd1 (f_Mo_isLetter x2 v_m) (fun r_1 =>
 (if r_1 = 0 then
 (some ((-2 : Int32), v_m, v_w))
 else
 (bd1 (f_Mo_isState x3 v_m) (fun r_2 =>
 (if r_2 = 0 then
 (some ((-2 : Int32), v_m, v_w))
 else
 (gIn (((2 : Int32) + ((3 : Int32) * x1)) + x2) 561
 (bnd (v_m (((2 : Int32) + ((3 : Int32) * x1)) + x2).toNatClampNeg) (fun x4 =>
 (gIn (((2 : Int32) + ((3 : Int32) * x1)) + x2) 561
 (bnd (upd v_m (((2 : Int32) + ((3 : Int32) * x1)) + x2).toNatClampNeg x3) (fun v_m_1 =>
 (bd2 (f_Mo_begins v_m_1 v_w) (fun v_m_2 v_w_1 =>
 (some (x4, v_m_2, v_w_1)))))))))))))))))))
abbrev ws_Mo_finals (cI cJ cZ : ClassId) (q_this q_m q_saved q_w q_savedWords q_isSaved q_text q_far q_queue q_parent q_by q_seen q_path q_row q_more q_stateOf : Nat) (v_textLength : Int32) (v_steps : Int32) (v_missing : Int64) (v_mores : Int32) (v_hash : Int64) (v_m : (Nat → Int32)) : va_W := [(q_this, .inr (9, [.ref q_m, .ref q_saved, .ref q_w, .ref q_savedWords, .ref q_isSaved, .ref q_text, .int v_textLength, .ref q_far, .ref q_queue, .ref q_parent, .ref q_by, .ref q_seen, .ref q_path, .int v_steps, .ref q_row, .long v_missing, .ref q_more, .int v_mores, .ref q_stateOf, .long v_hash])), (q_m, .inl (cI, 561, .inl v_m))]
abbrev rm_Mo_finals : Room := { frames := 0, cells := 0, slots := 0, locals := 0 }
def f_Mo_finals_L4 (v_m : (Nat → Int32)) (K rec : Int32 → Int32 → Option (Int32)) (x1 : Int32) (x2 : Int32) : Option (Int32) :=
 (if (v_m 0) ≤ x2 then
 (K x1 x2)
 else
 (gIn ((26 : Int32) + x2) 561
 (bnd (x1 + (v_m ((26 : Int32) + x2).toNatClampNeg)) (fun x1_1 =>
 (bnd (x2 + 1) (fun x2_1 =>
 (rec x1_1 x2_1)))))))
def f_Mo_finals (v_m : (Nat → Int32)) : Option (Int32) :=
 (itr (fun _ _ => none) (f_Mo_finals_L4 v_m (fun x1 x2 =>
 (some x1))) FU (0 : Int32) (0 : Int32))
abbrev ws_Mo_setFinal (cI cJ cZ : ClassId) (q_this q_m q_saved q_w q_savedWords q_isSaved q_text q_far q_queue q_parent q_by q_seen q_path q_row q_more q_stateOf : Nat) (v_textLength : Int32) (v_steps : Int32) (v_missing : Int64) (v_mores : Int32) (v_hash : Int64) (v_m : (Nat → Int32)) (v_w : (Nat → Int64)) : va_W := [(q_this, .inr (9, [.ref q_m, .ref q_saved, .ref q_w, .ref q_savedWords, .ref q_isSaved, .ref q_text, .int v_textLength, .ref q_far, .ref q_queue, .ref q_parent, .ref q_by, .ref q_seen, .ref q_path, .int v_steps, .ref q_row, .long v_missing, .ref q_more, .int v_mores, .ref q_stateOf, .long v_hash])), (q_m, .inl (cI, 561, .inl v_m)), (q_w, .inl (cJ, 360, .inr (.inl v_w)))]
abbrev rm_Mo_setFinal : Room := { frames := 2, cells := 0, slots := 0, locals := 43 }
def f_Mo_setFinal (x1 : Int32) (x2 : Int32) (v_m : (Nat → Int32)) (v_w : (Nat → Int64)) : Option (Int32 × (Nat → Int32) × (Nat → Int64)) :=
 (bd1 (f_Mo_isState x1 v_m) (fun r =>
 (if r = 0 then
 (some ((-2 : Int32), v_m, v_w))
 else
 (gIn ((26 : Int32) + x1) 561
 (bnd (if x2 = 0 then (0 : Int32) else (1 : Int32)) (fun t =>
 (if (v_m ((26 : Int32) + x1).toNatClampNeg) = t then
 (some ((-3 : Int32), v_m, v_w))
 else
 (bnd (if x2 = 0 then (0 : Int32) else (1 : Int32)) (fun t_1 =>
 (gIn ((26 : Int32) + x1) 561
 (bnd (upd v_m ((26 : Int32) + x1).toNatClampNeg t_1) (fun v_m_1 =>
 (bd2 (f_Mo_begins v_m_1 v_w) (fun v_m_2 v_w_1 =>
 (bd1 (f_Mo_finals v_m_2) (fun r_1 =>
 (some (r_1, v_m_2, v_w_1))))))))))))))))))
abbrev ws_Mo_lieOf (cI cJ cZ : ClassId) (q_this q_m q_saved q_w q_savedWords q_isSaved q_text q_far q_queue q_parent q_by q_seen q_path q_row q_more q_stateOf : Nat) (v_textLength : Int32) (v_steps : Int32) (v_missing : Int64) (v_mores : Int32) (v_hash : Int64) (v_m : (Nat → Int32)) (v_w : (Nat → Int64)) : va_W := [(q_this, .inr (9, [.ref q_m, .ref q_saved, .ref q_w, .ref q_savedWords, .ref q_isSaved, .ref q_text, .int v_textLength, .ref q_far, .ref q_queue, .ref q_parent, .ref q_by, .ref q_seen, .ref q_path, .int v_steps, .ref q_row, .long v_missing, .ref q_more, .int v_mores, .ref q_stateOf, .long v_hash])), (q_m, .inl (cI, 561, .inl v_m)), (q_w, .inl (cJ, 360, .inr (.inl v_w)))]
abbrev rm_Mo_lieOf : Room := { frames := 0, cells := 0, slots := 0, locals := 0 }
def f_Mo_lieOf_L2 (v_m : (Nat → Int32)) (v_w : (Nat → Int64)) (x1 : Int64) (K rec : Int32 → Option (Int32)) (x3 : Int32) : Option (Int32) :=
 (if (v_m 34) ≤ x3 then
 (K x3)
 else
 (gIn x3 360
 (if (v_w x3.toNatClampNeg) = x1 then
 (some x3)
 else
 (bnd (x3 + 1) (fun x3_1 =>
 (rec x3_1))))))
def f_Mo_lieOf (x1 : Int64) (v_m : (Nat → Int32)) (v_w : (Nat → Int64)) : Option (Int32) :=
 (itr (fun _ => none) (f_Mo_lieOf_L2 v_m v_w x1 (fun x3 =>
 (some (-1 : Int32)))) FU (0 : Int32))
abbrev ws_Mo_lie (cI cJ cZ : ClassId) (q_this q_m q_saved q_w q_savedWords q_isSaved q_text q_far q_queue q_parent q_by q_seen q_path q_row q_more q_stateOf : Nat) (v_textLength : Int32) (v_steps : Int32) (v_missing : Int64) (v_mores : Int32) (v_hash : Int64) (v_m : (Nat → Int32)) (v_w : (Nat → Int64)) (v_text : (Nat → Int32)) : va_W := [(q_this, .inr (9, [.ref q_m, .ref q_saved, .ref q_w, .ref q_savedWords, .ref q_isSaved, .ref q_text, .int v_textLength, .ref q_far, .ref q_queue, .ref q_parent, .ref q_by, .ref q_seen, .ref q_path, .int v_steps, .ref q_row, .long v_missing, .ref q_more, .int v_mores, .ref q_stateOf, .long v_hash])), (q_m, .inl (cI, 561, .inl v_m)), (q_w, .inl (cJ, 360, .inr (.inl v_w))), (q_text, .inl (cI, 16, .inl v_text))]
abbrev rm_Mo_lie : Room := { frames := 2, cells := 0, slots := 0, locals := 45 }
def f_Mo_lie_L85 (v_m : (Nat → Int32)) (K rec : Int32 → (Nat → Int64) → Option (Int32 × (Nat → Int32) × (Nat → Int64))) (x4 : Int32) (v_w : (Nat → Int64)) : Option (Int32 × (Nat → Int32) × (Nat → Int64)) :=
 (if (v_m 34) ≤ x4 then
 (K x4 v_w)
 else
 (gIn (x4 + (1 : Int32)) 360
 (gIn x4 360
 (bnd (vp_updL v_w x4.toNatClampNeg (v_w (x4 + (1 : Int32)).toNatClampNeg)) (fun v_w_1 =>
 (bnd (x4 + 1) (fun x4_1 =>
 (rec x4_1 v_w_1))))))))
def f_Mo_lie_J119 (v_m : (Nat → Int32)) (v_w : (Nat → Int64)) : Option (Int32 × (Nat → Int32) × (Nat → Int64)) :=
 (bd2 (f_Mo_begins v_m v_w) (fun v_m_1 v_w_1 =>
 (some ((v_m_1 34), v_m_1, v_w_1))))
def f_Mo_lie_J39 (x1 : Int64) (x3 : Int32) (v_m : (Nat → Int32)) (v_w : (Nat → Int64)) : Option (Int32 × (Nat → Int32) × (Nat → Int64)) :=
 (if x3 = (-1 : Int32) then
 (gIn (v_m 34) 360
 (bnd (vp_updL v_w (v_m 34).toNatClampNeg x1) (fun v_w_2 =>
 (bnd (upd v_m 34 ((v_m 34) + (1 : Int32))) (fun v_m_2 =>
 (f_Mo_lie_J119 v_m_2 v_w_2))))))
 else
 (bnd (upd v_m 34 ((v_m 34) - (1 : Int32))) (fun v_m_1 =>
 (itr (fun _ _ => none) (f_Mo_lie_L85 v_m_1 (fun x4 v_w_1 =>
 (f_Mo_lie_J119 v_m_1 v_w_1))) FU x3 v_w))))
def f_Mo_lie (v_textLength : Int32) (v_m : (Nat → Int32)) (v_w : (Nat → Int64)) (v_text : (Nat → Int32)) : Option (Int32 × (Nat → Int32) × (Nat → Int64)) :=
 (bd1 (f_Mo_told v_textLength v_m v_text) (fun r =>
 (if r < (0 : Int64) then
 (some ((-2 : Int32), v_m, v_w))
 else
 (bd1 (f_Mo_lieOf r v_m v_w) (fun r_1 =>
 (if r_1 = (-1 : Int32) then
 (if (v_m 34) = (4 : Int32) then
 (some ((-5 : Int32), v_m, v_w))
 else
 (f_Mo_lie_J39 r r_1 v_m v_w))
 else
 (f_Mo_lie_J39 r r_1 v_m v_w)))))))
abbrev ws_Mo_distances (cI cJ cZ : ClassId) (q_this q_m q_saved q_w q_savedWords q_isSaved q_text q_far q_queue q_parent q_by q_seen q_path q_row q_more q_stateOf : Nat) (v_textLength : Int32) (v_steps : Int32) (v_missing : Int64) (v_mores : Int32) (v_hash : Int64) (v_m : (Nat → Int32)) (v_far : (Nat → Int32)) : va_W := [(q_this, .inr (9, [.ref q_m, .ref q_saved, .ref q_w, .ref q_savedWords, .ref q_isSaved, .ref q_text, .int v_textLength, .ref q_far, .ref q_queue, .ref q_parent, .ref q_by, .ref q_seen, .ref q_path, .int v_steps, .ref q_row, .long v_missing, .ref q_more, .int v_mores, .ref q_stateOf, .long v_hash])), (q_m, .inl (cI, 561, .inl v_m)), (q_far, .inl (cI, 8, .inl v_far))]
abbrev rm_Mo_distances : Room := { frames := 0, cells := 0, slots := 0, locals := 0 }
def f_Mo_distances_L2 (K rec : Int32 → (Nat → Int32) → Option ((Nat → Int32))) (x1 : Int32) (v_far : (Nat → Int32)) : Option ((Nat → Int32)) :=
 (if (8 : Int32) ≤ x1 then
 (K x1 v_far)
 else
 (bnd (if x1 = 0 then (0 : Int32) else (-1 : Int32)) (fun t =>
 (gIn x1 8
 (bnd (upd v_far x1.toNatClampNeg t) (fun v_far_1 =>
 (bnd (x1 + 1) (fun x1_1 =>
 (rec x1_1 v_far_1)))))))))
def f_Mo_distances_J126 (rec : Int32 → (Nat → Int32) → Option ((Nat → Int32))) (x2 : Int32) (s1 : Int32) (s2 : Int32) (v_far : (Nat → Int32)) : Option ((Nat → Int32)) :=
 (gIn s1 8
 (bnd (upd v_far s1.toNatClampNeg s2) (fun v_far_1 =>
 (bnd (x2 + 1) (fun x2_1 =>
 (rec x2_1 v_far_1))))))
def f_Mo_distances_J119 (rec : Int32 → (Nat → Int32) → Option ((Nat → Int32))) (x2 : Int32) (x4 : Int32) (s1 : Int32) (v_far : (Nat → Int32)) : Option ((Nat → Int32)) :=
 (gIn x4 8
 (f_Mo_distances_J126 rec x2 s1 (v_far x4.toNatClampNeg) v_far))
def f_Mo_distances_L39 (v_m : (Nat → Int32)) (x1 : Int32) (K rec : Int32 → (Nat → Int32) → Option ((Nat → Int32))) (x2 : Int32) (v_far : (Nat → Int32)) : Option ((Nat → Int32)) :=
 (if ((v_m 0) * (v_m 1)) ≤ x2 then
 (K x2 v_far)
 else
 (gNz (v_m 1)
 (bnd (x2 / (v_m 1)) (fun x3 =>
 (gNz (v_m 1)
 (gIn (((2 : Int32) + ((3 : Int32) * x3)) + (x2 - x2 / (v_m 1) * (v_m 1))) 561
 (bnd (v_m (((2 : Int32) + ((3 : Int32) * x3)) + (x2 - x2 / (v_m 1) * (v_m 1))).toNatClampNeg) (fun x4 =>
 (gIn x3 8
 (if (v_far x3.toNatClampNeg) = x1 then
 (gIn x4 8
 (if (v_far x4.toNatClampNeg) = (-1 : Int32) then
 (f_Mo_distances_J126 rec x2 x4 (x1 + (1 : Int32)) v_far)
 else
 (f_Mo_distances_J119 rec x2 x4 x4 v_far)))
 else
 (f_Mo_distances_J119 rec x2 x4 x4 v_far)))))))))))
def f_Mo_distances_L31 (v_m : (Nat → Int32)) (K rec : Int32 → (Nat → Int32) → Option ((Nat → Int32))) (x1 : Int32) (v_far : (Nat → Int32)) : Option ((Nat → Int32)) :=
 (if (8 : Int32) ≤ x1 then
 (K x1 v_far)
 else
 (itr (fun _ _ => none) (f_Mo_distances_L39 v_m x1 (fun x2 v_far_1 =>
 (bnd (x1 + 1) (fun x1_1 =>
 (rec x1_1 v_far_1))))) FU (0 : Int32) v_far))
def f_Mo_distances (v_m : (Nat → Int32)) (v_far : (Nat → Int32)) : Option ((Nat → Int32)) :=
 (itr (fun _ _ => none) (f_Mo_distances_L2 (fun x1 v_far_1 =>
 (itr (fun _ _ => none) (f_Mo_distances_L31 v_m (fun x1_1 v_far_2 =>
 (some v_far_2))) FU (0 : Int32) v_far_1))) FU (0 : Int32) v_far)
abbrev ws_Mo_state (cI cJ cZ : ClassId) (q_this q_m q_saved q_w q_savedWords q_isSaved q_text q_far q_queue q_parent q_by q_seen q_path q_row q_more q_stateOf : Nat) (v_textLength : Int32) (v_steps : Int32) (v_missing : Int64) (v_mores : Int32) (v_hash : Int64) (v_m : (Nat → Int32)) (v_far : (Nat → Int32)) : va_W := [(q_this, .inr (9, [.ref q_m, .ref q_saved, .ref q_w, .ref q_savedWords, .ref q_isSaved, .ref q_text, .int v_textLength, .ref q_far, .ref q_queue, .ref q_parent, .ref q_by, .ref q_seen, .ref q_path, .int v_steps, .ref q_row, .long v_missing, .ref q_more, .int v_mores, .ref q_stateOf, .long v_hash])), (q_m, .inl (cI, 561, .inl v_m)), (q_far, .inl (cI, 8, .inl v_far))]
abbrev rm_Mo_state : Room := { frames := 2, cells := 0, slots := 0, locals := 43 }
def f_Mo_state_J33 (x1 : Int32) (x2 : Int32) (v_m : (Nat → Int32)) (v_far : (Nat → Int32)) : Option (Int32 × (Nat → Int32)) :=
 (bd1 (f_Mo_distances v_m v_far) (fun v_far_1 =>
 (if (3 : Int32) ≤ x2 then
 (if x2 = (3 : Int32) then
 (gIn ((26 : Int32) + x1) 561
 (some ((v_m ((26 : Int32) + x1).toNatClampNeg), v_far_1)))
 else
 (gIn x1 8
 (some ((v_far_1 x1.toNatClampNeg), v_far_1))))
 else
 (gIn (((2 : Int32) + ((3 : Int32) * x1)) + x2) 561
 (some ((v_m (((2 : Int32) + ((3 : Int32) * x1)) + x2).toNatClampNeg), v_far_1))))))
def f_Mo_state (x1 : Int32) (x2 : Int32) (v_m : (Nat → Int32)) (v_far : (Nat → Int32)) : Option (Int32 × (Nat → Int32)) :=
 (bd1 (f_Mo_isState x1 v_m) (fun r =>
 (if r = 0 then
 (some ((-2 : Int32), v_far))
 else
 (bd1 (f_Mo_in x2 (0 : Int32) (4 : Int32)) (fun r_1 =>
 (if r_1 = 0 then
 (some ((-2 : Int32), v_far))
 else
 (if (3 : Int32) ≤ x2 then
 (f_Mo_state_J33 x1 x2 v_m v_far)
 else
 (bd1 (f_Mo_isLetter x2 v_m) (fun r_2 =>
 (if r_2 = 0 then
 (some ((-2 : Int32), v_far))
 else
 (f_Mo_state_J33 x1 x2 v_m v_far)))))))))))
abbrev ws_Mo_goesBack (cI cJ cZ : ClassId) (q_this q_m q_saved q_w q_savedWords q_isSaved q_text q_far q_queue q_parent q_by q_seen q_path q_row q_more q_stateOf : Nat) (v_textLength : Int32) (v_steps : Int32) (v_missing : Int64) (v_mores : Int32) (v_hash : Int64) (v_parent : (Nat → Int32)) (v_by : (Nat → Int32)) (v_path : (Nat → Int32)) : va_W := [(q_this, .inr (9, [.ref q_m, .ref q_saved, .ref q_w, .ref q_savedWords, .ref q_isSaved, .ref q_text, .int v_textLength, .ref q_far, .ref q_queue, .ref q_parent, .ref q_by, .ref q_seen, .ref q_path, .int v_steps, .ref q_row, .long v_missing, .ref q_more, .int v_mores, .ref q_stateOf, .long v_hash])), (q_parent, .inl (cI, 320, .inl v_parent)), (q_by, .inl (cI, 320, .inl v_by)), (q_path, .inl (cI, 320, .inl v_path))]
abbrev rm_Mo_goesBack : Room := { frames := 0, cells := 0, slots := 0, locals := 0 }
def f_Mo_goesBack_L7 (v_parent : (Nat → Int32)) (K rec : Int32 → Int32 → Option (Int32 × (Nat → Int32) × Int32)) (x2 : Int32) (v_steps : Int32) : Option (Int32 × (Nat → Int32) × Int32) :=
 (gIn x2 320
 (if (v_parent x2.toNatClampNeg) = (-1 : Int32) then
 (K x2 v_steps)
 else
 (bnd (v_steps + (1 : Int32)) (fun v_steps_1 =>
 (gIn x2 320
 (bnd (v_parent x2.toNatClampNeg) (fun x2_1 =>
 (rec x2_1 v_steps_1))))))))
def f_Mo_goesBack_L44 (v_parent : (Nat → Int32)) (v_by : (Nat → Int32)) (K rec : Int32 → Int32 → (Nat → Int32) → Option (Int32 × (Nat → Int32) × Int32)) (x2 : Int32) (x3 : Int32) (v_path : (Nat → Int32)) : Option (Int32 × (Nat → Int32) × Int32) :=
 (gIn x3 320
 (if (v_parent x3.toNatClampNeg) = (-1 : Int32) then
 (K x2 x3 v_path)
 else
 (bnd (x2 + (-1)) (fun x2_1 =>
 (gIn x3 320
 (gIn x2_1 320
 (bnd (upd v_path x2_1.toNatClampNeg (v_by x3.toNatClampNeg)) (fun v_path_1 =>
 (gIn x3 320
 (bnd (v_parent x3.toNatClampNeg) (fun x3_1 =>
 (rec x2_1 x3_1 v_path_1))))))))))))
def f_Mo_goesBack (x1 : Int32) (v_parent : (Nat → Int32)) (v_by : (Nat → Int32)) (v_path : (Nat → Int32)) : Option (Int32 × (Nat → Int32) × Int32) :=
 (itr (fun _ _ => none) (f_Mo_goesBack_L7 v_parent (fun x2 v_steps_1 =>
 (itr (fun _ _ _ => none) (f_Mo_goesBack_L44 v_parent v_by (fun x2_1 x3 v_path_1 =>
 (some ((1 : Int32), v_path_1, v_steps_1)))) FU v_steps_1 x1 v_path))) FU x1 (0 : Int32))
abbrev ws_Mo_parts (cI cJ cZ : ClassId) (q_this q_m q_saved q_w q_savedWords q_isSaved q_text q_far q_queue q_parent q_by q_seen q_path q_row q_more q_stateOf : Nat) (v_textLength : Int32) (v_steps : Int32) (v_missing : Int64) (v_mores : Int32) (v_hash : Int64) (v_m : (Nat → Int32)) (v_queue : (Nat → Int32)) (v_parent : (Nat → Int32)) (v_by : (Nat → Int32)) (v_seen : (Nat → Int32)) (v_path : (Nat → Int32)) : va_W := [(q_this, .inr (9, [.ref q_m, .ref q_saved, .ref q_w, .ref q_savedWords, .ref q_isSaved, .ref q_text, .int v_textLength, .ref q_far, .ref q_queue, .ref q_parent, .ref q_by, .ref q_seen, .ref q_path, .int v_steps, .ref q_row, .long v_missing, .ref q_more, .int v_mores, .ref q_stateOf, .long v_hash])), (q_m, .inl (cI, 561, .inl v_m)), (q_queue, .inl (cI, 320, .inl v_queue)), (q_parent, .inl (cI, 320, .inl v_parent)), (q_by, .inl (cI, 320, .inl v_by)), (q_seen, .inl (cZ, 320, .inl v_seen)), (q_path, .inl (cI, 320, .inl v_path))]
abbrev rm_Mo_parts : Room := { frames := 1, cells := 0, slots := 0, locals := 23 }
def f_Mo_parts_L3 (K rec : Int32 → (Nat → Int32) → Option (Int32 × (Nat → Int32) × (Nat → Int32) × (Nat → Int32) × (Nat → Int32) × (Nat → Int32) × Int32)) (x4 : Int32) (v_seen : (Nat → Int32)) : Option (Int32 × (Nat → Int32) × (Nat → Int32) × (Nat → Int32) × (Nat → Int32) × (Nat → Int32) × Int32) :=
 (if (320 : Int32) ≤ x4 then
 (K x4 v_seen)
 else
 (gIn x4 320
 (bnd (upd v_seen x4.toNatClampNeg (0 : Int32)) (fun v_seen_1 =>
 (bnd (x4 + 1) (fun x4_1 =>
 (rec x4_1 v_seen_1)))))))
def f_Mo_parts_J264 (rec : Int32 → Int32 → (Nat → Int32) → (Nat → Int32) → (Nat → Int32) → (Nat → Int32) → Option (Int32 × (Nat → Int32) × (Nat → Int32) × (Nat → Int32) × (Nat → Int32) × (Nat → Int32) × Int32)) (x4 : Int32) (x9 : Int32) (v_queue : (Nat → Int32)) (v_parent : (Nat → Int32)) (v_by : (Nat → Int32)) (v_seen : (Nat → Int32)) : Option (Int32 × (Nat → Int32) × (Nat → Int32) × (Nat → Int32) × (Nat → Int32) × (Nat → Int32) × Int32) :=
 (bnd (x9 + 1) (fun x9_1 =>
 (rec x4 x9_1 v_queue v_parent v_by v_seen)))
def f_Mo_parts_J198 (rec : Int32 → Int32 → (Nat → Int32) → (Nat → Int32) → (Nat → Int32) → (Nat → Int32) → Option (Int32 × (Nat → Int32) × (Nat → Int32) × (Nat → Int32) × (Nat → Int32) × (Nat → Int32) × Int32)) (x4 : Int32) (x5 : Int32) (x7 : Int32) (x9 : Int32) (s0 : Int32) (s1 : Int32) (v_m : (Nat → Int32)) (v_queue : (Nat → Int32)) (v_parent : (Nat → Int32)) (v_by : (Nat → Int32)) (v_seen : (Nat → Int32)) : Option (Int32 × (Nat → Int32) × (Nat → Int32) × (Nat → Int32) × (Nat → Int32) × (Nat → Int32) × Int32) :=
 (gIn (((2 : Int32) + ((3 : Int32) * x7)) + x9) 561
 (bnd ((s0 * s1) + (v_m (((2 : Int32) + ((3 : Int32) * x7)) + x9).toNatClampNeg)) (fun x10 =>
 (gIn x10 320
 (if (v_seen x10.toNatClampNeg) = 0 then
 (gIn x10 320
 (bnd (upd v_seen x10.toNatClampNeg (1 : Int32)) (fun v_seen_1 =>
 (gIn x4 320
 (bnd (upd v_queue x4.toNatClampNeg x10) (fun v_queue_1 =>
 (gIn x4 320
 (bnd (upd v_parent x4.toNatClampNeg x5) (fun v_parent_1 =>
 (gIn x4 320
 (bnd (upd v_by x4.toNatClampNeg x9) (fun v_by_1 =>
 (bnd (x4 + 1) (fun x4_1 =>
 (f_Mo_parts_J264 rec x4_1 x9 v_queue_1 v_parent_1 v_by_1 v_seen_1)))))))))))))))
 else
 (f_Mo_parts_J264 rec x4 x9 v_queue v_parent v_by v_seen))))))
def f_Mo_parts_L148 (v_m : (Nat → Int32)) (x3 : Int32) (x5 : Int32) (x6 : Int32) (x7 : Int32) (K rec : Int32 → Int32 → (Nat → Int32) → (Nat → Int32) → (Nat → Int32) → (Nat → Int32) → Option (Int32 × (Nat → Int32) × (Nat → Int32) × (Nat → Int32) × (Nat → Int32) × (Nat → Int32) × Int32)) (x4 : Int32) (x9 : Int32) (v_queue : (Nat → Int32)) (v_parent : (Nat → Int32)) (v_by : (Nat → Int32)) (v_seen : (Nat → Int32)) : Option (Int32 × (Nat → Int32) × (Nat → Int32) × (Nat → Int32) × (Nat → Int32) × (Nat → Int32) × Int32) :=
 (if (v_m 1) ≤ x9 then
 (K x4 x9 v_queue v_parent v_by v_seen)
 else
 (if x3 = 0 then
 (gIn (((2 : Int32) + ((3 : Int32) * x6)) + x9) 561
 (f_Mo_parts_J198 rec x4 x5 x7 x9 (8 : Int32) (v_m (((2 : Int32) + ((3 : Int32) * x6)) + x9).toNatClampNeg) v_m v_queue v_parent v_by v_seen))
 else
 (gIn (((361 : Int32) + ((3 : Int32) * x6)) + x9) 561
 (f_Mo_parts_J198 rec x4 x5 x7 x9 (8 : Int32) (v_m (((361 : Int32) + ((3 : Int32) * x6)) + x9).toNatClampNeg) v_m v_queue v_parent v_by v_seen))))
def f_Mo_parts_J121 (rec : Int32 → Int32 → (Nat → Int32) → (Nat → Int32) → (Nat → Int32) → (Nat → Int32) → Option (Int32 × (Nat → Int32) × (Nat → Int32) × (Nat → Int32) × (Nat → Int32) × (Nat → Int32) × Int32)) (x3 : Int32) (x4 : Int32) (x5 : Int32) (x6 : Int32) (x7 : Int32) (s0 : Int32) (v_m : (Nat → Int32)) (v_queue : (Nat → Int32)) (v_parent : (Nat → Int32)) (v_by : (Nat → Int32)) (v_seen : (Nat → Int32)) (v_path : (Nat → Int32)) : Option (Int32 × (Nat → Int32) × (Nat → Int32) × (Nat → Int32) × (Nat → Int32) × (Nat → Int32) × Int32) :=
 (gIn ((26 : Int32) + x7) 561
 (if s0 = (v_m ((26 : Int32) + x7).toNatClampNeg) then
 (itr (fun _ _ _ _ _ _ => none) (f_Mo_parts_L148 v_m x3 x5 x6 x7 (fun x4_1 x9 v_queue_1 v_parent_1 v_by_1 v_seen_1 =>
 (bnd (x5 + 1) (fun x5_1 =>
 (rec x4_1 x5_1 v_queue_1 v_parent_1 v_by_1 v_seen_1))))) FU x4 (0 : Int32) v_queue v_parent v_by v_seen)
 else
 (bd3 (f_Mo_goesBack x5 v_parent v_by v_path) (fun r v_path_1 v_steps_1 =>
 (gB r (some (r, v_queue, v_parent, v_by, v_seen, v_path_1, v_steps_1)))))))
def f_Mo_parts_L62 (v_m : (Nat → Int32)) (v_path : (Nat → Int32)) (x3 : Int32) (K rec : Int32 → Int32 → (Nat → Int32) → (Nat → Int32) → (Nat → Int32) → (Nat → Int32) → Option (Int32 × (Nat → Int32) × (Nat → Int32) × (Nat → Int32) × (Nat → Int32) × (Nat → Int32) × Int32)) (x4 : Int32) (x5 : Int32) (v_queue : (Nat → Int32)) (v_parent : (Nat → Int32)) (v_by : (Nat → Int32)) (v_seen : (Nat → Int32)) : Option (Int32 × (Nat → Int32) × (Nat → Int32) × (Nat → Int32) × (Nat → Int32) × (Nat → Int32) × Int32) :=
 (if x4 ≤ x5 then
 (K x4 x5 v_queue v_parent v_by v_seen)
 else
 (gIn x5 320
 (bnd ((v_queue x5.toNatClampNeg) / (8 : Int32)) (fun x6 =>
 (gIn x5 320
 (bnd ((v_queue x5.toNatClampNeg) - (v_queue x5.toNatClampNeg) / (8 : Int32) * (8 : Int32)) (fun x7 =>
 (if x3 = 0 then
 (gIn ((26 : Int32) + x6) 561
 (f_Mo_parts_J121 rec x3 x4 x5 x6 x7 (v_m ((26 : Int32) + x6).toNatClampNeg) v_m v_queue v_parent v_by v_seen v_path))
 else
 (gIn ((481 : Int32) + x6) 561
 (f_Mo_parts_J121 rec x3 x4 x5 x6 x7 (v_m ((481 : Int32) + x6).toNatClampNeg) v_m v_queue v_parent v_by v_seen v_path))))))))))
def f_Mo_parts (x1 : Int32) (x2 : Int32) (x3 : Int32) (v_steps : Int32) (v_m : (Nat → Int32)) (v_queue : (Nat → Int32)) (v_parent : (Nat → Int32)) (v_by : (Nat → Int32)) (v_seen : (Nat → Int32)) (v_path : (Nat → Int32)) : Option (Int32 × (Nat → Int32) × (Nat → Int32) × (Nat → Int32) × (Nat → Int32) × (Nat → Int32) × Int32) :=
 (itr (fun _ _ => none) (f_Mo_parts_L3 (fun x4 v_seen_1 =>
 (bnd (upd v_queue 0 (((8 : Int32) * x1) + x2)) (fun v_queue_1 =>
 (bnd (upd v_parent 0 (-1 : Int32)) (fun v_parent_1 =>
 (gIn (v_queue_1 0) 320
 (bnd (upd v_seen_1 (v_queue_1 0).toNatClampNeg (1 : Int32)) (fun v_seen_2 =>
 (itr (fun _ _ _ _ _ _ => none) (f_Mo_parts_L62 v_m v_path x3 (fun x4_1 x5 v_queue_2 v_parent_2 v_by_1 v_seen_3 =>
 (some ((0 : Int32), v_queue_2, v_parent_2, v_by_1, v_seen_3, v_path, v_steps)))) FU (1 : Int32) (0 : Int32) v_queue_1 v_parent_1 v_by v_seen_2)))))))))) FU (0 : Int32) v_seen)
abbrev ws_Mo_pathPart (cI cJ cZ : ClassId) (q_this q_m q_saved q_w q_savedWords q_isSaved q_text q_far q_queue q_parent q_by q_seen q_path q_row q_more q_stateOf : Nat) (v_textLength : Int32) (v_steps : Int32) (v_missing : Int64) (v_mores : Int32) (v_hash : Int64) (v_path : (Nat → Int32)) : va_W := [(q_this, .inr (9, [.ref q_m, .ref q_saved, .ref q_w, .ref q_savedWords, .ref q_isSaved, .ref q_text, .int v_textLength, .ref q_far, .ref q_queue, .ref q_parent, .ref q_by, .ref q_seen, .ref q_path, .int v_steps, .ref q_row, .long v_missing, .ref q_more, .int v_mores, .ref q_stateOf, .long v_hash])), (q_path, .inl (cI, 320, .inl v_path))]
abbrev rm_Mo_pathPart : Room := { frames := 0, cells := 0, slots := 0, locals := 0 }
def f_Mo_pathPart (x1 : Int32) (v_steps : Int32) (v_path : (Nat → Int32)) : Option (Int32) :=
 (if x1 = (-1 : Int32) then
 (some v_steps)
 else
 (if v_steps ≤ x1 then
 (some (-1 : Int32))
 else
 (gIn x1 320
 (some (v_path x1.toNatClampNeg)))))
abbrev ws_Mo_distinguish (cI cJ cZ : ClassId) (q_this q_m q_saved q_w q_savedWords q_isSaved q_text q_far q_queue q_parent q_by q_seen q_path q_row q_more q_stateOf : Nat) (v_textLength : Int32) (v_steps : Int32) (v_missing : Int64) (v_mores : Int32) (v_hash : Int64) (v_m : (Nat → Int32)) (v_queue : (Nat → Int32)) (v_parent : (Nat → Int32)) (v_by : (Nat → Int32)) (v_seen : (Nat → Int32)) (v_path : (Nat → Int32)) : va_W := [(q_this, .inr (9, [.ref q_m, .ref q_saved, .ref q_w, .ref q_savedWords, .ref q_isSaved, .ref q_text, .int v_textLength, .ref q_far, .ref q_queue, .ref q_parent, .ref q_by, .ref q_seen, .ref q_path, .int v_steps, .ref q_row, .long v_missing, .ref q_more, .int v_mores, .ref q_stateOf, .long v_hash])), (q_m, .inl (cI, 561, .inl v_m)), (q_queue, .inl (cI, 320, .inl v_queue)), (q_parent, .inl (cI, 320, .inl v_parent)), (q_by, .inl (cI, 320, .inl v_by)), (q_seen, .inl (cZ, 320, .inl v_seen)), (q_path, .inl (cI, 320, .inl v_path))]
abbrev rm_Mo_distinguish : Room := { frames := 2, cells := 0, slots := 0, locals := 53 }
def f_Mo_distinguish (x1 : Int32) (x2 : Int32) (x3 : Int32) (v_steps : Int32) (v_m : (Nat → Int32)) (v_queue : (Nat → Int32)) (v_parent : (Nat → Int32)) (v_by : (Nat → Int32)) (v_seen : (Nat → Int32)) (v_path : (Nat → Int32)) : Option (Int32 × (Nat → Int32) × (Nat → Int32) × (Nat → Int32) × (Nat → Int32) × (Nat → Int32) × Int32) :=
 (bd1 (f_Mo_isState x1 v_m) (fun r =>
 (if r = 0 then
 (some ((-2 : Int32), v_queue, v_parent, v_by, v_seen, v_path, v_steps))
 else
 (bd1 (f_Mo_isState x2 v_m) (fun r_1 =>
 (if r_1 = 0 then
 (some ((-2 : Int32), v_queue, v_parent, v_by, v_seen, v_path, v_steps))
 else
 (if (-1 : Int32) ≤ x3 then
 (bd7 (f_Mo_parts x1 x2 (0 : Int32) v_steps v_m v_queue v_parent v_by v_seen v_path) (fun r_2 v_queue_1 v_parent_1 v_by_1 v_seen_1 v_path_1 v_steps_1 =>
 (if r_2 = 0 then
 (some ((-1 : Int32), v_queue_1, v_parent_1, v_by_1, v_seen_1, v_path_1, v_steps_1))
 else
 (bd1 (f_Mo_pathPart x3 v_steps_1 v_path_1) (fun r_3 =>
 (some (r_3, v_queue_1, v_parent_1, v_by_1, v_seen_1, v_path_1, v_steps_1)))))))
 else
 (some ((-2 : Int32), v_queue, v_parent, v_by, v_seen, v_path, v_steps)))))))))
abbrev ws_Mo_leastStates (cI cJ cZ : ClassId) (q_this q_m q_saved q_w q_savedWords q_isSaved q_text q_far q_queue q_parent q_by q_seen q_path q_row q_more q_stateOf : Nat) (v_textLength : Int32) (v_steps : Int32) (v_missing : Int64) (v_mores : Int32) (v_hash : Int64) (v_m : (Nat → Int32)) (v_far : (Nat → Int32)) (v_queue : (Nat → Int32)) (v_parent : (Nat → Int32)) (v_by : (Nat → Int32)) (v_seen : (Nat → Int32)) (v_path : (Nat → Int32)) : va_W := [(q_this, .inr (9, [.ref q_m, .ref q_saved, .ref q_w, .ref q_savedWords, .ref q_isSaved, .ref q_text, .int v_textLength, .ref q_far, .ref q_queue, .ref q_parent, .ref q_by, .ref q_seen, .ref q_path, .int v_steps, .ref q_row, .long v_missing, .ref q_more, .int v_mores, .ref q_stateOf, .long v_hash])), (q_m, .inl (cI, 561, .inl v_m)), (q_far, .inl (cI, 8, .inl v_far)), (q_queue, .inl (cI, 320, .inl v_queue)), (q_parent, .inl (cI, 320, .inl v_parent)), (q_by, .inl (cI, 320, .inl v_by)), (q_seen, .inl (cZ, 320, .inl v_seen)), (q_path, .inl (cI, 320, .inl v_path))]
abbrev rm_Mo_leastStates : Room := { frames := 2, cells := 0, slots := 0, locals := 53 }
def f_Mo_leastStates_J74 (rec : Int32 → Int32 → (Nat → Int32) → (Nat → Int32) → (Nat → Int32) → (Nat → Int32) → (Nat → Int32) → Int32 → Option (Int32 × (Nat → Int32) × (Nat → Int32) × (Nat → Int32) × (Nat → Int32) × (Nat → Int32) × (Nat → Int32) × Int32)) (x4 : Int32) (s0 : Int32) (v_steps : Int32) (v_queue : (Nat → Int32)) (v_parent : (Nat → Int32)) (v_by : (Nat → Int32)) (v_seen : (Nat → Int32)) (v_path : (Nat → Int32)) : Option (Int32 × (Nat → Int32) × (Nat → Int32) × (Nat → Int32) × (Nat → Int32) × (Nat → Int32) × (Nat → Int32) × Int32) :=
 (bnd (x4 + 1) (fun x4_1 =>
 (rec s0 x4_1 v_queue v_parent v_by v_seen v_path v_steps)))
def f_Mo_leastStates_J69 (rec : Int32 → Int32 → (Nat → Int32) → (Nat → Int32) → (Nat → Int32) → (Nat → Int32) → (Nat → Int32) → Int32 → Option (Int32 × (Nat → Int32) × (Nat → Int32) × (Nat → Int32) × (Nat → Int32) × (Nat → Int32) × (Nat → Int32) × Int32)) (x4 : Int32) (v_steps : Int32) (v_queue : (Nat → Int32)) (v_parent : (Nat → Int32)) (v_by : (Nat → Int32)) (v_seen : (Nat → Int32)) (v_path : (Nat → Int32)) : Option (Int32 × (Nat → Int32) × (Nat → Int32) × (Nat → Int32) × (Nat → Int32) × (Nat → Int32) × (Nat → Int32) × Int32) :=
 (f_Mo_leastStates_J74 rec x4 (1 : Int32) v_steps v_queue v_parent v_by v_seen v_path)
def f_Mo_leastStates_L37 (v_m : (Nat → Int32)) (v_far : (Nat → Int32)) (x2 : Int32) (K rec : Int32 → Int32 → (Nat → Int32) → (Nat → Int32) → (Nat → Int32) → (Nat → Int32) → (Nat → Int32) → Int32 → Option (Int32 × (Nat → Int32) × (Nat → Int32) × (Nat → Int32) × (Nat → Int32) × (Nat → Int32) × (Nat → Int32) × Int32)) (x3 : Int32) (x4 : Int32) (v_queue : (Nat → Int32)) (v_parent : (Nat → Int32)) (v_by : (Nat → Int32)) (v_seen : (Nat → Int32)) (v_path : (Nat → Int32)) (v_steps : Int32) : Option (Int32 × (Nat → Int32) × (Nat → Int32) × (Nat → Int32) × (Nat → Int32) × (Nat → Int32) × (Nat → Int32) × Int32) :=
 (if x2 ≤ x4 then
 (K x3 x4 v_queue v_parent v_by v_seen v_path v_steps)
 else
 (if x3 = 0 then
 (K x3 x4 v_queue v_parent v_by v_seen v_path v_steps)
 else
 (gIn x4 8
 (if (v_far x4.toNatClampNeg) = (-1 : Int32) then
 (f_Mo_leastStates_J69 rec x4 v_steps v_queue v_parent v_by v_seen v_path)
 else
 (bd7 (f_Mo_parts x4 x2 (0 : Int32) v_steps v_m v_queue v_parent v_by v_seen v_path) (fun r v_queue_1 v_parent_1 v_by_1 v_seen_1 v_path_1 v_steps_1 =>
 (bnd (if r = 0 then (0 : Int32) else (1 : Int32)) (fun t =>
 (bnd (x4 + 1) (fun x4_1 =>
 (rec t x4_1 v_queue_1 v_parent_1 v_by_1 v_seen_1 v_path_1 v_steps_1)))))))))))
def f_Mo_leastStates_L8 (v_m : (Nat → Int32)) (v_far : (Nat → Int32)) (K rec : Int32 → Int32 → (Nat → Int32) → (Nat → Int32) → (Nat → Int32) → (Nat → Int32) → (Nat → Int32) → Int32 → Option (Int32 × (Nat → Int32) × (Nat → Int32) × (Nat → Int32) × (Nat → Int32) × (Nat → Int32) × (Nat → Int32) × Int32)) (x1 : Int32) (x2 : Int32) (v_queue : (Nat → Int32)) (v_parent : (Nat → Int32)) (v_by : (Nat → Int32)) (v_seen : (Nat → Int32)) (v_path : (Nat → Int32)) (v_steps : Int32) : Option (Int32 × (Nat → Int32) × (Nat → Int32) × (Nat → Int32) × (Nat → Int32) × (Nat → Int32) × (Nat → Int32) × Int32) :=
 (if (v_m 0) ≤ x2 then
 (K x1 x2 v_queue v_parent v_by v_seen v_path v_steps)
 else
 (gIn x2 8
 (bnd (if (v_far x2.toNatClampNeg) = (-1 : Int32) then (0 : Int32) else (1 : Int32)) (fun t =>
 (itr (fun _ _ _ _ _ _ _ _ => none) (f_Mo_leastStates_L37 v_m v_far x2 (fun x3 x4 v_queue_1 v_parent_1 v_by_1 v_seen_1 v_path_1 v_steps_1 =>
 (bnd (if x3 = 0 then (0 : Int32) else (1 : Int32)) (fun t_1 =>
 (bnd (x1 + t_1) (fun x1_1 =>
 (bnd (x2 + 1) (fun x2_1 =>
 (rec x1_1 x2_1 v_queue_1 v_parent_1 v_by_1 v_seen_1 v_path_1 v_steps_1))))))))) FU t (0 : Int32) v_queue v_parent v_by v_seen v_path v_steps)))))
def f_Mo_leastStates (v_steps : Int32) (v_m : (Nat → Int32)) (v_far : (Nat → Int32)) (v_queue : (Nat → Int32)) (v_parent : (Nat → Int32)) (v_by : (Nat → Int32)) (v_seen : (Nat → Int32)) (v_path : (Nat → Int32)) : Option (Int32 × (Nat → Int32) × (Nat → Int32) × (Nat → Int32) × (Nat → Int32) × (Nat → Int32) × (Nat → Int32) × Int32) :=
 (bd1 (f_Mo_distances v_m v_far) (fun v_far_1 =>
 (itr (fun _ _ _ _ _ _ _ _ => none) (f_Mo_leastStates_L8 v_m v_far_1 (fun x1 x2 v_queue_1 v_parent_1 v_by_1 v_seen_1 v_path_1 v_steps_1 =>
 (some (x1, v_far_1, v_queue_1, v_parent_1, v_by_1, v_seen_1, v_path_1, v_steps_1)))) FU (0 : Int32) (0 : Int32) v_queue v_parent v_by v_seen v_path v_steps)))
abbrev ws_Mo_truth (cI cJ cZ : ClassId) (q_this q_m q_saved q_w q_savedWords q_isSaved q_text q_far q_queue q_parent q_by q_seen q_path q_row q_more q_stateOf : Nat) (v_textLength : Int32) (v_steps : Int32) (v_missing : Int64) (v_mores : Int32) (v_hash : Int64) (v_m : (Nat → Int32)) : va_W := [(q_this, .inr (9, [.ref q_m, .ref q_saved, .ref q_w, .ref q_savedWords, .ref q_isSaved, .ref q_text, .int v_textLength, .ref q_far, .ref q_queue, .ref q_parent, .ref q_by, .ref q_seen, .ref q_path, .int v_steps, .ref q_row, .long v_missing, .ref q_more, .int v_mores, .ref q_stateOf, .long v_hash])), (q_m, .inl (cI, 561, .inl v_m))]
abbrev rm_Mo_truth : Room := { frames := 2, cells := 0, slots := 0, locals := 46 }
def f_Mo_truth_L11 (v_m : (Nat → Int32)) (x1 : Int64) (x4 : Int32) (K rec : Int32 → Int32 → Option (Int32)) (x3 : Int32) (x5 : Int32) : Option (Int32) :=
 (if x4 ≤ x5 then
 (K x3 x5)
 else
 (bd1 (f_Mo_letterOf x1 x5) (fun r =>
 (gIn (((2 : Int32) + ((3 : Int32) * x3)) + r) 561
 (bnd (v_m (((2 : Int32) + ((3 : Int32) * x3)) + r).toNatClampNeg) (fun x3_1 =>
 (bnd (x5 + 1) (fun x5_1 =>
 (rec x3_1 x5_1)))))))))
def f_Mo_truth (x1 : Int64) (v_m : (Nat → Int32)) : Option (Int32) :=
 (bd1 (f_Mo_lengthOf x1) (fun r =>
 (itr (fun _ _ => none) (f_Mo_truth_L11 v_m x1 r (fun x3 x5 =>
 (gIn ((26 : Int32) + x3) 561
 (some (v_m ((26 : Int32) + x3).toNatClampNeg))))) FU (0 : Int32) (0 : Int32))))
abbrev ws_Mo_accepts (cI cJ cZ : ClassId) (q_this q_m q_saved q_w q_savedWords q_isSaved q_text q_far q_queue q_parent q_by q_seen q_path q_row q_more q_stateOf : Nat) (v_textLength : Int32) (v_steps : Int32) (v_missing : Int64) (v_mores : Int32) (v_hash : Int64) (v_m : (Nat → Int32)) (v_text : (Nat → Int32)) : va_W := [(q_this, .inr (9, [.ref q_m, .ref q_saved, .ref q_w, .ref q_savedWords, .ref q_isSaved, .ref q_text, .int v_textLength, .ref q_far, .ref q_queue, .ref q_parent, .ref q_by, .ref q_seen, .ref q_path, .int v_steps, .ref q_row, .long v_missing, .ref q_more, .int v_mores, .ref q_stateOf, .long v_hash])), (q_m, .inl (cI, 561, .inl v_m)), (q_text, .inl (cI, 16, .inl v_text))]
abbrev rm_Mo_accepts : Room := { frames := 3, cells := 0, slots := 0, locals := 71 }
def f_Mo_accepts (v_textLength : Int32) (v_m : (Nat → Int32)) (v_text : (Nat → Int32)) : Option (Int32) :=
 (bd1 (f_Mo_told v_textLength v_m v_text) (fun r =>
 (if r < (0 : Int64) then
 (some (-2 : Int32))
 else
 (bd1 (f_Mo_truth r v_m) (fun r_1 =>
 (some r_1))))))
abbrev ws_Mo_type (cI cJ cZ : ClassId) (q_this q_m q_saved q_w q_savedWords q_isSaved q_text q_far q_queue q_parent q_by q_seen q_path q_row q_more q_stateOf : Nat) (v_textLength : Int32) (v_steps : Int32) (v_missing : Int64) (v_mores : Int32) (v_hash : Int64) (v_text : (Nat → Int32)) : va_W := [(q_this, .inr (9, [.ref q_m, .ref q_saved, .ref q_w, .ref q_savedWords, .ref q_isSaved, .ref q_text, .int v_textLength, .ref q_far, .ref q_queue, .ref q_parent, .ref q_by, .ref q_seen, .ref q_path, .int v_steps, .ref q_row, .long v_missing, .ref q_more, .int v_mores, .ref q_stateOf, .long v_hash])), (q_text, .inl (cI, 16, .inl v_text))]
abbrev rm_Mo_type : Room := { frames := 1, cells := 0, slots := 0, locals := 22 }
def f_Mo_type (x1 : Int32) (v_textLength : Int32) (v_text : (Nat → Int32)) : Option (Int32 × (Nat → Int32) × Int32) :=
 (bd1 (f_Mo_in x1 (0 : Int32) (127 : Int32)) (fun r =>
 (if r = 0 then
 (some ((-2 : Int32), v_text, v_textLength))
 else
 (if v_textLength = (16 : Int32) then
 (some ((-5 : Int32), v_text, v_textLength))
 else
 (gIn v_textLength 16
 (bnd (upd v_text v_textLength.toNatClampNeg x1) (fun v_text_1 =>
 (bnd (v_textLength + (1 : Int32)) (fun v_textLength_1 =>
 (some (v_textLength_1, v_text_1, v_textLength_1)))))))))))
abbrev ws_Mo_clearText (cI cJ cZ : ClassId) (q_this q_m q_saved q_w q_savedWords q_isSaved q_text q_far q_queue q_parent q_by q_seen q_path q_row q_more q_stateOf : Nat) (v_textLength : Int32) (v_steps : Int32) (v_missing : Int64) (v_mores : Int32) (v_hash : Int64) : va_W := [(q_this, .inr (9, [.ref q_m, .ref q_saved, .ref q_w, .ref q_savedWords, .ref q_isSaved, .ref q_text, .int v_textLength, .ref q_far, .ref q_queue, .ref q_parent, .ref q_by, .ref q_seen, .ref q_path, .int v_steps, .ref q_row, .long v_missing, .ref q_more, .int v_mores, .ref q_stateOf, .long v_hash]))]
abbrev rm_Mo_clearText : Room := { frames := 0, cells := 0, slots := 0, locals := 0 }
def f_Mo_clearText (v_textLength : Int32) : Option (Int32 × Int32) :=
 (some (v_textLength, (0 : Int32)))
abbrev ws_Mo_place (cI cJ cZ : ClassId) (q_this q_m q_saved q_w q_savedWords q_isSaved q_text q_far q_queue q_parent q_by q_seen q_path q_row q_more q_stateOf : Nat) (v_textLength : Int32) (v_steps : Int32) (v_missing : Int64) (v_mores : Int32) (v_hash : Int64) (v_m : (Nat → Int32)) (v_w : (Nat → Int64)) : va_W := [(q_this, .inr (9, [.ref q_m, .ref q_saved, .ref q_w, .ref q_savedWords, .ref q_isSaved, .ref q_text, .int v_textLength, .ref q_far, .ref q_queue, .ref q_parent, .ref q_by, .ref q_seen, .ref q_path, .int v_steps, .ref q_row, .long v_missing, .ref q_more, .int v_mores, .ref q_stateOf, .long v_hash])), (q_m, .inl (cI, 561, .inl v_m)), (q_w, .inl (cJ, 360, .inr (.inl v_w)))]
abbrev rm_Mo_place : Room := { frames := 0, cells := 0, slots := 0, locals := 0 }
def f_Mo_place_L11 (v_w : (Nat → Int64)) (x1 : Int64) (K rec : Int32 → Int32 → Option (Int32)) (x3 : Int32) (x4 : Int32) : Option (Int32) :=
 (if x4 ≤ x3 then
 (K x3 x4)
 else
 (bnd ((x3 + x4) / (2 : Int32)) (fun x5 =>
 (gIn ((4 : Int32) + x5) 360
 (bnd (if (v_w ((4 : Int32) + x5).toNatClampNeg) < x1 then (1 : Int32) else (0 : Int32)) (fun t =>
 (bnd (if t = 0 then x3 else (x5 + (1 : Int32))) (fun t_1 =>
 (bnd (if t = 0 then x5 else x4) (fun t_2 =>
 (rec t_1 t_2)))))))))))
def f_Mo_place (x1 : Int64) (v_m : (Nat → Int32)) (v_w : (Nat → Int64)) : Option (Int32) :=
 (bnd (v_m 37) (fun x4 =>
 (itr (fun _ _ => none) (f_Mo_place_L11 v_w x1 (fun x3 x4_1 =>
 (some x3))) FU (0 : Int32) x4)))
abbrev ws_Mo_known (cI cJ cZ : ClassId) (q_this q_m q_saved q_w q_savedWords q_isSaved q_text q_far q_queue q_parent q_by q_seen q_path q_row q_more q_stateOf : Nat) (v_textLength : Int32) (v_steps : Int32) (v_missing : Int64) (v_mores : Int32) (v_hash : Int64) (v_m : (Nat → Int32)) (v_w : (Nat → Int64)) : va_W := [(q_this, .inr (9, [.ref q_m, .ref q_saved, .ref q_w, .ref q_savedWords, .ref q_isSaved, .ref q_text, .int v_textLength, .ref q_far, .ref q_queue, .ref q_parent, .ref q_by, .ref q_seen, .ref q_path, .int v_steps, .ref q_row, .long v_missing, .ref q_more, .int v_mores, .ref q_stateOf, .long v_hash])), (q_m, .inl (cI, 561, .inl v_m)), (q_w, .inl (cJ, 360, .inr (.inl v_w)))]
abbrev rm_Mo_known : Room := { frames := 1, cells := 0, slots := 0, locals := 26 }
def f_Mo_known (x1 : Int64) (v_m : (Nat → Int32)) (v_w : (Nat → Int64)) : Option (Int32) :=
 (bd1 (f_Mo_place x1 v_m v_w) (fun r =>
 (if (v_m 37) ≤ r then
 (some (-1 : Int32))
 else
 (gIn ((4 : Int32) + r) 360
 (if (v_w ((4 : Int32) + r).toNatClampNeg) = x1 then
 (gIn ((45 : Int32) + r) 561
 (some (v_m ((45 : Int32) + r).toNatClampNeg)))
 else
 (some (-1 : Int32)))))))
abbrev ws_Mo_asks (cI cJ cZ : ClassId) (q_this q_m q_saved q_w q_savedWords q_isSaved q_text q_far q_queue q_parent q_by q_seen q_path q_row q_more q_stateOf : Nat) (v_textLength : Int32) (v_steps : Int32) (v_missing : Int64) (v_mores : Int32) (v_hash : Int64) (v_m : (Nat → Int32)) (v_w : (Nat → Int64)) : va_W := [(q_this, .inr (9, [.ref q_m, .ref q_saved, .ref q_w, .ref q_savedWords, .ref q_isSaved, .ref q_text, .int v_textLength, .ref q_far, .ref q_queue, .ref q_parent, .ref q_by, .ref q_seen, .ref q_path, .int v_steps, .ref q_row, .long v_missing, .ref q_more, .int v_mores, .ref q_stateOf, .long v_hash])), (q_m, .inl (cI, 561, .inl v_m)), (q_w, .inl (cJ, 360, .inr (.inl v_w)))]
abbrev rm_Mo_asks : Room := { frames := 3, cells := 0, slots := 0, locals := 71 }
def f_Mo_asks_L49 (x4 : Int32) (K rec : Int32 → (Nat → Int32) → (Nat → Int64) → Option (Int32 × (Nat → Int32) × (Nat → Int64))) (x5 : Int32) (v_m : (Nat → Int32)) (v_w : (Nat → Int64)) : Option (Int32 × (Nat → Int32) × (Nat → Int64)) :=
 (if x5 ≤ x4 then
 (K x5 v_m v_w)
 else
 (gIn (((4 : Int32) + x5) - (1 : Int32)) 360
 (gIn ((4 : Int32) + x5) 360
 (bnd (vp_updL v_w ((4 : Int32) + x5).toNatClampNeg (v_w (((4 : Int32) + x5) - (1 : Int32)).toNatClampNeg)) (fun v_w_1 =>
 (gIn (((45 : Int32) + x5) - (1 : Int32)) 561
 (gIn ((45 : Int32) + x5) 561
 (bnd (upd v_m ((45 : Int32) + x5).toNatClampNeg (v_m (((45 : Int32) + x5) - (1 : Int32)).toNatClampNeg)) (fun v_m_1 =>
 (bnd (x5 + (-1)) (fun x5_1 =>
 (rec x5_1 v_m_1 v_w_1))))))))))))
def f_Mo_asks_J128 (x1 : Int64) (x4 : Int32) (s0 : Int32) (v_m : (Nat → Int32)) (v_w : (Nat → Int64)) : Option (Int32 × (Nat → Int32) × (Nat → Int64)) :=
 (gIn ((4 : Int32) + x4) 360
 (bnd (vp_updL v_w ((4 : Int32) + x4).toNatClampNeg x1) (fun v_w_1 =>
 (gIn ((45 : Int32) + x4) 561
 (bnd (upd v_m ((45 : Int32) + x4).toNatClampNeg s0) (fun v_m_1 =>
 (bnd (upd v_m_1 37 ((v_m_1 37) + (1 : Int32))) (fun v_m_2 =>
 (some (s0, v_m_2, v_w_1))))))))))
def f_Mo_asks (x1 : Int64) (v_m : (Nat → Int32)) (v_w : (Nat → Int64)) : Option (Int32 × (Nat → Int32) × (Nat → Int64)) :=
 (bd1 (f_Mo_known x1 v_m v_w) (fun r =>
 (if r = (-1 : Int32) then
 (if (v_m 37) < (v_m 36) then
 (bd1 (f_Mo_place x1 v_m v_w) (fun r_1 =>
 (bnd (v_m 37) (fun x5 =>
 (itr (fun _ _ _ => none) (f_Mo_asks_L49 r_1 (fun x5_1 v_m_1 v_w_1 =>
 (bd1 (f_Mo_lieOf x1 v_m_1 v_w_1) (fun r_2 =>
 (if r_2 = (-1 : Int32) then
 (bd1 (f_Mo_truth x1 v_m_1) (fun r_4 =>
 (f_Mo_asks_J128 x1 r_1 r_4 v_m_1 v_w_1)))
 else
 (bd1 (f_Mo_truth x1 v_m_1) (fun r_3 =>
 (f_Mo_asks_J128 x1 r_1 ((1 : Int32) - r_3) v_m_1 v_w_1)))))))) FU x5 v_m v_w)))))
 else
 (some ((-4 : Int32), v_m, v_w)))
 else
 (some (r, v_m, v_w)))))
abbrev ws_Mo_begin (cI cJ cZ : ClassId) (q_this q_m q_saved q_w q_savedWords q_isSaved q_text q_far q_queue q_parent q_by q_seen q_path q_row q_more q_stateOf : Nat) (v_textLength : Int32) (v_steps : Int32) (v_missing : Int64) (v_mores : Int32) (v_hash : Int64) (v_m : (Nat → Int32)) (v_w : (Nat → Int64)) : va_W := [(q_this, .inr (9, [.ref q_m, .ref q_saved, .ref q_w, .ref q_savedWords, .ref q_isSaved, .ref q_text, .int v_textLength, .ref q_far, .ref q_queue, .ref q_parent, .ref q_by, .ref q_seen, .ref q_path, .int v_steps, .ref q_row, .long v_missing, .ref q_more, .int v_mores, .ref q_stateOf, .long v_hash])), (q_m, .inl (cI, 561, .inl v_m)), (q_w, .inl (cJ, 360, .inr (.inl v_w)))]
abbrev rm_Mo_begin : Room := { frames := 1, cells := 0, slots := 0, locals := 22 }
def f_Mo_begin (x1 : Int32) (x2 : Int32) (v_m : (Nat → Int32)) (v_w : (Nat → Int64)) : Option (Int32 × (Nat → Int32) × (Nat → Int64)) :=
 (bd1 (f_Mo_in x1 (0 : Int32) (2 : Int32)) (fun r =>
 (if r = 0 then
 (some ((-2 : Int32), v_m, v_w))
 else
 (bd1 (f_Mo_in x2 (0 : Int32) (300 : Int32)) (fun r_1 =>
 (if r_1 = 0 then
 (some ((-2 : Int32), v_m, v_w))
 else
 (bnd (v_m 35) (fun x3 =>
 (bnd (upd v_m 35 x1) (fun v_m_1 =>
 (bnd (upd v_m_1 36 x2) (fun v_m_2 =>
 (bd2 (f_Mo_begins v_m_2 v_w) (fun v_m_3 v_w_1 =>
 (some (x3, v_m_3, v_w_1))))))))))))))))
abbrev ws_Mo_ask (cI cJ cZ : ClassId) (q_this q_m q_saved q_w q_savedWords q_isSaved q_text q_far q_queue q_parent q_by q_seen q_path q_row q_more q_stateOf : Nat) (v_textLength : Int32) (v_steps : Int32) (v_missing : Int64) (v_mores : Int32) (v_hash : Int64) (v_m : (Nat → Int32)) (v_w : (Nat → Int64)) (v_text : (Nat → Int32)) : va_W := [(q_this, .inr (9, [.ref q_m, .ref q_saved, .ref q_w, .ref q_savedWords, .ref q_isSaved, .ref q_text, .int v_textLength, .ref q_far, .ref q_queue, .ref q_parent, .ref q_by, .ref q_seen, .ref q_path, .int v_steps, .ref q_row, .long v_missing, .ref q_more, .int v_mores, .ref q_stateOf, .long v_hash])), (q_m, .inl (cI, 561, .inl v_m)), (q_w, .inl (cJ, 360, .inr (.inl v_w))), (q_text, .inl (cI, 16, .inl v_text))]
abbrev rm_Mo_ask : Room := { frames := 4, cells := 0, slots := 0, locals := 96 }
def f_Mo_ask (v_textLength : Int32) (v_m : (Nat → Int32)) (v_w : (Nat → Int64)) (v_text : (Nat → Int32)) : Option (Int32 × (Nat → Int32) × (Nat → Int64)) :=
 (bd1 (f_Mo_told v_textLength v_m v_text) (fun r =>
 (if r < (0 : Int64) then
 (some ((-2 : Int32), v_m, v_w))
 else
 (bd3 (f_Mo_asks r v_m v_w) (fun r_1 v_m_1 v_w_1 =>
 (some (r_1, v_m_1, v_w_1)))))))
abbrev ws_Mo_wordOf (cI cJ cZ : ClassId) (q_this q_m q_saved q_w q_savedWords q_isSaved q_text q_far q_queue q_parent q_by q_seen q_path q_row q_more q_stateOf : Nat) (v_textLength : Int32) (v_steps : Int32) (v_missing : Int64) (v_mores : Int32) (v_hash : Int64) (v_m : (Nat → Int32)) (v_w : (Nat → Int64)) : va_W := [(q_this, .inr (9, [.ref q_m, .ref q_saved, .ref q_w, .ref q_savedWords, .ref q_isSaved, .ref q_text, .int v_textLength, .ref q_far, .ref q_queue, .ref q_parent, .ref q_by, .ref q_seen, .ref q_path, .int v_steps, .ref q_row, .long v_missing, .ref q_more, .int v_mores, .ref q_stateOf, .long v_hash])), (q_m, .inl (cI, 561, .inl v_m)), (q_w, .inl (cJ, 360, .inr (.inl v_w)))]
abbrev rm_Mo_wordOf : Room := { frames := 1, cells := 0, slots := 0, locals := 22 }
def f_Mo_wordOf (x1 : Int32) (v_m : (Nat → Int32)) (v_w : (Nat → Int64)) : Option (Int64) :=
 (bnd (x1 - (v_m 38)) (fun x2 =>
 (if 0 ≤ x2 then
 (gNz (v_m 1)
 (gIn ((304 : Int32) + (x2 / (v_m 1))) 360
 (gNz (v_m 1)
 (bd1 (f_Mo_longer (v_w ((304 : Int32) + (x2 / (v_m 1))).toNatClampNeg) (x2 - x2 / (v_m 1) * (v_m 1))) (fun r =>
 (some r))))))
 else
 (gIn ((304 : Int32) + x1) 360
 (some (v_w ((304 : Int32) + x1).toNatClampNeg))))))
abbrev ws_Mo_extension (cI cJ cZ : ClassId) (q_this q_m q_saved q_w q_savedWords q_isSaved q_text q_far q_queue q_parent q_by q_seen q_path q_row q_more q_stateOf : Nat) (v_textLength : Int32) (v_steps : Int32) (v_missing : Int64) (v_mores : Int32) (v_hash : Int64) (v_m : (Nat → Int32)) : va_W := [(q_this, .inr (9, [.ref q_m, .ref q_saved, .ref q_w, .ref q_savedWords, .ref q_isSaved, .ref q_text, .int v_textLength, .ref q_far, .ref q_queue, .ref q_parent, .ref q_by, .ref q_seen, .ref q_path, .int v_steps, .ref q_row, .long v_missing, .ref q_more, .int v_mores, .ref q_stateOf, .long v_hash])), (q_m, .inl (cI, 561, .inl v_m))]
abbrev rm_Mo_extension : Room := { frames := 0, cells := 0, slots := 0, locals := 0 }
def f_Mo_extension (x1 : Int32) (x2 : Int32) (v_m : (Nat → Int32)) : Option (Int32) :=
 (some (((v_m 38) + ((v_m 1) * x1)) + x2))
abbrev ws_Mo_fills (cI cJ cZ : ClassId) (q_this q_m q_saved q_w q_savedWords q_isSaved q_text q_far q_queue q_parent q_by q_seen q_path q_row q_more q_stateOf : Nat) (v_textLength : Int32) (v_steps : Int32) (v_missing : Int64) (v_mores : Int32) (v_hash : Int64) (v_m : (Nat → Int32)) (v_w : (Nat → Int64)) (v_row : (Nat → Int32)) : va_W := [(q_this, .inr (9, [.ref q_m, .ref q_saved, .ref q_w, .ref q_savedWords, .ref q_isSaved, .ref q_text, .int v_textLength, .ref q_far, .ref q_queue, .ref q_parent, .ref q_by, .ref q_seen, .ref q_path, .int v_steps, .ref q_row, .long v_missing, .ref q_more, .int v_mores, .ref q_stateOf, .long v_hash])), (q_m, .inl (cI, 561, .inl v_m)), (q_w, .inl (cJ, 360, .inr (.inl v_w))), (q_row, .inl (cI, 160, .inl v_row))]
abbrev rm_Mo_fills : Room := { frames := 2, cells := 0, slots := 0, locals := 49 }
def f_Mo_fills_L31 (v_m : (Nat → Int32)) (v_w : (Nat → Int64)) (x1 : Int32) (K rec : Int32 → (Nat → Int32) → Option (Int32 × (Nat → Int32) × Int64)) (x2 : Int32) (v_row : (Nat → Int32)) : Option (Int32 × (Nat → Int32) × Int64) :=
 (if (v_m 39) ≤ x2 then
 (K x2 v_row)
 else
 (bd1 (f_Mo_wordOf x1 v_m v_w) (fun r =>
 (gIn ((344 : Int32) + x2) 360
 (bd1 (f_Mo_joined r (v_w ((344 : Int32) + x2).toNatClampNeg)) (fun r_1 =>
 (bd1 (f_Mo_known r_1 v_m v_w) (fun r_2 =>
 (if r_2 = (-1 : Int32) then
 (some ((0 : Int32), v_row, r_1))
 else
 (gIn x1 160
 (gIn x1 160
 (bnd (upd v_row x1.toNatClampNeg ((v_row x1.toNatClampNeg) ||| (r_2 <<< (x2 &&& 31)))) (fun v_row_1 =>
 (bnd (x2 + 1) (fun x2_1 =>
 (rec x2_1 v_row_1))))))))))))))))
def f_Mo_fills_L2 (v_m : (Nat → Int32)) (v_w : (Nat → Int64)) (K rec : Int32 → (Nat → Int32) → Option (Int32 × (Nat → Int32) × Int64)) (x1 : Int32) (v_row : (Nat → Int32)) : Option (Int32 × (Nat → Int32) × Int64) :=
 (if ((v_m 38) * ((1 : Int32) + (v_m 1))) ≤ x1 then
 (K x1 v_row)
 else
 (gIn x1 160
 (bnd (upd v_row x1.toNatClampNeg (0 : Int32)) (fun v_row_1 =>
 (itr (fun _ _ => none) (f_Mo_fills_L31 v_m v_w x1 (fun x2 v_row_2 =>
 (bnd (x1 + 1) (fun x1_1 =>
 (rec x1_1 v_row_2))))) FU (0 : Int32) v_row_1)))))
def f_Mo_fills (v_missing : Int64) (v_m : (Nat → Int32)) (v_w : (Nat → Int64)) (v_row : (Nat → Int32)) : Option (Int32 × (Nat → Int32) × Int64) :=
 (itr (fun _ _ => none) (f_Mo_fills_L2 v_m v_w (fun x1 v_row_1 =>
 (some ((1 : Int32), v_row_1, v_missing)))) FU (0 : Int32) v_row)
abbrev ws_Mo_isWord (cI cJ cZ : ClassId) (q_this q_m q_saved q_w q_savedWords q_isSaved q_text q_far q_queue q_parent q_by q_seen q_path q_row q_more q_stateOf : Nat) (v_textLength : Int32) (v_steps : Int32) (v_missing : Int64) (v_mores : Int32) (v_hash : Int64) (v_w : (Nat → Int64)) : va_W := [(q_this, .inr (9, [.ref q_m, .ref q_saved, .ref q_w, .ref q_savedWords, .ref q_isSaved, .ref q_text, .int v_textLength, .ref q_far, .ref q_queue, .ref q_parent, .ref q_by, .ref q_seen, .ref q_path, .int v_steps, .ref q_row, .long v_missing, .ref q_more, .int v_mores, .ref q_stateOf, .long v_hash])), (q_w, .inl (cJ, 360, .inr (.inl v_w)))]
abbrev rm_Mo_isWord : Room := { frames := 0, cells := 0, slots := 0, locals := 0 }
def f_Mo_isWord_L3 (v_w : (Nat → Int64)) (x1 : Int32) (x2 : Int32) (x3 : Int64) (K rec : Int32 → Option (Int32)) (x5 : Int32) : Option (Int32) :=
 (if x2 ≤ x5 then
 (K x5)
 else
 (gIn (x1 + x5) 360
 (if (v_w (x1 + x5).toNatClampNeg) = x3 then
 (some x5)
 else
 (bnd (x5 + 1) (fun x5_1 =>
 (rec x5_1))))))
def f_Mo_isWord (x1 : Int32) (x2 : Int32) (x3 : Int64) (v_w : (Nat → Int64)) : Option (Int32) :=
 (itr (fun _ => none) (f_Mo_isWord_L3 v_w x1 x2 x3 (fun x5 =>
 (some (-1 : Int32)))) FU (0 : Int32))
abbrev ws_Mo_longest (cI cJ cZ : ClassId) (q_this q_m q_saved q_w q_savedWords q_isSaved q_text q_far q_queue q_parent q_by q_seen q_path q_row q_more q_stateOf : Nat) (v_textLength : Int32) (v_steps : Int32) (v_missing : Int64) (v_mores : Int32) (v_hash : Int64) (v_w : (Nat → Int64)) : va_W := [(q_this, .inr (9, [.ref q_m, .ref q_saved, .ref q_w, .ref q_savedWords, .ref q_isSaved, .ref q_text, .int v_textLength, .ref q_far, .ref q_queue, .ref q_parent, .ref q_by, .ref q_seen, .ref q_path, .int v_steps, .ref q_row, .long v_missing, .ref q_more, .int v_mores, .ref q_stateOf, .long v_hash])), (q_w, .inl (cJ, 360, .inr (.inl v_w)))]
abbrev rm_Mo_longest : Room := { frames := 1, cells := 0, slots := 0, locals := 24 }
def f_Mo_longest_L5 (v_w : (Nat → Int64)) (x1 : Int32) (x2 : Int32) (K rec : Int32 → Int32 → Option (Int32)) (x3 : Int32) (x4 : Int32) : Option (Int32) :=
 (if x2 ≤ x4 then
 (K x3 x4)
 else
 (gIn (x1 + x4) 360
 (bd1 (f_Mo_lengthOf (v_w (x1 + x4).toNatClampNeg)) (fun r =>
 (bnd (if r ≤ x3 then x3 else r) (fun t =>
 (bnd (x4 + 1) (fun x4_1 =>
 (rec t x4_1)))))))))
def f_Mo_longest (x1 : Int32) (x2 : Int32) (v_w : (Nat → Int64)) : Option (Int32) :=
 (itr (fun _ _ => none) (f_Mo_longest_L5 v_w x1 x2 (fun x3 x4 =>
 (some x3))) FU (0 : Int32) (0 : Int32))
abbrev ws_Mo_wants (cI cJ cZ : ClassId) (q_this q_m q_saved q_w q_savedWords q_isSaved q_text q_far q_queue q_parent q_by q_seen q_path q_row q_more q_stateOf : Nat) (v_textLength : Int32) (v_steps : Int32) (v_missing : Int64) (v_mores : Int32) (v_hash : Int64) (v_m : (Nat → Int32)) (v_w : (Nat → Int64)) (v_more : (Nat → Int64)) : va_W := [(q_this, .inr (9, [.ref q_m, .ref q_saved, .ref q_w, .ref q_savedWords, .ref q_isSaved, .ref q_text, .int v_textLength, .ref q_far, .ref q_queue, .ref q_parent, .ref q_by, .ref q_seen, .ref q_path, .int v_steps, .ref q_row, .long v_missing, .ref q_more, .int v_mores, .ref q_stateOf, .long v_hash])), (q_m, .inl (cI, 561, .inl v_m)), (q_w, .inl (cJ, 360, .inr (.inl v_w))), (q_more, .inl (cJ, 17, .inr (.inl v_more)))]
abbrev rm_Mo_wants : Room := { frames := 1, cells := 0, slots := 0, locals := 25 }
def f_Mo_wants (x1 : Int64) (x3 : Int32) (v_mores : Int32) (v_m : (Nat → Int32)) (v_w : (Nat → Int64)) (v_more : (Nat → Int64)) : Option ((Nat → Int64) × Int32) :=
 (bnd (if x3 = 0 then (304 : Int32) else (344 : Int32)) (fun t =>
 (bnd (if x3 = 0 then (v_m 38) else (v_m 39)) (fun t_1 =>
 (bd1 (f_Mo_isWord t t_1 x1 v_w) (fun r =>
 (if r = (-1 : Int32) then
 (gIn v_mores 17
 (bnd (vp_updL v_more v_mores.toNatClampNeg x1) (fun v_more_1 =>
 (bnd (v_mores + (1 : Int32)) (fun v_mores_1 =>
 (some (v_more_1, v_mores_1)))))))
 else
 (some (v_more, v_mores)))))))))
abbrev ws_Mo_fit (cI cJ cZ : ClassId) (q_this q_m q_saved q_w q_savedWords q_isSaved q_text q_far q_queue q_parent q_by q_seen q_path q_row q_more q_stateOf : Nat) (v_textLength : Int32) (v_steps : Int32) (v_missing : Int64) (v_mores : Int32) (v_hash : Int64) (v_m : (Nat → Int32)) (v_w : (Nat → Int64)) (v_more : (Nat → Int64)) : va_W := [(q_this, .inr (9, [.ref q_m, .ref q_saved, .ref q_w, .ref q_savedWords, .ref q_isSaved, .ref q_text, .int v_textLength, .ref q_far, .ref q_queue, .ref q_parent, .ref q_by, .ref q_seen, .ref q_path, .int v_steps, .ref q_row, .long v_missing, .ref q_more, .int v_mores, .ref q_stateOf, .long v_hash])), (q_m, .inl (cI, 561, .inl v_m)), (q_w, .inl (cJ, 360, .inr (.inl v_w))), (q_more, .inl (cJ, 17, .inr (.inl v_more)))]
abbrev rm_Mo_fit : Room := { frames := 2, cells := 0, slots := 0, locals := 49 }
def f_Mo_fit_J87 (rec : Int32 → Int32 → Int32 → Option (Int32)) (x2 : Int32) (x4 : Int32) (s0 : Int32) : Option (Int32) :=
 (bnd (x4 + 1) (fun x4_1 =>
 (rec x2 s0 x4_1)))
def f_Mo_fit_J86 (rec : Int32 → Int32 → Int32 → Option (Int32)) (x2 : Int32) (x3 : Int32) (x4 : Int32) : Option (Int32) :=
 (f_Mo_fit_J87 rec x2 x4 x3)
def f_Mo_fit_J70 (rec : Int32 → Int32 → Int32 → Option (Int32)) (x1 : Int32) (x3 : Int32) (x4 : Int32) (x5 : Int32) (s0 : Int32) : Option (Int32) :=
 (if x1 = 0 then
 (f_Mo_fit_J86 rec s0 x3 x4)
 else
 (if x5 ≤ x3 then
 (f_Mo_fit_J86 rec s0 x3 x4)
 else
 (f_Mo_fit_J87 rec s0 x4 x5)))
def f_Mo_fit_J69 (rec : Int32 → Int32 → Int32 → Option (Int32)) (x1 : Int32) (x2 : Int32) (x3 : Int32) (x4 : Int32) (x5 : Int32) : Option (Int32) :=
 (f_Mo_fit_J70 rec x1 x3 x4 x5 x2)
def f_Mo_fit_L33 (v_mores : Int32) (v_more : (Nat → Int64)) (x1 : Int32) (K rec : Int32 → Int32 → Int32 → Option (Int32)) (x2 : Int32) (x3 : Int32) (x4 : Int32) : Option (Int32) :=
 (if v_mores ≤ x4 then
 (K x2 x3 x4)
 else
 (gIn x4 17
 (bd1 (f_Mo_lengthOf (v_more x4.toNatClampNeg)) (fun r =>
 (if x1 = 0 then
 (if r ≤ x2 then
 (f_Mo_fit_J69 rec x1 x2 x3 x4 r)
 else
 (f_Mo_fit_J70 rec x1 x3 x4 r r))
 else
 (f_Mo_fit_J69 rec x1 x2 x3 x4 r))))))
def f_Mo_fit_J145 (x2 : Int32) (x3 : Int32) (s0 : Int32) : Option (Int32) :=
 (if s0 = 0 then
 (some (0 : Int32))
 else
 (if (16 : Int32) < ((x2 + (1 : Int32)) + x3) then
 (some (0 : Int32))
 else
 (some (1 : Int32))))
def f_Mo_fit (x1 : Int32) (v_mores : Int32) (v_m : (Nat → Int32)) (v_w : (Nat → Int64)) (v_more : (Nat → Int64)) : Option (Int32) :=
 (bd1 (f_Mo_longest (304 : Int32) (v_m 38) v_w) (fun r =>
 (bd1 (f_Mo_longest (344 : Int32) (v_m 39) v_w) (fun r_1 =>
 (itr (fun _ _ _ => none) (f_Mo_fit_L33 v_mores v_more x1 (fun x2 x3 x4 =>
 (if x1 = 0 then
 (if (40 : Int32) < ((v_m 38) + v_mores) then
 (f_Mo_fit_J145 x2 x3 (0 : Int32))
 else
 (f_Mo_fit_J145 x2 x3 (1 : Int32)))
 else
 (if (16 : Int32) < ((v_m 39) + v_mores) then
 (f_Mo_fit_J145 x2 x3 (0 : Int32))
 else
 (f_Mo_fit_J145 x2 x3 (1 : Int32)))))) FU r r_1 (0 : Int32))))))
abbrev ws_Mo_adds (cI cJ cZ : ClassId) (q_this q_m q_saved q_w q_savedWords q_isSaved q_text q_far q_queue q_parent q_by q_seen q_path q_row q_more q_stateOf : Nat) (v_textLength : Int32) (v_steps : Int32) (v_missing : Int64) (v_mores : Int32) (v_hash : Int64) (v_m : (Nat → Int32)) (v_w : (Nat → Int64)) (v_more : (Nat → Int64)) : va_W := [(q_this, .inr (9, [.ref q_m, .ref q_saved, .ref q_w, .ref q_savedWords, .ref q_isSaved, .ref q_text, .int v_textLength, .ref q_far, .ref q_queue, .ref q_parent, .ref q_by, .ref q_seen, .ref q_path, .int v_steps, .ref q_row, .long v_missing, .ref q_more, .int v_mores, .ref q_stateOf, .long v_hash])), (q_m, .inl (cI, 561, .inl v_m)), (q_w, .inl (cJ, 360, .inr (.inl v_w))), (q_more, .inl (cJ, 17, .inr (.inl v_more)))]
abbrev rm_Mo_adds : Room := { frames := 0, cells := 0, slots := 0, locals := 0 }
def f_Mo_adds_J83 (rec : Int32 → (Nat → Int32) → (Nat → Int64) → Option ((Nat → Int32) × (Nat → Int64))) (x2 : Int32) (v_m : (Nat → Int32)) (v_w : (Nat → Int64)) : Option ((Nat → Int32) × (Nat → Int64)) :=
 (bnd (upd v_m 41 (0 : Int32)) (fun v_m_1 =>
 (bnd (x2 + 1) (fun x2_1 =>
 (rec x2_1 v_m_1 v_w)))))
def f_Mo_adds_L2 (v_mores : Int32) (v_more : (Nat → Int64)) (x1 : Int32) (K rec : Int32 → (Nat → Int32) → (Nat → Int64) → Option ((Nat → Int32) × (Nat → Int64))) (x2 : Int32) (v_m : (Nat → Int32)) (v_w : (Nat → Int64)) : Option ((Nat → Int32) × (Nat → Int64)) :=
 (if v_mores ≤ x2 then
 (K x2 v_m v_w)
 else
 (if x1 = 0 then
 (gIn x2 17
 (gIn ((304 : Int32) + (v_m 38)) 360
 (bnd (vp_updL v_w ((304 : Int32) + (v_m 38)).toNatClampNeg (v_more x2.toNatClampNeg)) (fun v_w_1 =>
 (bnd (upd v_m 38 ((v_m 38) + (1 : Int32))) (fun v_m_1 =>
 (f_Mo_adds_J83 rec x2 v_m_1 v_w_1)))))))
 else
 (gIn x2 17
 (gIn ((344 : Int32) + (v_m 39)) 360
 (bnd (vp_updL v_w ((344 : Int32) + (v_m 39)).toNatClampNeg (v_more x2.toNatClampNeg)) (fun v_w_2 =>
 (bnd (upd v_m 39 ((v_m 39) + (1 : Int32))) (fun v_m_2 =>
 (f_Mo_adds_J83 rec x2 v_m_2 v_w_2)))))))))
def f_Mo_adds (x1 : Int32) (v_mores : Int32) (v_m : (Nat → Int32)) (v_w : (Nat → Int64)) (v_more : (Nat → Int64)) : Option ((Nat → Int32) × (Nat → Int64)) :=
 (itr (fun _ _ _ => none) (f_Mo_adds_L2 v_mores v_more x1 (fun x2 v_m_1 v_w_1 =>
 (some (v_m_1, v_w_1)))) FU (0 : Int32) v_m v_w)
abbrev ws_Mo_rowOfPrefix (cI cJ cZ : ClassId) (q_this q_m q_saved q_w q_savedWords q_isSaved q_text q_far q_queue q_parent q_by q_seen q_path q_row q_more q_stateOf : Nat) (v_textLength : Int32) (v_steps : Int32) (v_missing : Int64) (v_mores : Int32) (v_hash : Int64) (v_m : (Nat → Int32)) (v_row : (Nat → Int32)) : va_W := [(q_this, .inr (9, [.ref q_m, .ref q_saved, .ref q_w, .ref q_savedWords, .ref q_isSaved, .ref q_text, .int v_textLength, .ref q_far, .ref q_queue, .ref q_parent, .ref q_by, .ref q_seen, .ref q_path, .int v_steps, .ref q_row, .long v_missing, .ref q_more, .int v_mores, .ref q_stateOf, .long v_hash])), (q_m, .inl (cI, 561, .inl v_m)), (q_row, .inl (cI, 160, .inl v_row))]
abbrev rm_Mo_rowOfPrefix : Room := { frames := 0, cells := 0, slots := 0, locals := 0 }
def f_Mo_rowOfPrefix_L2 (v_m : (Nat → Int32)) (v_row : (Nat → Int32)) (x1 : Int32) (K rec : Int32 → Option (Int32)) (x2 : Int32) : Option (Int32) :=
 (if (v_m 38) ≤ x2 then
 (K x2)
 else
 (gIn x2 160
 (if (v_row x2.toNatClampNeg) = x1 then
 (some x2)
 else
 (bnd (x2 + 1) (fun x2_1 =>
 (rec x2_1))))))
def f_Mo_rowOfPrefix (x1 : Int32) (v_m : (Nat → Int32)) (v_row : (Nat → Int32)) : Option (Int32) :=
 (itr (fun _ => none) (f_Mo_rowOfPrefix_L2 v_m v_row x1 (fun x2 =>
 (some (-1 : Int32)))) FU (0 : Int32))
abbrev ws_Mo_open (cI cJ cZ : ClassId) (q_this q_m q_saved q_w q_savedWords q_isSaved q_text q_far q_queue q_parent q_by q_seen q_path q_row q_more q_stateOf : Nat) (v_textLength : Int32) (v_steps : Int32) (v_missing : Int64) (v_mores : Int32) (v_hash : Int64) (v_m : (Nat → Int32)) (v_row : (Nat → Int32)) : va_W := [(q_this, .inr (9, [.ref q_m, .ref q_saved, .ref q_w, .ref q_savedWords, .ref q_isSaved, .ref q_text, .int v_textLength, .ref q_far, .ref q_queue, .ref q_parent, .ref q_by, .ref q_seen, .ref q_path, .int v_steps, .ref q_row, .long v_missing, .ref q_more, .int v_mores, .ref q_stateOf, .long v_hash])), (q_m, .inl (cI, 561, .inl v_m)), (q_row, .inl (cI, 160, .inl v_row))]
abbrev rm_Mo_open : Room := { frames := 1, cells := 0, slots := 0, locals := 22 }
def f_Mo_open_L8 (v_m : (Nat → Int32)) (v_row : (Nat → Int32)) (K rec : Int32 → Option (Int32)) (x1 : Int32) : Option (Int32) :=
 (if ((v_m 38) * ((1 : Int32) + (v_m 1))) ≤ x1 then
 (K x1)
 else
 (gIn x1 160
 (bd1 (f_Mo_rowOfPrefix (v_row x1.toNatClampNeg) v_m v_row) (fun r =>
 (if r = (-1 : Int32) then
 (some x1)
 else
 (bnd (x1 + 1) (fun x1_1 =>
 (rec x1_1))))))))
def f_Mo_open (v_m : (Nat → Int32)) (v_row : (Nat → Int32)) : Option (Int32) :=
 (bnd (v_m 38) (fun x1 =>
 (itr (fun _ => none) (f_Mo_open_L8 v_m v_row (fun x1_1 =>
 (some (-1 : Int32)))) FU x1)))
abbrev ws_Mo_isInconsistent (cI cJ cZ : ClassId) (q_this q_m q_saved q_w q_savedWords q_isSaved q_text q_far q_queue q_parent q_by q_seen q_path q_row q_more q_stateOf : Nat) (v_textLength : Int32) (v_steps : Int32) (v_missing : Int64) (v_mores : Int32) (v_hash : Int64) (v_m : (Nat → Int32)) (v_w : (Nat → Int64)) (v_row : (Nat → Int32)) (v_more : (Nat → Int64)) : va_W := [(q_this, .inr (9, [.ref q_m, .ref q_saved, .ref q_w, .ref q_savedWords, .ref q_isSaved, .ref q_text, .int v_textLength, .ref q_far, .ref q_queue, .ref q_parent, .ref q_by, .ref q_seen, .ref q_path, .int v_steps, .ref q_row, .long v_missing, .ref q_more, .int v_mores, .ref q_stateOf, .long v_hash])), (q_m, .inl (cI, 561, .inl v_m)), (q_w, .inl (cJ, 360, .inr (.inl v_w))), (q_row, .inl (cI, 160, .inl v_row)), (q_more, .inl (cJ, 17, .inr (.inl v_more)))]
abbrev rm_Mo_isInconsistent : Room := { frames := 2, cells := 0, slots := 0, locals := 48 }
def f_Mo_isInconsistent_L88 (x4 : Int32) (K rec : Int32 → Option (Int32 × (Nat → Int64) × Int32)) (x5 : Int32) : Option (Int32 × (Nat → Int64) × Int32) :=
 (if ((x4 >>> (x5 &&& 31)) &&& (1 : Int32)) = 0 then
 (bnd (x5 + 1) (fun x5_1 =>
 (rec x5_1)))
 else
 (K x5))
def f_Mo_isInconsistent_L30 (v_m : (Nat → Int32)) (v_w : (Nat → Int64)) (v_row : (Nat → Int32)) (v_more : (Nat → Int64)) (x1 : Int32) (x2 : Int32) (K rec : Int32 → Option (Int32 × (Nat → Int64) × Int32)) (x3 : Int32) : Option (Int32 × (Nat → Int64) × Int32) :=
 (if (v_m 1) ≤ x3 then
 (K x3)
 else
 (gIn x1 160
 (gIn x2 160
 (if (v_row x1.toNatClampNeg) = (v_row x2.toNatClampNeg) then
 (bd1 (f_Mo_extension x1 x3 v_m) (fun r =>
 (gIn r 160
 (bd1 (f_Mo_extension x2 x3 v_m) (fun r_1 =>
 (gIn r_1 160
 (bnd ((v_row r.toNatClampNeg) ^^^ (v_row r_1.toNatClampNeg)) (fun x4 =>
 (if x4 = 0 then
 (bnd (x3 + 1) (fun x3_1 =>
 (rec x3_1)))
 else
 (itr (fun _ => none) (f_Mo_isInconsistent_L88 x4 (fun x5 =>
 (bd1 (f_Mo_longer (0 : Int64) x3) (fun r_2 =>
 (gIn ((344 : Int32) + x5) 360
 (bd1 (f_Mo_joined r_2 (v_w ((344 : Int32) + x5).toNatClampNeg)) (fun r_3 =>
 (bd2 (f_Mo_wants r_3 (1 : Int32) (0 : Int32) v_m v_w v_more) (fun v_more_1 v_mores_1 =>
 (some ((1 : Int32), v_more_1, v_mores_1))))))))))) FU (0 : Int32)))))))))))
 else
 (K x3)))))
def f_Mo_isInconsistent_L17 (v_m : (Nat → Int32)) (v_w : (Nat → Int64)) (v_row : (Nat → Int32)) (v_more : (Nat → Int64)) (x1 : Int32) (K rec : Int32 → Option (Int32 × (Nat → Int64) × Int32)) (x2 : Int32) : Option (Int32 × (Nat → Int64) × Int32) :=
 (if (v_m 38) ≤ x2 then
 (K x2)
 else
 (itr (fun _ => none) (f_Mo_isInconsistent_L30 v_m v_w v_row v_more x1 x2 (fun x3 =>
 (bnd (x2 + 1) (fun x2_1 =>
 (rec x2_1))))) FU (0 : Int32)))
def f_Mo_isInconsistent_L2 (v_m : (Nat → Int32)) (v_w : (Nat → Int64)) (v_row : (Nat → Int32)) (v_more : (Nat → Int64)) (K rec : Int32 → Option (Int32 × (Nat → Int64) × Int32)) (x1 : Int32) : Option (Int32 × (Nat → Int64) × Int32) :=
 (if (v_m 38) ≤ x1 then
 (K x1)
 else
 (bnd (x1 + (1 : Int32)) (fun x2 =>
 (itr (fun _ => none) (f_Mo_isInconsistent_L17 v_m v_w v_row v_more x1 (fun x2_1 =>
 (bnd (x1 + 1) (fun x1_1 =>
 (rec x1_1))))) FU x2))))
def f_Mo_isInconsistent (v_mores : Int32) (v_m : (Nat → Int32)) (v_w : (Nat → Int64)) (v_row : (Nat → Int32)) (v_more : (Nat → Int64)) : Option (Int32 × (Nat → Int64) × Int32) :=
 (itr (fun _ => none) (f_Mo_isInconsistent_L2 v_m v_w v_row v_more (fun x1 =>
 (some ((0 : Int32), v_more, v_mores)))) FU (0 : Int32))
abbrev ws_Mo_forms (cI cJ cZ : ClassId) (q_this q_m q_saved q_w q_savedWords q_isSaved q_text q_far q_queue q_parent q_by q_seen q_path q_row q_more q_stateOf : Nat) (v_textLength : Int32) (v_steps : Int32) (v_missing : Int64) (v_mores : Int32) (v_hash : Int64) (v_m : (Nat → Int32)) (v_row : (Nat → Int32)) (v_stateOf : (Nat → Int32)) : va_W := [(q_this, .inr (9, [.ref q_m, .ref q_saved, .ref q_w, .ref q_savedWords, .ref q_isSaved, .ref q_text, .int v_textLength, .ref q_far, .ref q_queue, .ref q_parent, .ref q_by, .ref q_seen, .ref q_path, .int v_steps, .ref q_row, .long v_missing, .ref q_more, .int v_mores, .ref q_stateOf, .long v_hash])), (q_m, .inl (cI, 561, .inl v_m)), (q_row, .inl (cI, 160, .inl v_row)), (q_stateOf, .inl (cI, 40, .inl v_stateOf))]
abbrev rm_Mo_forms : Room := { frames := 1, cells := 0, slots := 0, locals := 22 }
def f_Mo_forms_J84 (rec : Int32 → Int32 → (Nat → Int32) → (Nat → Int32) → Option ((Nat → Int32) × (Nat → Int32))) (x1 : Int32) (x2 : Int32) (v_m : (Nat → Int32)) (v_stateOf : (Nat → Int32)) : Option ((Nat → Int32) × (Nat → Int32)) :=
 (bnd (x2 + 1) (fun x2_1 =>
 (rec x1 x2_1 v_m v_stateOf)))
def f_Mo_forms_J46 (rec : Int32 → Int32 → (Nat → Int32) → (Nat → Int32) → Option ((Nat → Int32) × (Nat → Int32))) (x1 : Int32) (x2 : Int32) (x3 : Int32) (s1 : Int32) (s2 : Int32) (v_m : (Nat → Int32)) (v_row : (Nat → Int32)) (v_stateOf : (Nat → Int32)) : Option ((Nat → Int32) × (Nat → Int32)) :=
 (gIn s1 40
 (bnd (upd v_stateOf s1.toNatClampNeg s2) (fun v_stateOf_1 =>
 (if x3 = x2 then
 (gIn ((521 : Int32) + x1) 561
 (bnd (upd v_m ((521 : Int32) + x1).toNatClampNeg x2) (fun v_m_1 =>
 (gIn x2 160
 (gIn ((481 : Int32) + x1) 561
 (bnd (upd v_m_1 ((481 : Int32) + x1).toNatClampNeg ((v_row x2.toNatClampNeg) &&& (1 : Int32))) (fun v_m_2 =>
 (bnd (x1 + 1) (fun x1_1 =>
 (f_Mo_forms_J84 rec x1_1 x2 v_m_2 v_stateOf_1))))))))))
 else
 (f_Mo_forms_J84 rec x1 x2 v_m v_stateOf_1)))))
def f_Mo_forms_L4 (v_row : (Nat → Int32)) (K rec : Int32 → Int32 → (Nat → Int32) → (Nat → Int32) → Option ((Nat → Int32) × (Nat → Int32))) (x1 : Int32) (x2 : Int32) (v_m : (Nat → Int32)) (v_stateOf : (Nat → Int32)) : Option ((Nat → Int32) × (Nat → Int32)) :=
 (if (v_m 38) ≤ x2 then
 (K x1 x2 v_m v_stateOf)
 else
 (gIn x2 160
 (bd1 (f_Mo_rowOfPrefix (v_row x2.toNatClampNeg) v_m v_row) (fun r =>
 (if r = x2 then
 (f_Mo_forms_J46 rec x1 x2 r x2 x1 v_m v_row v_stateOf)
 else
 (gIn r 40
 (f_Mo_forms_J46 rec x1 x2 r x2 (v_stateOf r.toNatClampNeg) v_m v_row v_stateOf)))))))
def f_Mo_forms_L99 (v_row : (Nat → Int32)) (v_stateOf : (Nat → Int32)) (x2 : Int32) (K rec : Int32 → (Nat → Int32) → Option ((Nat → Int32) × (Nat → Int32))) (x3 : Int32) (v_m : (Nat → Int32)) : Option ((Nat → Int32) × (Nat → Int32)) :=
 (if (v_m 1) ≤ x3 then
 (K x3 v_m)
 else
 (gIn ((521 : Int32) + x2) 561
 (bd1 (f_Mo_extension (v_m ((521 : Int32) + x2).toNatClampNeg) x3 v_m) (fun r =>
 (gIn r 160
 (bd1 (f_Mo_rowOfPrefix (v_row r.toNatClampNeg) v_m v_row) (fun r_1 =>
 (gIn r_1 40
 (gIn (((361 : Int32) + ((3 : Int32) * x2)) + x3) 561
 (bnd (upd v_m (((361 : Int32) + ((3 : Int32) * x2)) + x3).toNatClampNeg (v_stateOf r_1.toNatClampNeg)) (fun v_m_1 =>
 (bnd (x3 + 1) (fun x3_1 =>
 (rec x3_1 v_m_1))))))))))))))
def f_Mo_forms_L92 (v_row : (Nat → Int32)) (v_stateOf : (Nat → Int32)) (x1 : Int32) (K rec : Int32 → (Nat → Int32) → Option ((Nat → Int32) × (Nat → Int32))) (x2 : Int32) (v_m : (Nat → Int32)) : Option ((Nat → Int32) × (Nat → Int32)) :=
 (if x1 ≤ x2 then
 (K x2 v_m)
 else
 (itr (fun _ _ => none) (f_Mo_forms_L99 v_row v_stateOf x2 (fun x3 v_m_1 =>
 (bnd (x2 + 1) (fun x2_1 =>
 (rec x2_1 v_m_1))))) FU (0 : Int32) v_m))
def f_Mo_forms (v_m : (Nat → Int32)) (v_row : (Nat → Int32)) (v_stateOf : (Nat → Int32)) : Option ((Nat → Int32) × (Nat → Int32)) :=
 (itr (fun _ _ _ _ => none) (f_Mo_forms_L4 v_row (fun x1 x2 v_m_1 v_stateOf_1 =>
 (itr (fun _ _ => none) (f_Mo_forms_L92 v_row v_stateOf_1 x1 (fun x2_1 v_m_2 =>
 (bnd (upd v_m_2 40 x1) (fun v_m_3 =>
 (bnd (upd v_m_3 41 (1 : Int32)) (fun v_m_4 =>
 (some (v_m_4, v_stateOf_1)))))))) FU (0 : Int32) v_m_1))) FU (0 : Int32) (0 : Int32) v_m v_stateOf)
abbrev ws_Mo_firstLetters (cI cJ cZ : ClassId) (q_this q_m q_saved q_w q_savedWords q_isSaved q_text q_far q_queue q_parent q_by q_seen q_path q_row q_more q_stateOf : Nat) (v_textLength : Int32) (v_steps : Int32) (v_missing : Int64) (v_mores : Int32) (v_hash : Int64) (v_path : (Nat → Int32)) : va_W := [(q_this, .inr (9, [.ref q_m, .ref q_saved, .ref q_w, .ref q_savedWords, .ref q_isSaved, .ref q_text, .int v_textLength, .ref q_far, .ref q_queue, .ref q_parent, .ref q_by, .ref q_seen, .ref q_path, .int v_steps, .ref q_row, .long v_missing, .ref q_more, .int v_mores, .ref q_stateOf, .long v_hash])), (q_path, .inl (cI, 320, .inl v_path))]
abbrev rm_Mo_firstLetters : Room := { frames := 1, cells := 0, slots := 0, locals := 22 }
def f_Mo_firstLetters_L5 (v_path : (Nat → Int32)) (x1 : Int32) (K rec : Int64 → Int32 → Option (Int64)) (x2 : Int64) (x4 : Int32) : Option (Int64) :=
 (if x1 ≤ x4 then
 (K x2 x4)
 else
 (gIn x4 320
 (bd1 (f_Mo_longer x2 (v_path x4.toNatClampNeg)) (fun r =>
 (bnd (x4 + 1) (fun x4_1 =>
 (rec r x4_1)))))))
def f_Mo_firstLetters (x1 : Int32) (v_path : (Nat → Int32)) : Option (Int64) :=
 (itr (fun _ _ => none) (f_Mo_firstLetters_L5 v_path x1 (fun x2 x4 =>
 (some x2))) FU (0 : Int64) (0 : Int32))
abbrev ws_Mo_lastLetters (cI cJ cZ : ClassId) (q_this q_m q_saved q_w q_savedWords q_isSaved q_text q_far q_queue q_parent q_by q_seen q_path q_row q_more q_stateOf : Nat) (v_textLength : Int32) (v_steps : Int32) (v_missing : Int64) (v_mores : Int32) (v_hash : Int64) (v_path : (Nat → Int32)) : va_W := [(q_this, .inr (9, [.ref q_m, .ref q_saved, .ref q_w, .ref q_savedWords, .ref q_isSaved, .ref q_text, .int v_textLength, .ref q_far, .ref q_queue, .ref q_parent, .ref q_by, .ref q_seen, .ref q_path, .int v_steps, .ref q_row, .long v_missing, .ref q_more, .int v_mores, .ref q_stateOf, .long v_hash])), (q_path, .inl (cI, 320, .inl v_path))]
abbrev rm_Mo_lastLetters : Room := { frames := 1, cells := 0, slots := 0, locals := 22 }
def f_Mo_lastLetters_L10 (v_steps : Int32) (v_path : (Nat → Int32)) (K rec : Int64 → Int32 → Option (Int64)) (x2 : Int64) (x4 : Int32) : Option (Int64) :=
 (if v_steps ≤ x4 then
 (K x2 x4)
 else
 (gIn x4 320
 (bd1 (f_Mo_longer x2 (v_path x4.toNatClampNeg)) (fun r =>
 (bnd (x4 + 1) (fun x4_1 =>
 (rec r x4_1)))))))
def f_Mo_lastLetters (x1 : Int32) (v_steps : Int32) (v_path : (Nat → Int32)) : Option (Int64) :=
 (bnd (v_steps - x1) (fun x4 =>
 (itr (fun _ _ => none) (f_Mo_lastLetters_L10 v_steps v_path (fun x2 x4_1 =>
 (some x2))) FU (0 : Int64) x4)))
abbrev ws_Mo_question (cI cJ cZ : ClassId) (q_this q_m q_saved q_w q_savedWords q_isSaved q_text q_far q_queue q_parent q_by q_seen q_path q_row q_more q_stateOf : Nat) (v_textLength : Int32) (v_steps : Int32) (v_missing : Int64) (v_mores : Int32) (v_hash : Int64) (v_m : (Nat → Int32)) (v_w : (Nat → Int64)) (v_path : (Nat → Int32)) : va_W := [(q_this, .inr (9, [.ref q_m, .ref q_saved, .ref q_w, .ref q_savedWords, .ref q_isSaved, .ref q_text, .int v_textLength, .ref q_far, .ref q_queue, .ref q_parent, .ref q_by, .ref q_seen, .ref q_path, .int v_steps, .ref q_row, .long v_missing, .ref q_more, .int v_mores, .ref q_stateOf, .long v_hash])), (q_m, .inl (cI, 561, .inl v_m)), (q_w, .inl (cJ, 360, .inr (.inl v_w))), (q_path, .inl (cI, 320, .inl v_path))]
abbrev rm_Mo_question : Room := { frames := 4, cells := 0, slots := 0, locals := 96 }
def f_Mo_question_L4 (v_m : (Nat → Int32)) (v_path : (Nat → Int32)) (x1 : Int32) (K rec : Int32 → Int32 → Option (Int32 × (Nat → Int32) × (Nat → Int64))) (x2 : Int32) (x3 : Int32) : Option (Int32 × (Nat → Int32) × (Nat → Int64)) :=
 (if x1 ≤ x3 then
 (K x2 x3)
 else
 (gIn x3 320
 (gIn (((361 : Int32) + ((3 : Int32) * x2)) + (v_path x3.toNatClampNeg)) 561
 (bnd (v_m (((361 : Int32) + ((3 : Int32) * x2)) + (v_path x3.toNatClampNeg)).toNatClampNeg) (fun x2_1 =>
 (bnd (x3 + 1) (fun x3_1 =>
 (rec x2_1 x3_1))))))))
def f_Mo_question (x1 : Int32) (v_steps : Int32) (v_m : (Nat → Int32)) (v_w : (Nat → Int64)) (v_path : (Nat → Int32)) : Option (Int32 × (Nat → Int32) × (Nat → Int64)) :=
 (itr (fun _ _ => none) (f_Mo_question_L4 v_m v_path x1 (fun x2 x3 =>
 (gIn ((521 : Int32) + x2) 561
 (gIn ((304 : Int32) + (v_m ((521 : Int32) + x2).toNatClampNeg)) 360
 (bnd (v_w ((304 : Int32) + (v_m ((521 : Int32) + x2).toNatClampNeg)).toNatClampNeg) (fun x3_1 =>
 (bd1 (f_Mo_lengthOf x3_1) (fun r =>
 (if ((r + v_steps) - x1) ≤ (16 : Int32) then
 (bd1 (f_Mo_lastLetters (v_steps - x1) v_steps v_path) (fun r_1 =>
 (bd1 (f_Mo_joined x3_1 r_1) (fun r_2 =>
 (bd3 (f_Mo_asks r_2 v_m v_w) (fun r_3 v_m_1 v_w_1 =>
 (some (r_3, v_m_1, v_w_1))))))))
 else
 (some ((-5 : Int32), v_m, v_w))))))))))) FU (0 : Int32) (0 : Int32))
abbrev ws_Mo_halves (cI cJ cZ : ClassId) (q_this q_m q_saved q_w q_savedWords q_isSaved q_text q_far q_queue q_parent q_by q_seen q_path q_row q_more q_stateOf : Nat) (v_textLength : Int32) (v_steps : Int32) (v_missing : Int64) (v_mores : Int32) (v_hash : Int64) (v_m : (Nat → Int32)) (v_w : (Nat → Int64)) (v_path : (Nat → Int32)) : va_W := [(q_this, .inr (9, [.ref q_m, .ref q_saved, .ref q_w, .ref q_savedWords, .ref q_isSaved, .ref q_text, .int v_textLength, .ref q_far, .ref q_queue, .ref q_parent, .ref q_by, .ref q_seen, .ref q_path, .int v_steps, .ref q_row, .long v_missing, .ref q_more, .int v_mores, .ref q_stateOf, .long v_hash])), (q_m, .inl (cI, 561, .inl v_m)), (q_w, .inl (cJ, 360, .inr (.inl v_w))), (q_path, .inl (cI, 320, .inl v_path))]
abbrev rm_Mo_halves : Room := { frames := 5, cells := 0, slots := 0, locals := 120 }
def f_Mo_halves_L13 (v_steps : Int32) (v_path : (Nat → Int32)) (x1 : Int32) (K rec : Int32 → Int32 → (Nat → Int32) → (Nat → Int64) → Option (Int32 × (Nat → Int32) × (Nat → Int64))) (x2 : Int32) (x3 : Int32) (v_m : (Nat → Int32)) (v_w : (Nat → Int64)) : Option (Int32 × (Nat → Int32) × (Nat → Int64)) :=
 (if x1 < 0 then
 (K x2 x3 v_m v_w)
 else
 (if (x3 - x2) ≤ (1 : Int32) then
 (K x2 x3 v_m v_w)
 else
 (bnd ((x2 + x3) / (2 : Int32)) (fun x4 =>
 (bd3 (f_Mo_question x4 v_steps v_m v_w v_path) (fun r v_m_1 v_w_1 =>
 (if 0 ≤ r then
 (bnd (if r = x1 then x4 else x2) (fun t =>
 (bnd (if r = x1 then x3 else x4) (fun t_1 =>
 (rec t t_1 v_m_1 v_w_1)))))
 else
 (some (r, v_m_1, v_w_1)))))))))
def f_Mo_halves (v_steps : Int32) (v_m : (Nat → Int32)) (v_w : (Nat → Int64)) (v_path : (Nat → Int32)) : Option (Int32 × (Nat → Int32) × (Nat → Int64)) :=
 (bd3 (f_Mo_question (0 : Int32) v_steps v_m v_w v_path) (fun r v_m_1 v_w_1 =>
 (itr (fun _ _ _ _ => none) (f_Mo_halves_L13 v_steps v_path r (fun x2 x3 v_m_2 v_w_2 =>
 (bnd (if 0 ≤ r then x3 else r) (fun t =>
 (some (t, v_m_2, v_w_2)))))) FU (0 : Int32) v_steps v_m_1 v_w_1)))
abbrev ws_Mo_uses (cI cJ cZ : ClassId) (q_this q_m q_saved q_w q_savedWords q_isSaved q_text q_far q_queue q_parent q_by q_seen q_path q_row q_more q_stateOf : Nat) (v_textLength : Int32) (v_steps : Int32) (v_missing : Int64) (v_mores : Int32) (v_hash : Int64) (v_m : (Nat → Int32)) (v_w : (Nat → Int64)) (v_path : (Nat → Int32)) (v_more : (Nat → Int64)) : va_W := [(q_this, .inr (9, [.ref q_m, .ref q_saved, .ref q_w, .ref q_savedWords, .ref q_isSaved, .ref q_text, .int v_textLength, .ref q_far, .ref q_queue, .ref q_parent, .ref q_by, .ref q_seen, .ref q_path, .int v_steps, .ref q_row, .long v_missing, .ref q_more, .int v_mores, .ref q_stateOf, .long v_hash])), (q_m, .inl (cI, 561, .inl v_m)), (q_w, .inl (cJ, 360, .inr (.inl v_w))), (q_path, .inl (cI, 320, .inl v_path)), (q_more, .inl (cJ, 17, .inr (.inl v_more)))]
abbrev rm_Mo_uses : Room := { frames := 6, cells := 0, slots := 0, locals := 145 }
def f_Mo_uses_J101 (rec : Int32 → (Nat → Int64) → Int32 → Option (Int32 × (Nat → Int32) × (Nat → Int64) × (Nat → Int64) × Int32)) (x1 : Int32) (x2 : Int32) (s1 : Int64) (v_mores : Int32) (v_m : (Nat → Int32)) (v_w : (Nat → Int64)) (v_more : (Nat → Int64)) : Option (Int32 × (Nat → Int32) × (Nat → Int64) × (Nat → Int64) × Int32) :=
 (bd2 (f_Mo_wants s1 x1 v_mores v_m v_w v_more) (fun v_more_1 v_mores_1 =>
 (bnd (x2 + 1) (fun x2_1 =>
 (rec x2_1 v_more_1 v_mores_1)))))
def f_Mo_uses_L75 (v_steps : Int32) (v_m : (Nat → Int32)) (v_w : (Nat → Int64)) (v_path : (Nat → Int32)) (x1 : Int32) (K rec : Int32 → (Nat → Int64) → Int32 → Option (Int32 × (Nat → Int32) × (Nat → Int64) × (Nat → Int64) × Int32)) (x2 : Int32) (v_more : (Nat → Int64)) (v_mores : Int32) : Option (Int32 × (Nat → Int32) × (Nat → Int64) × (Nat → Int64) × Int32) :=
 (if v_steps < x2 then
 (K x2 v_more v_mores)
 else
 (if x1 = 0 then
 (bd1 (f_Mo_firstLetters x2 v_path) (fun r =>
 (f_Mo_uses_J101 rec x1 x2 r v_mores v_m v_w v_more)))
 else
 (bd1 (f_Mo_lastLetters x2 v_steps v_path) (fun r_1 =>
 (f_Mo_uses_J101 rec x1 x2 r_1 v_mores v_m v_w v_more)))))
def f_Mo_uses_L147 (v_steps : Int32) (v_path : (Nat → Int32)) (K rec : Int32 → (Nat → Int32) → Option (Int32 × (Nat → Int32) × (Nat → Int64) × (Nat → Int64) × Int32)) (x2 : Int32) (v_m : (Nat → Int32)) : Option (Int32 × (Nat → Int32) × (Nat → Int64) × (Nat → Int64) × Int32) :=
 (if v_steps ≤ x2 then
 (K x2 v_m)
 else
 (gIn x2 320
 (gIn ((345 : Int32) + x2) 561
 (bnd (upd v_m ((345 : Int32) + x2).toNatClampNeg (v_path x2.toNatClampNeg)) (fun v_m_1 =>
 (bnd (x2 + 1) (fun x2_1 =>
 (rec x2_1 v_m_1))))))))
def f_Mo_uses_J129 (x1 : Int32) (v_steps : Int32) (v_mores : Int32) (v_m : (Nat → Int32)) (v_w : (Nat → Int64)) (v_path : (Nat → Int32)) (v_more : (Nat → Int64)) : Option (Int32 × (Nat → Int32) × (Nat → Int64) × (Nat → Int64) × Int32) :=
 (bd2 (f_Mo_adds x1 v_mores v_m v_w v_more) (fun v_m_1 v_w_1 =>
 (bnd (upd v_m_1 44 v_steps) (fun v_m_2 =>
 (itr (fun _ _ => none) (f_Mo_uses_L147 v_steps v_path (fun x2 v_m_3 =>
 (bnd (upd v_m_3 42 ((v_m_3 42) + (1 : Int32))) (fun v_m_4 =>
 (bnd (if v_mores = 0 then (1 : Int32) else (0 : Int32)) (fun t =>
 (bnd (upd v_m_4 43 t) (fun v_m_5 =>
 (bnd (if v_mores = 0 then (7 : Int32) else (5 : Int32)) (fun t_1 =>
 (some (t_1, v_m_5, v_w_1, v_more, v_mores)))))))))))) FU (0 : Int32) v_m_2)))))
def f_Mo_uses_J111 (x1 : Int32) (v_steps : Int32) (v_mores : Int32) (v_m : (Nat → Int32)) (v_w : (Nat → Int64)) (v_path : (Nat → Int32)) (v_more : (Nat → Int64)) : Option (Int32 × (Nat → Int32) × (Nat → Int64) × (Nat → Int64) × Int32) :=
 (if v_mores ≤ 0 then
 (f_Mo_uses_J129 x1 v_steps v_mores v_m v_w v_path v_more)
 else
 (bd1 (f_Mo_fit x1 v_mores v_m v_w v_more) (fun r =>
 (if r = 0 then
 (some ((-5 : Int32), v_m, v_w, v_more, v_mores))
 else
 (f_Mo_uses_J129 x1 v_steps v_mores v_m v_w v_path v_more)))))
def f_Mo_uses (v_steps : Int32) (v_mores : Int32) (v_m : (Nat → Int32)) (v_w : (Nat → Int64)) (v_path : (Nat → Int32)) (v_more : (Nat → Int64)) : Option (Int32 × (Nat → Int32) × (Nat → Int64) × (Nat → Int64) × Int32) :=
 (if v_steps ≤ (16 : Int32) then
 (bnd (if (v_m 35) ≤ 0 then (0 : Int32) else (1 : Int32)) (fun t =>
 (if (v_m 35) = (1 : Int32) then
 (bd3 (f_Mo_halves v_steps v_m v_w v_path) (fun r v_m_1 v_w_1 =>
 (if 0 ≤ r then
 (bd1 (f_Mo_lastLetters (v_steps - r) v_steps v_path) (fun r_1 =>
 (bd2 (f_Mo_wants r_1 (1 : Int32) (0 : Int32) v_m_1 v_w_1 v_more) (fun v_more_2 v_mores_2 =>
 (f_Mo_uses_J111 t v_steps v_mores_2 v_m_1 v_w_1 v_path v_more_2)))))
 else
 (some (r, v_m_1, v_w_1, v_more, (0 : Int32))))))
 else
 (itr (fun _ _ _ => none) (f_Mo_uses_L75 v_steps v_m v_w v_path t (fun x2 v_more_1 v_mores_1 =>
 (f_Mo_uses_J111 t v_steps v_mores_1 v_m v_w v_path v_more_1))) FU (0 : Int32) v_more (0 : Int32)))))
 else
 (some ((-5 : Int32), v_m, v_w, v_more, v_mores)))
abbrev ws_Mo_step (cI cJ cZ : ClassId) (q_this q_m q_saved q_w q_savedWords q_isSaved q_text q_far q_queue q_parent q_by q_seen q_path q_row q_more q_stateOf : Nat) (v_textLength : Int32) (v_steps : Int32) (v_missing : Int64) (v_mores : Int32) (v_hash : Int64) (v_m : (Nat → Int32)) (v_w : (Nat → Int64)) (v_queue : (Nat → Int32)) (v_parent : (Nat → Int32)) (v_by : (Nat → Int32)) (v_seen : (Nat → Int32)) (v_path : (Nat → Int32)) (v_row : (Nat → Int32)) (v_more : (Nat → Int64)) (v_stateOf : (Nat → Int32)) : va_W := [(q_this, .inr (9, [.ref q_m, .ref q_saved, .ref q_w, .ref q_savedWords, .ref q_isSaved, .ref q_text, .int v_textLength, .ref q_far, .ref q_queue, .ref q_parent, .ref q_by, .ref q_seen, .ref q_path, .int v_steps, .ref q_row, .long v_missing, .ref q_more, .int v_mores, .ref q_stateOf, .long v_hash])), (q_m, .inl (cI, 561, .inl v_m)), (q_w, .inl (cJ, 360, .inr (.inl v_w))), (q_queue, .inl (cI, 320, .inl v_queue)), (q_parent, .inl (cI, 320, .inl v_parent)), (q_by, .inl (cI, 320, .inl v_by)), (q_seen, .inl (cZ, 320, .inl v_seen)), (q_path, .inl (cI, 320, .inl v_path)), (q_row, .inl (cI, 160, .inl v_row)), (q_more, .inl (cJ, 17, .inr (.inl v_more))), (q_stateOf, .inl (cI, 40, .inl v_stateOf))]
abbrev rm_Mo_step : Room := { frames := 7, cells := 0, slots := 0, locals := 167 }
def f_Mo_step (v_steps : Int32) (v_missing : Int64) (v_mores : Int32) (v_m : (Nat → Int32)) (v_w : (Nat → Int64)) (v_queue : (Nat → Int32)) (v_parent : (Nat → Int32)) (v_by : (Nat → Int32)) (v_seen : (Nat → Int32)) (v_path : (Nat → Int32)) (v_row : (Nat → Int32)) (v_more : (Nat → Int64)) (v_stateOf : (Nat → Int32)) : Option (Int32 × (Nat → Int32) × (Nat → Int64) × (Nat → Int32) × (Nat → Int32) × (Nat → Int32) × (Nat → Int32) × (Nat → Int32) × Int32 × (Nat → Int32) × Int64 × (Nat → Int64) × Int32 × (Nat → Int32)) :=
 (if (v_m 43) = (1 : Int32) then
 (some ((7 : Int32), v_m, v_w, v_queue, v_parent, v_by, v_seen, v_path, v_steps, v_row, v_missing, v_more, v_mores, v_stateOf))
 else
 (bd3 (f_Mo_fills v_missing v_m v_w v_row) (fun r v_row_1 v_missing_1 =>
 (if r = 0 then
 (bd3 (f_Mo_asks v_missing_1 v_m v_w) (fun r_8 v_m_5 v_w_4 =>
 (bnd (if r_8 = (-4 : Int32) then (-4 : Int32) else (1 : Int32)) (fun t =>
 (some (t, v_m_5, v_w_4, v_queue, v_parent, v_by, v_seen, v_path, v_steps, v_row_1, v_missing_1, v_more, v_mores, v_stateOf))))))
 else
 (bd1 (f_Mo_open v_m v_row_1) (fun r_1 =>
 (if r_1 = (-1 : Int32) then
 (bd3 (f_Mo_isInconsistent v_mores v_m v_w v_row_1 v_more) (fun r_2 v_more_1 v_mores_1 =>
 (if r_2 = 0 then
 (if (v_m 41) = 0 then
 (bd2 (f_Mo_forms v_m v_row_1 v_stateOf) (fun v_m_2 v_stateOf_1 =>
 (some ((4 : Int32), v_m_2, v_w, v_queue, v_parent, v_by, v_seen, v_path, v_steps, v_row_1, v_missing_1, v_more_1, v_mores_1, v_stateOf_1))))
 else
 (bd7 (f_Mo_parts (0 : Int32) (0 : Int32) (1 : Int32) v_steps v_m v_queue v_parent v_by v_seen v_path) (fun r_3 v_queue_1 v_parent_1 v_by_1 v_seen_1 v_path_1 v_steps_1 =>
 (if r_3 = 0 then
 (some ((6 : Int32), v_m, v_w, v_queue_1, v_parent_1, v_by_1, v_seen_1, v_path_1, v_steps_1, v_row_1, v_missing_1, v_more_1, v_mores_1, v_stateOf))
 else
 (bd5 (f_Mo_uses v_steps_1 v_mores_1 v_m v_w v_path_1 v_more_1) (fun r_4 v_m_1 v_w_1 v_more_2 v_mores_2 =>
 (some (r_4, v_m_1, v_w_1, v_queue_1, v_parent_1, v_by_1, v_seen_1, v_path_1, v_steps_1, v_row_1, v_missing_1, v_more_2, v_mores_2, v_stateOf))))))))
 else
 (bd1 (f_Mo_fit (1 : Int32) v_mores_1 v_m v_w v_more_1) (fun r_5 =>
 (if r_5 = 0 then
 (some ((-5 : Int32), v_m, v_w, v_queue, v_parent, v_by, v_seen, v_path, v_steps, v_row_1, v_missing_1, v_more_1, v_mores_1, v_stateOf))
 else
 (bd2 (f_Mo_adds (1 : Int32) v_mores_1 v_m v_w v_more_1) (fun v_m_3 v_w_2 =>
 (some ((3 : Int32), v_m_3, v_w_2, v_queue, v_parent, v_by, v_seen, v_path, v_steps, v_row_1, v_missing_1, v_more_1, v_mores_1, v_stateOf))))))))))
 else
 (bd1 (f_Mo_wordOf r_1 v_m v_w) (fun r_6 =>
 (bd2 (f_Mo_wants r_6 (0 : Int32) (0 : Int32) v_m v_w v_more) (fun v_more_3 v_mores_3 =>
 (bd1 (f_Mo_fit (0 : Int32) v_mores_3 v_m v_w v_more_3) (fun r_7 =>
 (if r_7 = 0 then
 (some ((-5 : Int32), v_m, v_w, v_queue, v_parent, v_by, v_seen, v_path, v_steps, v_row_1, v_missing_1, v_more_3, v_mores_3, v_stateOf))
 else
 (bd2 (f_Mo_adds (0 : Int32) v_mores_3 v_m v_w v_more_3) (fun v_m_4 v_w_3 =>
 (some ((2 : Int32), v_m_4, v_w_3, v_queue, v_parent, v_by, v_seen, v_path, v_steps, v_row_1, v_missing_1, v_more_3, v_mores_3, v_stateOf))))))))))))))))))
abbrev ws_Mo_learn (cI cJ cZ : ClassId) (q_this q_m q_saved q_w q_savedWords q_isSaved q_text q_far q_queue q_parent q_by q_seen q_path q_row q_more q_stateOf : Nat) (v_textLength : Int32) (v_steps : Int32) (v_missing : Int64) (v_mores : Int32) (v_hash : Int64) (v_m : (Nat → Int32)) (v_w : (Nat → Int64)) (v_queue : (Nat → Int32)) (v_parent : (Nat → Int32)) (v_by : (Nat → Int32)) (v_seen : (Nat → Int32)) (v_path : (Nat → Int32)) (v_row : (Nat → Int32)) (v_more : (Nat → Int64)) (v_stateOf : (Nat → Int32)) : va_W := [(q_this, .inr (9, [.ref q_m, .ref q_saved, .ref q_w, .ref q_savedWords, .ref q_isSaved, .ref q_text, .int v_textLength, .ref q_far, .ref q_queue, .ref q_parent, .ref q_by, .ref q_seen, .ref q_path, .int v_steps, .ref q_row, .long v_missing, .ref q_more, .int v_mores, .ref q_stateOf, .long v_hash])), (q_m, .inl (cI, 561, .inl v_m)), (q_w, .inl (cJ, 360, .inr (.inl v_w))), (q_queue, .inl (cI, 320, .inl v_queue)), (q_parent, .inl (cI, 320, .inl v_parent)), (q_by, .inl (cI, 320, .inl v_by)), (q_seen, .inl (cZ, 320, .inl v_seen)), (q_path, .inl (cI, 320, .inl v_path)), (q_row, .inl (cI, 160, .inl v_row)), (q_more, .inl (cJ, 17, .inr (.inl v_more))), (q_stateOf, .inl (cI, 40, .inl v_stateOf))]
abbrev rm_Mo_learn : Room := { frames := 8, cells := 0, slots := 0, locals := 188 }
def f_Mo_learn_L18 (x1 : Int32) (K rec : Int32 → Int32 → (Nat → Int32) → (Nat → Int64) → (Nat → Int32) → (Nat → Int32) → (Nat → Int32) → (Nat → Int32) → (Nat → Int32) → Int32 → (Nat → Int32) → Int64 → (Nat → Int64) → Int32 → (Nat → Int32) → Option (Int32 × (Nat → Int32) × (Nat → Int64) × (Nat → Int32) × (Nat → Int32) × (Nat → Int32) × (Nat → Int32) × (Nat → Int32) × Int32 × (Nat → Int32) × Int64 × (Nat → Int64) × Int32 × (Nat → Int32))) (x2 : Int32) (x3 : Int32) (v_m : (Nat → Int32)) (v_w : (Nat → Int64)) (v_queue : (Nat → Int32)) (v_parent : (Nat → Int32)) (v_by : (Nat → Int32)) (v_seen : (Nat → Int32)) (v_path : (Nat → Int32)) (v_steps : Int32) (v_row : (Nat → Int32)) (v_missing : Int64) (v_more : (Nat → Int64)) (v_mores : Int32) (v_stateOf : (Nat → Int32)) : Option (Int32 × (Nat → Int32) × (Nat → Int64) × (Nat → Int32) × (Nat → Int32) × (Nat → Int32) × (Nat → Int32) × (Nat → Int32) × Int32 × (Nat → Int32) × Int64 × (Nat → Int64) × Int32 × (Nat → Int32)) :=
 (if x1 ≤ x3 then
 (K x2 x3 v_m v_w v_queue v_parent v_by v_seen v_path v_steps v_row v_missing v_more v_mores v_stateOf)
 else
 (bd1 (f_Mo_in x2 (1 : Int32) (5 : Int32)) (fun r =>
 (if r = 0 then
 (K x2 x3 v_m v_w v_queue v_parent v_by v_seen v_path v_steps v_row v_missing v_more v_mores v_stateOf)
 else
 (bd14 (f_Mo_step v_steps v_missing v_mores v_m v_w v_queue v_parent v_by v_seen v_path v_row v_more v_stateOf) (fun r_1 v_m_1 v_w_1 v_queue_1 v_parent_1 v_by_1 v_seen_1 v_path_1 v_steps_1 v_row_1 v_missing_1 v_more_1 v_mores_1 v_stateOf_1 =>
 (bnd (x3 + 1) (fun x3_1 =>
 (rec r_1 x3_1 v_m_1 v_w_1 v_queue_1 v_parent_1 v_by_1 v_seen_1 v_path_1 v_steps_1 v_row_1 v_missing_1 v_more_1 v_mores_1 v_stateOf_1)))))))))
def f_Mo_learn (x1 : Int32) (v_steps : Int32) (v_missing : Int64) (v_mores : Int32) (v_m : (Nat → Int32)) (v_w : (Nat → Int64)) (v_queue : (Nat → Int32)) (v_parent : (Nat → Int32)) (v_by : (Nat → Int32)) (v_seen : (Nat → Int32)) (v_path : (Nat → Int32)) (v_row : (Nat → Int32)) (v_more : (Nat → Int64)) (v_stateOf : (Nat → Int32)) : Option (Int32 × (Nat → Int32) × (Nat → Int64) × (Nat → Int32) × (Nat → Int32) × (Nat → Int32) × (Nat → Int32) × (Nat → Int32) × Int32 × (Nat → Int32) × Int64 × (Nat → Int64) × Int32 × (Nat → Int32)) :=
 (bd1 (f_Mo_in x1 (1 : Int32) (1000 : Int32)) (fun r =>
 (if r = 0 then
 (some ((-2 : Int32), v_m, v_w, v_queue, v_parent, v_by, v_seen, v_path, v_steps, v_row, v_missing, v_more, v_mores, v_stateOf))
 else
 (itr (fun _ _ _ _ _ _ _ _ _ _ _ _ _ _ _ => none) (f_Mo_learn_L18 x1 (fun x2 x3 v_m_1 v_w_1 v_queue_1 v_parent_1 v_by_1 v_seen_1 v_path_1 v_steps_1 v_row_1 v_missing_1 v_more_1 v_mores_1 v_stateOf_1 =>
 (some (x2, v_m_1, v_w_1, v_queue_1, v_parent_1, v_by_1, v_seen_1, v_path_1, v_steps_1, v_row_1, v_missing_1, v_more_1, v_mores_1, v_stateOf_1)))) FU (1 : Int32) (0 : Int32) v_m v_w v_queue v_parent v_by v_seen v_path v_steps v_row v_missing v_more v_mores v_stateOf))))
abbrev ws_Mo_word (cI cJ cZ : ClassId) (q_this q_m q_saved q_w q_savedWords q_isSaved q_text q_far q_queue q_parent q_by q_seen q_path q_row q_more q_stateOf : Nat) (v_textLength : Int32) (v_steps : Int32) (v_missing : Int64) (v_mores : Int32) (v_hash : Int64) (v_m : (Nat → Int32)) (v_w : (Nat → Int64)) : va_W := [(q_this, .inr (9, [.ref q_m, .ref q_saved, .ref q_w, .ref q_savedWords, .ref q_isSaved, .ref q_text, .int v_textLength, .ref q_far, .ref q_queue, .ref q_parent, .ref q_by, .ref q_seen, .ref q_path, .int v_steps, .ref q_row, .long v_missing, .ref q_more, .int v_mores, .ref q_stateOf, .long v_hash])), (q_m, .inl (cI, 561, .inl v_m)), (q_w, .inl (cJ, 360, .inr (.inl v_w)))]
abbrev rm_Mo_word : Room := { frames := 3, cells := 0, slots := 0, locals := 69 }
def f_Mo_word (x1 : Int32) (x2 : Int32) (x3 : Int32) (v_m : (Nat → Int32)) (v_w : (Nat → Int64)) : Option (Int32) :=
 (bnd (if x1 = 0 then (v_m 38) else (v_m 39)) (fun t =>
 (bd1 (f_Mo_in x2 (0 : Int32) (t - (1 : Int32))) (fun r =>
 (if r = 0 then
 (some (-2 : Int32))
 else
 (if (-1 : Int32) ≤ x3 then
 (bnd (if x1 = 0 then (304 : Int32) else (344 : Int32)) (fun t_1 =>
 (gIn (t_1 + x2) 360
 (bd1 (f_Mo_letterOrLength (v_w (t_1 + x2).toNatClampNeg) x3) (fun r_1 =>
 (some r_1))))))
 else
 (some (-2 : Int32))))))))
abbrev ws_Mo_cell (cI cJ cZ : ClassId) (q_this q_m q_saved q_w q_savedWords q_isSaved q_text q_far q_queue q_parent q_by q_seen q_path q_row q_more q_stateOf : Nat) (v_textLength : Int32) (v_steps : Int32) (v_missing : Int64) (v_mores : Int32) (v_hash : Int64) (v_m : (Nat → Int32)) (v_w : (Nat → Int64)) : va_W := [(q_this, .inr (9, [.ref q_m, .ref q_saved, .ref q_w, .ref q_savedWords, .ref q_isSaved, .ref q_text, .int v_textLength, .ref q_far, .ref q_queue, .ref q_parent, .ref q_by, .ref q_seen, .ref q_path, .int v_steps, .ref q_row, .long v_missing, .ref q_more, .int v_mores, .ref q_stateOf, .long v_hash])), (q_m, .inl (cI, 561, .inl v_m)), (q_w, .inl (cJ, 360, .inr (.inl v_w)))]
abbrev rm_Mo_cell : Room := { frames := 2, cells := 0, slots := 0, locals := 49 }
def f_Mo_cell_J82 (x3 : Int32) (s0 : Int64) (v_m : (Nat → Int32)) (v_w : (Nat → Int64)) : Option (Int32) :=
 (gIn ((344 : Int32) + x3) 360
 (bd1 (f_Mo_joined s0 (v_w ((344 : Int32) + x3).toNatClampNeg)) (fun r =>
 (bd1 (f_Mo_known r v_m v_w) (fun r_1 =>
 (some r_1))))))
def f_Mo_cell_J30 (x1 : Int32) (x2 : Int32) (x3 : Int32) (v_m : (Nat → Int32)) (v_w : (Nat → Int64)) : Option (Int32) :=
 (bd1 (f_Mo_in x3 (0 : Int32) ((v_m 39) - (1 : Int32))) (fun r =>
 (if r = 0 then
 (some (-2 : Int32))
 else
 (if x2 = (-1 : Int32) then
 (gIn ((304 : Int32) + x1) 360
 (f_Mo_cell_J82 x3 (v_w ((304 : Int32) + x1).toNatClampNeg) v_m v_w))
 else
 (gIn ((304 : Int32) + x1) 360
 (bd1 (f_Mo_longer (v_w ((304 : Int32) + x1).toNatClampNeg) x2) (fun r_1 =>
 (f_Mo_cell_J82 x3 r_1 v_m v_w))))))))
def f_Mo_cell (x1 : Int32) (x2 : Int32) (x3 : Int32) (v_m : (Nat → Int32)) (v_w : (Nat → Int64)) : Option (Int32) :=
 (bd1 (f_Mo_in x1 (0 : Int32) ((v_m 38) - (1 : Int32))) (fun r =>
 (if r = 0 then
 (some (-2 : Int32))
 else
 (if x2 = (-1 : Int32) then
 (f_Mo_cell_J30 x1 x2 x3 v_m v_w)
 else
 (bd1 (f_Mo_isLetter x2 v_m) (fun r_1 =>
 (if r_1 = 0 then
 (some (-2 : Int32))
 else
 (f_Mo_cell_J30 x1 x2 x3 v_m v_w))))))))
abbrev ws_Mo_hypothesis (cI cJ cZ : ClassId) (q_this q_m q_saved q_w q_savedWords q_isSaved q_text q_far q_queue q_parent q_by q_seen q_path q_row q_more q_stateOf : Nat) (v_textLength : Int32) (v_steps : Int32) (v_missing : Int64) (v_mores : Int32) (v_hash : Int64) (v_m : (Nat → Int32)) : va_W := [(q_this, .inr (9, [.ref q_m, .ref q_saved, .ref q_w, .ref q_savedWords, .ref q_isSaved, .ref q_text, .int v_textLength, .ref q_far, .ref q_queue, .ref q_parent, .ref q_by, .ref q_seen, .ref q_path, .int v_steps, .ref q_row, .long v_missing, .ref q_more, .int v_mores, .ref q_stateOf, .long v_hash])), (q_m, .inl (cI, 561, .inl v_m))]
abbrev rm_Mo_hypothesis : Room := { frames := 2, cells := 0, slots := 0, locals := 43 }
def f_Mo_hypothesis_J25 (x1 : Int32) (x2 : Int32) (v_m : (Nat → Int32)) : Option (Int32) :=
 (if (v_m 40) = 0 then
 (some (-3 : Int32))
 else
 (bd1 (f_Mo_in x1 (0 : Int32) ((v_m 40) - (1 : Int32))) (fun r =>
 (if r = 0 then
 (some (-1 : Int32))
 else
 (if (3 : Int32) ≤ x2 then
 (if x2 = (3 : Int32) then
 (gIn ((481 : Int32) + x1) 561
 (some (v_m ((481 : Int32) + x1).toNatClampNeg)))
 else
 (gIn ((521 : Int32) + x1) 561
 (some (v_m ((521 : Int32) + x1).toNatClampNeg))))
 else
 (gIn (((361 : Int32) + ((3 : Int32) * x1)) + x2) 561
 (some (v_m (((361 : Int32) + ((3 : Int32) * x1)) + x2).toNatClampNeg))))))))
def f_Mo_hypothesis (x1 : Int32) (x2 : Int32) (v_m : (Nat → Int32)) : Option (Int32) :=
 (bd1 (f_Mo_in x2 (0 : Int32) (4 : Int32)) (fun r =>
 (if r = 0 then
 (some (-2 : Int32))
 else
 (if (3 : Int32) ≤ x2 then
 (f_Mo_hypothesis_J25 x1 x2 v_m)
 else
 (bd1 (f_Mo_isLetter x2 v_m) (fun r_1 =>
 (if r_1 = 0 then
 (some (-2 : Int32))
 else
 (f_Mo_hypothesis_J25 x1 x2 v_m))))))))
abbrev ws_Mo_guess (cI cJ cZ : ClassId) (q_this q_m q_saved q_w q_savedWords q_isSaved q_text q_far q_queue q_parent q_by q_seen q_path q_row q_more q_stateOf : Nat) (v_textLength : Int32) (v_steps : Int32) (v_missing : Int64) (v_mores : Int32) (v_hash : Int64) (v_m : (Nat → Int32)) (v_text : (Nat → Int32)) : va_W := [(q_this, .inr (9, [.ref q_m, .ref q_saved, .ref q_w, .ref q_savedWords, .ref q_isSaved, .ref q_text, .int v_textLength, .ref q_far, .ref q_queue, .ref q_parent, .ref q_by, .ref q_seen, .ref q_path, .int v_steps, .ref q_row, .long v_missing, .ref q_more, .int v_mores, .ref q_stateOf, .long v_hash])), (q_m, .inl (cI, 561, .inl v_m)), (q_text, .inl (cI, 16, .inl v_text))]
abbrev rm_Mo_guess : Room := { frames := 2, cells := 0, slots := 0, locals := 46 }
def f_Mo_guess_L32 (v_textLength : Int32) (v_m : (Nat → Int32)) (x1 : Int64) (K rec : Int32 → Int32 → Option (Int32)) (x3 : Int32) (x4 : Int32) : Option (Int32) :=
 (if v_textLength ≤ x4 then
 (K x3 x4)
 else
 (bd1 (f_Mo_letterOf x1 x4) (fun r =>
 (gIn (((361 : Int32) + ((3 : Int32) * x3)) + r) 561
 (bnd (v_m (((361 : Int32) + ((3 : Int32) * x3)) + r).toNatClampNeg) (fun x3_1 =>
 (bnd (x4 + 1) (fun x4_1 =>
 (rec x3_1 x4_1)))))))))
def f_Mo_guess (v_textLength : Int32) (v_m : (Nat → Int32)) (v_text : (Nat → Int32)) : Option (Int32) :=
 (bd1 (f_Mo_told v_textLength v_m v_text) (fun r =>
 (if r < (0 : Int64) then
 (some (-2 : Int32))
 else
 (if (v_m 40) = 0 then
 (some (-3 : Int32))
 else
 (itr (fun _ _ => none) (f_Mo_guess_L32 v_textLength v_m r (fun x3 x4 =>
 (gIn ((481 : Int32) + x3) 561
 (some (v_m ((481 : Int32) + x3).toNatClampNeg))))) FU (0 : Int32) (0 : Int32))))))
abbrev ws_Mo_difference (cI cJ cZ : ClassId) (q_this q_m q_saved q_w q_savedWords q_isSaved q_text q_far q_queue q_parent q_by q_seen q_path q_row q_more q_stateOf : Nat) (v_textLength : Int32) (v_steps : Int32) (v_missing : Int64) (v_mores : Int32) (v_hash : Int64) (v_m : (Nat → Int32)) (v_queue : (Nat → Int32)) (v_parent : (Nat → Int32)) (v_by : (Nat → Int32)) (v_seen : (Nat → Int32)) (v_path : (Nat → Int32)) : va_W := [(q_this, .inr (9, [.ref q_m, .ref q_saved, .ref q_w, .ref q_savedWords, .ref q_isSaved, .ref q_text, .int v_textLength, .ref q_far, .ref q_queue, .ref q_parent, .ref q_by, .ref q_seen, .ref q_path, .int v_steps, .ref q_row, .long v_missing, .ref q_more, .int v_mores, .ref q_stateOf, .long v_hash])), (q_m, .inl (cI, 561, .inl v_m)), (q_queue, .inl (cI, 320, .inl v_queue)), (q_parent, .inl (cI, 320, .inl v_parent)), (q_by, .inl (cI, 320, .inl v_by)), (q_seen, .inl (cZ, 320, .inl v_seen)), (q_path, .inl (cI, 320, .inl v_path))]
abbrev rm_Mo_difference : Room := { frames := 2, cells := 0, slots := 0, locals := 53 }
def f_Mo_difference (x1 : Int32) (v_steps : Int32) (v_m : (Nat → Int32)) (v_queue : (Nat → Int32)) (v_parent : (Nat → Int32)) (v_by : (Nat → Int32)) (v_seen : (Nat → Int32)) (v_path : (Nat → Int32)) : Option (Int32 × (Nat → Int32) × (Nat → Int32) × (Nat → Int32) × (Nat → Int32) × (Nat → Int32) × Int32) :=
 (if (-1 : Int32) ≤ x1 then
 (if (v_m 40) = 0 then
 (some ((-3 : Int32), v_queue, v_parent, v_by, v_seen, v_path, v_steps))
 else
 (bd7 (f_Mo_parts (0 : Int32) (0 : Int32) (1 : Int32) v_steps v_m v_queue v_parent v_by v_seen v_path) (fun r v_queue_1 v_parent_1 v_by_1 v_seen_1 v_path_1 v_steps_1 =>
 (if r = 0 then
 (some ((-1 : Int32), v_queue_1, v_parent_1, v_by_1, v_seen_1, v_path_1, v_steps_1))
 else
 (bd1 (f_Mo_pathPart x1 v_steps_1 v_path_1) (fun r_1 =>
 (some (r_1, v_queue_1, v_parent_1, v_by_1, v_seen_1, v_path_1, v_steps_1))))))))
 else
 (some ((-2 : Int32), v_queue, v_parent, v_by, v_seen, v_path, v_steps)))
abbrev ws_Mo_counterexample (cI cJ cZ : ClassId) (q_this q_m q_saved q_w q_savedWords q_isSaved q_text q_far q_queue q_parent q_by q_seen q_path q_row q_more q_stateOf : Nat) (v_textLength : Int32) (v_steps : Int32) (v_missing : Int64) (v_mores : Int32) (v_hash : Int64) (v_m : (Nat → Int32)) : va_W := [(q_this, .inr (9, [.ref q_m, .ref q_saved, .ref q_w, .ref q_savedWords, .ref q_isSaved, .ref q_text, .int v_textLength, .ref q_far, .ref q_queue, .ref q_parent, .ref q_by, .ref q_seen, .ref q_path, .int v_steps, .ref q_row, .long v_missing, .ref q_more, .int v_mores, .ref q_stateOf, .long v_hash])), (q_m, .inl (cI, 561, .inl v_m))]
abbrev rm_Mo_counterexample : Room := { frames := 0, cells := 0, slots := 0, locals := 0 }
def f_Mo_counterexample (x1 : Int32) (v_m : (Nat → Int32)) : Option (Int32) :=
 (if (-1 : Int32) ≤ x1 then
 (if (v_m 44) = (-1 : Int32) then
 (some (-3 : Int32))
 else
 (if x1 = (-1 : Int32) then
 (some (v_m 44))
 else
 (if (v_m 44) ≤ x1 then
 (some (-1 : Int32))
 else
 (gIn ((345 : Int32) + x1) 561
 (some (v_m ((345 : Int32) + x1).toNatClampNeg))))))
 else
 (some (-2 : Int32)))
abbrev ws_Mo_save (cI cJ cZ : ClassId) (q_this q_m q_saved q_w q_savedWords q_isSaved q_text q_far q_queue q_parent q_by q_seen q_path q_row q_more q_stateOf : Nat) (v_textLength : Int32) (v_steps : Int32) (v_missing : Int64) (v_mores : Int32) (v_hash : Int64) (v_m : (Nat → Int32)) (v_saved : (Nat → Int32)) (v_w : (Nat → Int64)) (v_savedWords : (Nat → Int64)) (v_isSaved : (Nat → Int32)) : va_W := [(q_this, .inr (9, [.ref q_m, .ref q_saved, .ref q_w, .ref q_savedWords, .ref q_isSaved, .ref q_text, .int v_textLength, .ref q_far, .ref q_queue, .ref q_parent, .ref q_by, .ref q_seen, .ref q_path, .int v_steps, .ref q_row, .long v_missing, .ref q_more, .int v_mores, .ref q_stateOf, .long v_hash])), (q_m, .inl (cI, 561, .inl v_m)), (q_saved, .inl (cI, 1122, .inl v_saved)), (q_w, .inl (cJ, 360, .inr (.inl v_w))), (q_savedWords, .inl (cJ, 720, .inr (.inl v_savedWords))), (q_isSaved, .inl (cZ, 2, .inl v_isSaved))]
abbrev rm_Mo_save : Room := { frames := 1, cells := 0, slots := 0, locals := 22 }
def f_Mo_save_L14 (v_m : (Nat → Int32)) (x1 : Int32) (K rec : Int32 → (Nat → Int32) → Option (Int32 × (Nat → Int32) × (Nat → Int64) × (Nat → Int32))) (x2 : Int32) (v_saved : (Nat → Int32)) : Option (Int32 × (Nat → Int32) × (Nat → Int64) × (Nat → Int32)) :=
 (if (561 : Int32) ≤ x2 then
 (K x2 v_saved)
 else
 (gIn x2 561
 (gIn (((561 : Int32) * x1) + x2) 1122
 (bnd (upd v_saved (((561 : Int32) * x1) + x2).toNatClampNeg (v_m x2.toNatClampNeg)) (fun v_saved_1 =>
 (bnd (x2 + 1) (fun x2_1 =>
 (rec x2_1 v_saved_1))))))))
def f_Mo_save_L47 (v_w : (Nat → Int64)) (x1 : Int32) (K rec : Int32 → (Nat → Int64) → Option (Int32 × (Nat → Int32) × (Nat → Int64) × (Nat → Int32))) (x2 : Int32) (v_savedWords : (Nat → Int64)) : Option (Int32 × (Nat → Int32) × (Nat → Int64) × (Nat → Int32)) :=
 (if (360 : Int32) ≤ x2 then
 (K x2 v_savedWords)
 else
 (gIn x2 360
 (gIn (((360 : Int32) * x1) + x2) 720
 (bnd (vp_updL v_savedWords (((360 : Int32) * x1) + x2).toNatClampNeg (v_w x2.toNatClampNeg)) (fun v_savedWords_1 =>
 (bnd (x2 + 1) (fun x2_1 =>
 (rec x2_1 v_savedWords_1))))))))
def f_Mo_save (x1 : Int32) (v_m : (Nat → Int32)) (v_saved : (Nat → Int32)) (v_w : (Nat → Int64)) (v_savedWords : (Nat → Int64)) (v_isSaved : (Nat → Int32)) : Option (Int32 × (Nat → Int32) × (Nat → Int64) × (Nat → Int32)) :=
 (bd1 (f_Mo_in x1 (0 : Int32) (1 : Int32)) (fun r =>
 (if r = 0 then
 (some ((-2 : Int32), v_saved, v_savedWords, v_isSaved))
 else
 (itr (fun _ _ => none) (f_Mo_save_L14 v_m x1 (fun x2 v_saved_1 =>
 (itr (fun _ _ => none) (f_Mo_save_L47 v_w x1 (fun x2_1 v_savedWords_1 =>
 (gIn x1 2
 (bnd (upd v_isSaved x1.toNatClampNeg (1 : Int32)) (fun v_isSaved_1 =>
 (some ((v_m 37), v_saved_1, v_savedWords_1, v_isSaved_1))))))) FU (0 : Int32) v_savedWords))) FU (0 : Int32) v_saved))))
abbrev ws_Mo_restore (cI cJ cZ : ClassId) (q_this q_m q_saved q_w q_savedWords q_isSaved q_text q_far q_queue q_parent q_by q_seen q_path q_row q_more q_stateOf : Nat) (v_textLength : Int32) (v_steps : Int32) (v_missing : Int64) (v_mores : Int32) (v_hash : Int64) (v_m : (Nat → Int32)) (v_saved : (Nat → Int32)) (v_w : (Nat → Int64)) (v_savedWords : (Nat → Int64)) (v_isSaved : (Nat → Int32)) : va_W := [(q_this, .inr (9, [.ref q_m, .ref q_saved, .ref q_w, .ref q_savedWords, .ref q_isSaved, .ref q_text, .int v_textLength, .ref q_far, .ref q_queue, .ref q_parent, .ref q_by, .ref q_seen, .ref q_path, .int v_steps, .ref q_row, .long v_missing, .ref q_more, .int v_mores, .ref q_stateOf, .long v_hash])), (q_m, .inl (cI, 561, .inl v_m)), (q_saved, .inl (cI, 1122, .inl v_saved)), (q_w, .inl (cJ, 360, .inr (.inl v_w))), (q_savedWords, .inl (cJ, 720, .inr (.inl v_savedWords))), (q_isSaved, .inl (cZ, 2, .inl v_isSaved))]
abbrev rm_Mo_restore : Room := { frames := 1, cells := 0, slots := 0, locals := 22 }
def f_Mo_restore_L26 (v_saved : (Nat → Int32)) (x1 : Int32) (K rec : Int32 → (Nat → Int32) → Option (Int32 × (Nat → Int32) × (Nat → Int64))) (x2 : Int32) (v_m : (Nat → Int32)) : Option (Int32 × (Nat → Int32) × (Nat → Int64)) :=
 (if (561 : Int32) ≤ x2 then
 (K x2 v_m)
 else
 (gIn (((561 : Int32) * x1) + x2) 1122
 (gIn x2 561
 (bnd (upd v_m x2.toNatClampNeg (v_saved (((561 : Int32) * x1) + x2).toNatClampNeg)) (fun v_m_1 =>
 (bnd (x2 + 1) (fun x2_1 =>
 (rec x2_1 v_m_1))))))))
def f_Mo_restore_L59 (v_savedWords : (Nat → Int64)) (x1 : Int32) (K rec : Int32 → (Nat → Int64) → Option (Int32 × (Nat → Int32) × (Nat → Int64))) (x2 : Int32) (v_w : (Nat → Int64)) : Option (Int32 × (Nat → Int32) × (Nat → Int64)) :=
 (if (360 : Int32) ≤ x2 then
 (K x2 v_w)
 else
 (gIn (((360 : Int32) * x1) + x2) 720
 (gIn x2 360
 (bnd (vp_updL v_w x2.toNatClampNeg (v_savedWords (((360 : Int32) * x1) + x2).toNatClampNeg)) (fun v_w_1 =>
 (bnd (x2 + 1) (fun x2_1 =>
 (rec x2_1 v_w_1))))))))
def f_Mo_restore (x1 : Int32) (v_m : (Nat → Int32)) (v_saved : (Nat → Int32)) (v_w : (Nat → Int64)) (v_savedWords : (Nat → Int64)) (v_isSaved : (Nat → Int32)) : Option (Int32 × (Nat → Int32) × (Nat → Int64)) :=
 (bd1 (f_Mo_in x1 (0 : Int32) (1 : Int32)) (fun r =>
 (if r = 0 then
 (some ((-2 : Int32), v_m, v_w))
 else
 (gIn x1 2
 (if (v_isSaved x1.toNatClampNeg) = 0 then
 (some ((-3 : Int32), v_m, v_w))
 else
 (itr (fun _ _ => none) (f_Mo_restore_L26 v_saved x1 (fun x2 v_m_1 =>
 (itr (fun _ _ => none) (f_Mo_restore_L59 v_savedWords x1 (fun x2_1 v_w_1 =>
 (some ((v_m_1 37), v_m_1, v_w_1)))) FU (0 : Int32) v_w))) FU (0 : Int32) v_m))))))
abbrev ws_Mo_count (cI cJ cZ : ClassId) (q_this q_m q_saved q_w q_savedWords q_isSaved q_text q_far q_queue q_parent q_by q_seen q_path q_row q_more q_stateOf : Nat) (v_textLength : Int32) (v_steps : Int32) (v_missing : Int64) (v_mores : Int32) (v_hash : Int64) (v_m : (Nat → Int32)) : va_W := [(q_this, .inr (9, [.ref q_m, .ref q_saved, .ref q_w, .ref q_savedWords, .ref q_isSaved, .ref q_text, .int v_textLength, .ref q_far, .ref q_queue, .ref q_parent, .ref q_by, .ref q_seen, .ref q_path, .int v_steps, .ref q_row, .long v_missing, .ref q_more, .int v_mores, .ref q_stateOf, .long v_hash])), (q_m, .inl (cI, 561, .inl v_m))]
abbrev rm_Mo_count : Room := { frames := 1, cells := 0, slots := 0, locals := 22 }
def f_Mo_count (x1 : Int32) (v_textLength : Int32) (v_m : (Nat → Int32)) : Option (Int32) :=
 (if x1 = (0 : Int32) then
 (some (v_m 0))
 else
 (if x1 = (1 : Int32) then
 (some (v_m 1))
 else
 (if x1 = (2 : Int32) then
 (bd1 (f_Mo_finals v_m) (fun r =>
 (some r)))
 else
 (if x1 = (3 : Int32) then
 (some (v_m 34))
 else
 (if x1 = (4 : Int32) then
 (some (v_m 35))
 else
 (if x1 = (5 : Int32) then
 (some (v_m 36))
 else
 (if x1 = (6 : Int32) then
 (some (v_m 37))
 else
 (if x1 = (7 : Int32) then
 (some (v_m 38))
 else
 (if x1 = (8 : Int32) then
 (some (v_m 39))
 else
 (if x1 = (9 : Int32) then
 (some (v_m 40))
 else
 (if x1 = (10 : Int32) then
 (some (v_m 42))
 else
 (if x1 = (11 : Int32) then
 (some (v_m 43))
 else
 (if x1 = (12 : Int32) then
 (some v_textLength)
 else
 (some (-2 : Int32)))))))))))))))
abbrev ws_Mo_mixes (cI cJ cZ : ClassId) (q_this q_m q_saved q_w q_savedWords q_isSaved q_text q_far q_queue q_parent q_by q_seen q_path q_row q_more q_stateOf : Nat) (v_textLength : Int32) (v_steps : Int32) (v_missing : Int64) (v_mores : Int32) (v_hash : Int64) : va_W := [(q_this, .inr (9, [.ref q_m, .ref q_saved, .ref q_w, .ref q_savedWords, .ref q_isSaved, .ref q_text, .int v_textLength, .ref q_far, .ref q_queue, .ref q_parent, .ref q_by, .ref q_seen, .ref q_path, .int v_steps, .ref q_row, .long v_missing, .ref q_more, .int v_mores, .ref q_stateOf, .long v_hash]))]
abbrev rm_Mo_mixes : Room := { frames := 0, cells := 0, slots := 0, locals := 0 }
def f_Mo_mixes (x1 : Int32) (v_hash : Int64) : Option (Int64) :=
 (bnd (((31 : Int64) * v_hash) + x1.toInt64) (fun v_hash_1 =>
 (some v_hash_1)))
abbrev ws_Mo_mixesWord (cI cJ cZ : ClassId) (q_this q_m q_saved q_w q_savedWords q_isSaved q_text q_far q_queue q_parent q_by q_seen q_path q_row q_more q_stateOf : Nat) (v_textLength : Int32) (v_steps : Int32) (v_missing : Int64) (v_mores : Int32) (v_hash : Int64) : va_W := [(q_this, .inr (9, [.ref q_m, .ref q_saved, .ref q_w, .ref q_savedWords, .ref q_isSaved, .ref q_text, .int v_textLength, .ref q_far, .ref q_queue, .ref q_parent, .ref q_by, .ref q_seen, .ref q_path, .int v_steps, .ref q_row, .long v_missing, .ref q_more, .int v_mores, .ref q_stateOf, .long v_hash]))]
abbrev rm_Mo_mixesWord : Room := { frames := 2, cells := 0, slots := 0, locals := 46 }
def f_Mo_mixesWord_L13 (x1 : Int64) (x3 : Int32) (K rec : Int32 → Int64 → Option (Int64)) (x4 : Int32) (v_hash : Int64) : Option (Int64) :=
 (if x3 ≤ x4 then
 (K x4 v_hash)
 else
 (bd1 (f_Mo_letterOf x1 x4) (fun r =>
 (bd1 (f_Mo_mixes r v_hash) (fun v_hash_1 =>
 (bnd (x4 + 1) (fun x4_1 =>
 (rec x4_1 v_hash_1))))))))
def f_Mo_mixesWord (x1 : Int64) (v_hash : Int64) : Option (Int64) :=
 (bd1 (f_Mo_lengthOf x1) (fun r =>
 (bd1 (f_Mo_mixes r v_hash) (fun v_hash_1 =>
 (itr (fun _ _ => none) (f_Mo_mixesWord_L13 x1 r (fun x4 v_hash_2 =>
 (some v_hash_2))) FU (0 : Int32) v_hash_1)))))
abbrev ws_Mo_mixesRow (cI cJ cZ : ClassId) (q_this q_m q_saved q_w q_savedWords q_isSaved q_text q_far q_queue q_parent q_by q_seen q_path q_row q_more q_stateOf : Nat) (v_textLength : Int32) (v_steps : Int32) (v_missing : Int64) (v_mores : Int32) (v_hash : Int64) (v_m : (Nat → Int32)) (v_w : (Nat → Int64)) : va_W := [(q_this, .inr (9, [.ref q_m, .ref q_saved, .ref q_w, .ref q_savedWords, .ref q_isSaved, .ref q_text, .int v_textLength, .ref q_far, .ref q_queue, .ref q_parent, .ref q_by, .ref q_seen, .ref q_path, .int v_steps, .ref q_row, .long v_missing, .ref q_more, .int v_mores, .ref q_stateOf, .long v_hash])), (q_m, .inl (cI, 561, .inl v_m)), (q_w, .inl (cJ, 360, .inr (.inl v_w)))]
abbrev rm_Mo_mixesRow : Room := { frames := 3, cells := 0, slots := 0, locals := 74 }
def f_Mo_mixesRow_L2 (v_m : (Nat → Int32)) (v_w : (Nat → Int64)) (x1 : Int32) (x2 : Int32) (K rec : Int32 → Int64 → Option (Int64)) (x3 : Int32) (v_hash : Int64) : Option (Int64) :=
 (if (v_m 39) ≤ x3 then
 (K x3 v_hash)
 else
 (bd1 (f_Mo_cell x1 x2 x3 v_m v_w) (fun r =>
 (bd1 (f_Mo_mixes r v_hash) (fun v_hash_1 =>
 (bnd (x3 + 1) (fun x3_1 =>
 (rec x3_1 v_hash_1))))))))
def f_Mo_mixesRow (x1 : Int32) (x2 : Int32) (v_hash : Int64) (v_m : (Nat → Int32)) (v_w : (Nat → Int64)) : Option (Int64) :=
 (itr (fun _ _ => none) (f_Mo_mixesRow_L2 v_m v_w x1 x2 (fun x3 v_hash_1 =>
 (some v_hash_1))) FU (0 : Int32) v_hash)
abbrev ws_Mo_digest (cI cJ cZ : ClassId) (q_this q_m q_saved q_w q_savedWords q_isSaved q_text q_far q_queue q_parent q_by q_seen q_path q_row q_more q_stateOf : Nat) (v_textLength : Int32) (v_steps : Int32) (v_missing : Int64) (v_mores : Int32) (v_hash : Int64) (v_m : (Nat → Int32)) (v_w : (Nat → Int64)) (v_text : (Nat → Int32)) (v_far : (Nat → Int32)) (v_queue : (Nat → Int32)) (v_parent : (Nat → Int32)) (v_by : (Nat → Int32)) (v_seen : (Nat → Int32)) (v_path : (Nat → Int32)) : va_W := [(q_this, .inr (9, [.ref q_m, .ref q_saved, .ref q_w, .ref q_savedWords, .ref q_isSaved, .ref q_text, .int v_textLength, .ref q_far, .ref q_queue, .ref q_parent, .ref q_by, .ref q_seen, .ref q_path, .int v_steps, .ref q_row, .long v_missing, .ref q_more, .int v_mores, .ref q_stateOf, .long v_hash])), (q_m, .inl (cI, 561, .inl v_m)), (q_w, .inl (cJ, 360, .inr (.inl v_w))), (q_text, .inl (cI, 16, .inl v_text)), (q_far, .inl (cI, 8, .inl v_far)), (q_queue, .inl (cI, 320, .inl v_queue)), (q_parent, .inl (cI, 320, .inl v_parent)), (q_by, .inl (cI, 320, .inl v_by)), (q_seen, .inl (cZ, 320, .inl v_seen)), (q_path, .inl (cI, 320, .inl v_path))]
abbrev rm_Mo_digest : Room := { frames := 4, cells := 0, slots := 0, locals := 97 }
def f_Mo_digest_L9 (v_textLength : Int32) (v_m : (Nat → Int32)) (K rec : Int32 → Int64 → Option (Int64 × (Nat → Int32) × (Nat → Int32) × (Nat → Int32) × (Nat → Int32) × (Nat → Int32) × (Nat → Int32) × Int32 × Int64)) (x1 : Int32) (v_hash : Int64) : Option (Int64 × (Nat → Int32) × (Nat → Int32) × (Nat → Int32) × (Nat → Int32) × (Nat → Int32) × (Nat → Int32) × Int32 × Int64) :=
 (if (13 : Int32) ≤ x1 then
 (K x1 v_hash)
 else
 (bd1 (f_Mo_count x1 v_textLength v_m) (fun r =>
 (bd1 (f_Mo_mixes r v_hash) (fun v_hash_1 =>
 (bnd (x1 + 1) (fun x1_1 =>
 (rec x1_1 v_hash_1))))))))
def f_Mo_digest_L44 (v_m : (Nat → Int32)) (x1 : Int32) (K rec : Int32 → Int64 → Option (Int64 × (Nat → Int32) × (Nat → Int32) × (Nat → Int32) × (Nat → Int32) × (Nat → Int32) × (Nat → Int32) × Int32 × Int64)) (x2 : Int32) (v_hash : Int64) : Option (Int64 × (Nat → Int32) × (Nat → Int32) × (Nat → Int32) × (Nat → Int32) × (Nat → Int32) × (Nat → Int32) × Int32 × Int64) :=
 (if (v_m 1) ≤ x2 then
 (K x2 v_hash)
 else
 (gIn (((2 : Int32) + ((3 : Int32) * x1)) + x2) 561
 (bd1 (f_Mo_mixes (v_m (((2 : Int32) + ((3 : Int32) * x1)) + x2).toNatClampNeg) v_hash) (fun v_hash_1 =>
 (bnd (x2 + 1) (fun x2_1 =>
 (rec x2_1 v_hash_1)))))))
def f_Mo_digest_L32 (v_m : (Nat → Int32)) (K rec : Int32 → Int64 → Option (Int64 × (Nat → Int32) × (Nat → Int32) × (Nat → Int32) × (Nat → Int32) × (Nat → Int32) × (Nat → Int32) × Int32 × Int64)) (x1 : Int32) (v_hash : Int64) : Option (Int64 × (Nat → Int32) × (Nat → Int32) × (Nat → Int32) × (Nat → Int32) × (Nat → Int32) × (Nat → Int32) × Int32 × Int64) :=
 (if (v_m 0) ≤ x1 then
 (K x1 v_hash)
 else
 (itr (fun _ _ => none) (f_Mo_digest_L44 v_m x1 (fun x2 v_hash_1 =>
 (gIn ((26 : Int32) + x1) 561
 (bd1 (f_Mo_mixes (v_m ((26 : Int32) + x1).toNatClampNeg) v_hash_1) (fun v_hash_2 =>
 (bnd (x1 + 1) (fun x1_1 =>
 (rec x1_1 v_hash_2)))))))) FU (0 : Int32) v_hash))
def f_Mo_digest_L105 (v_m : (Nat → Int32)) (v_w : (Nat → Int64)) (K rec : Int32 → Int64 → Option (Int64 × (Nat → Int32) × (Nat → Int32) × (Nat → Int32) × (Nat → Int32) × (Nat → Int32) × (Nat → Int32) × Int32 × Int64)) (x1 : Int32) (v_hash : Int64) : Option (Int64 × (Nat → Int32) × (Nat → Int32) × (Nat → Int32) × (Nat → Int32) × (Nat → Int32) × (Nat → Int32) × Int32 × Int64) :=
 (if (v_m 38) ≤ x1 then
 (K x1 v_hash)
 else
 (gIn ((304 : Int32) + x1) 360
 (bd1 (f_Mo_mixesWord (v_w ((304 : Int32) + x1).toNatClampNeg) v_hash) (fun v_hash_1 =>
 (bd1 (f_Mo_mixesRow x1 (-1 : Int32) v_hash_1 v_m v_w) (fun v_hash_2 =>
 (bnd (x1 + 1) (fun x1_1 =>
 (rec x1_1 v_hash_2)))))))))
def f_Mo_digest_L144 (v_m : (Nat → Int32)) (v_w : (Nat → Int64)) (K rec : Int32 → Int64 → Option (Int64 × (Nat → Int32) × (Nat → Int32) × (Nat → Int32) × (Nat → Int32) × (Nat → Int32) × (Nat → Int32) × Int32 × Int64)) (x1 : Int32) (v_hash : Int64) : Option (Int64 × (Nat → Int32) × (Nat → Int32) × (Nat → Int32) × (Nat → Int32) × (Nat → Int32) × (Nat → Int32) × Int32 × Int64) :=
 (if ((v_m 38) * (v_m 1)) ≤ x1 then
 (K x1 v_hash)
 else
 (gNz (v_m 1)
 (gNz (v_m 1)
 (bd1 (f_Mo_mixesRow (x1 / (v_m 1)) (x1 - x1 / (v_m 1) * (v_m 1)) v_hash v_m v_w) (fun v_hash_1 =>
 (bnd (x1 + 1) (fun x1_1 =>
 (rec x1_1 v_hash_1))))))))
def f_Mo_digest_L190 (v_m : (Nat → Int32)) (v_w : (Nat → Int64)) (K rec : Int32 → Int64 → Option (Int64 × (Nat → Int32) × (Nat → Int32) × (Nat → Int32) × (Nat → Int32) × (Nat → Int32) × (Nat → Int32) × Int32 × Int64)) (x1 : Int32) (v_hash : Int64) : Option (Int64 × (Nat → Int32) × (Nat → Int32) × (Nat → Int32) × (Nat → Int32) × (Nat → Int32) × (Nat → Int32) × Int32 × Int64) :=
 (if (v_m 39) ≤ x1 then
 (K x1 v_hash)
 else
 (gIn ((344 : Int32) + x1) 360
 (bd1 (f_Mo_mixesWord (v_w ((344 : Int32) + x1).toNatClampNeg) v_hash) (fun v_hash_1 =>
 (bnd (x1 + 1) (fun x1_1 =>
 (rec x1_1 v_hash_1)))))))
def f_Mo_digest_L236 (v_m : (Nat → Int32)) (x1 : Int32) (K rec : Int32 → Int64 → Option (Int64 × (Nat → Int32) × (Nat → Int32) × (Nat → Int32) × (Nat → Int32) × (Nat → Int32) × (Nat → Int32) × Int32 × Int64)) (x2 : Int32) (v_hash : Int64) : Option (Int64 × (Nat → Int32) × (Nat → Int32) × (Nat → Int32) × (Nat → Int32) × (Nat → Int32) × (Nat → Int32) × Int32 × Int64) :=
 (if (v_m 1) ≤ x2 then
 (K x2 v_hash)
 else
 (gIn (((361 : Int32) + ((3 : Int32) * x1)) + x2) 561
 (bd1 (f_Mo_mixes (v_m (((361 : Int32) + ((3 : Int32) * x1)) + x2).toNatClampNeg) v_hash) (fun v_hash_1 =>
 (bnd (x2 + 1) (fun x2_1 =>
 (rec x2_1 v_hash_1)))))))
def f_Mo_digest_L223 (v_m : (Nat → Int32)) (K rec : Int32 → Int64 → Option (Int64 × (Nat → Int32) × (Nat → Int32) × (Nat → Int32) × (Nat → Int32) × (Nat → Int32) × (Nat → Int32) × Int32 × Int64)) (x1 : Int32) (v_hash : Int64) : Option (Int64 × (Nat → Int32) × (Nat → Int32) × (Nat → Int32) × (Nat → Int32) × (Nat → Int32) × (Nat → Int32) × Int32 × Int64) :=
 (if (v_m 40) ≤ x1 then
 (K x1 v_hash)
 else
 (itr (fun _ _ => none) (f_Mo_digest_L236 v_m x1 (fun x2 v_hash_1 =>
 (gIn ((481 : Int32) + x1) 561
 (bd1 (f_Mo_mixes (v_m ((481 : Int32) + x1).toNatClampNeg) v_hash_1) (fun v_hash_2 =>
 (bnd (x1 + 1) (fun x1_1 =>
 (rec x1_1 v_hash_2)))))))) FU (0 : Int32) v_hash))
def f_Mo_digest_L292 (v_m : (Nat → Int32)) (K rec : Int32 → Int64 → Option (Int64 × (Nat → Int32) × (Nat → Int32) × (Nat → Int32) × (Nat → Int32) × (Nat → Int32) × (Nat → Int32) × Int32 × Int64)) (x1 : Int32) (v_hash : Int64) : Option (Int64 × (Nat → Int32) × (Nat → Int32) × (Nat → Int32) × (Nat → Int32) × (Nat → Int32) × (Nat → Int32) × Int32 × Int64) :=
 (if (v_m 44) ≤ x1 then
 (K x1 v_hash)
 else
 (gIn ((345 : Int32) + x1) 561
 (bd1 (f_Mo_mixes (v_m ((345 : Int32) + x1).toNatClampNeg) v_hash) (fun v_hash_1 =>
 (bnd (x1 + 1) (fun x1_1 =>
 (rec x1_1 v_hash_1)))))))
def f_Mo_digest_L325 (v_textLength : Int32) (v_text : (Nat → Int32)) (K rec : Int32 → Int64 → Option (Int64 × (Nat → Int32) × (Nat → Int32) × (Nat → Int32) × (Nat → Int32) × (Nat → Int32) × (Nat → Int32) × Int32 × Int64)) (x1 : Int32) (v_hash : Int64) : Option (Int64 × (Nat → Int32) × (Nat → Int32) × (Nat → Int32) × (Nat → Int32) × (Nat → Int32) × (Nat → Int32) × Int32 × Int64) :=
 (if v_textLength ≤ x1 then
 (K x1 v_hash)
 else
 (gIn x1 16
 (bd1 (f_Mo_mixes (v_text x1.toNatClampNeg) v_hash) (fun v_hash_1 =>
 (bnd (x1 + 1) (fun x1_1 =>
 (rec x1_1 v_hash_1)))))))
def f_Mo_digest (v_textLength : Int32) (v_steps : Int32) (v_m : (Nat → Int32)) (v_w : (Nat → Int64)) (v_text : (Nat → Int32)) (v_far : (Nat → Int32)) (v_queue : (Nat → Int32)) (v_parent : (Nat → Int32)) (v_by : (Nat → Int32)) (v_seen : (Nat → Int32)) (v_path : (Nat → Int32)) : Option (Int64 × (Nat → Int32) × (Nat → Int32) × (Nat → Int32) × (Nat → Int32) × (Nat → Int32) × (Nat → Int32) × Int32 × Int64) :=
 (itr (fun _ _ => none) (f_Mo_digest_L9 v_textLength v_m (fun x1 v_hash_1 =>
 (itr (fun _ _ => none) (f_Mo_digest_L32 v_m (fun x1_1 v_hash_2 =>
 (bd8 (f_Mo_leastStates v_steps v_m v_far v_queue v_parent v_by v_seen v_path) (fun r v_far_1 v_queue_1 v_parent_1 v_by_1 v_seen_1 v_path_1 v_steps_1 =>
 (bd1 (f_Mo_mixes r v_hash_2) (fun v_hash_3 =>
 (itr (fun _ _ => none) (f_Mo_digest_L105 v_m v_w (fun x1_2 v_hash_4 =>
 (itr (fun _ _ => none) (f_Mo_digest_L144 v_m v_w (fun x1_3 v_hash_5 =>
 (itr (fun _ _ => none) (f_Mo_digest_L190 v_m v_w (fun x1_4 v_hash_6 =>
 (itr (fun _ _ => none) (f_Mo_digest_L223 v_m (fun x1_5 v_hash_7 =>
 (itr (fun _ _ => none) (f_Mo_digest_L292 v_m (fun x1_6 v_hash_8 =>
 (itr (fun _ _ => none) (f_Mo_digest_L325 v_textLength v_text (fun x1_7 v_hash_9 =>
 (some (v_hash_9, v_far_1, v_queue_1, v_parent_1, v_by_1, v_seen_1, v_path_1, v_steps_1, v_hash_9)))) FU (0 : Int32) v_hash_8))) FU (0 : Int32) v_hash_7))) FU (0 : Int32) v_hash_6))) FU (0 : Int32) v_hash_5))) FU (0 : Int32) v_hash_4))) FU (0 : Int32) v_hash_3))))))) FU (0 : Int32) v_hash_1))) FU (0 : Int32) (59 : Int64))

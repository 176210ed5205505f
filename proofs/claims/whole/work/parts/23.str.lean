def stL (i : Nat) : Nat := ([6, 6, 3] : List Nat).getD i 0
def stB (i j : Nat) : Int32 := (([[118, 97, 108, 108, 101, 121], [99, 97, 110, 100, 108, 101], [111, 117, 116]] : List (List Int32)).getD i []).getD j 0
def stC (i : Nat) (x : Int32) : Option Int32 := if x < 0 ∨ stL i ≤ x.toNatClampNeg then none else some ((stB i x.toNatClampNeg &&& 255).toUInt32 % 65536).toInt32
theorem ap_gCS {l : Launch} {K : Kt} {cc : ByteArray} {own : String} {nL : Nat} {ret : Option FieldType} {R : Room} {cells slots : Nat} {E : Array Value → State → Prop} {Qf : List Frame → Array Value → State → State → Prop} {w : Mm} {pc : Nat} {lv : List (Nat × Value)} {st : List Value} {index : Nat} (hw : Cond.fieldLink own index "java/lang/String" "COMPACT_STRINGS" "Z" ∈ ap_gw) (hdg : decode cc pc = .ok (.getstatic index, 3)) (kk : AW l K cc own nL ret R cells slots E Qf w (pc + 3) lv (.int 1 :: st)) : AW l K cc own nL ret R cells slots E Qf w pc lv st := by
  intro p e s m args below meth c H locs ls hC hP hS hl
  obtain ⟨h4, h5, h6⟩ := hC.2.2.2.2.2.2.2.1.2.2.2.1
  exact va_gets hC.1 hC.2.1 h5 hS hC.2.2.2.2.1 (hC.2.2.2.2.2.1 _ hw) (fun _ h => h) hdg (kk p e s m args below meth c H locs ls hC hP hS hl)
theorem ap_gSF {l : Launch} {K : Kt} {cc : ByteArray} {own : String} {nL : Nat} {ret : Option FieldType} {R : Room} {cells slots : Nat} {E : Array Value → State → Prop} {Qf : List Frame → Array Value → State → State → Prop} {w : Mm} {pc : Nat} {lv : List (Nat × Value)} {st : List Value} {index : Nat} (hw : Cond.fieldLink own index "jdk/internal/util/Preconditions" "SIOOBE_FORMATTER" "Ljava/util/function/BiFunction;" ∈ ap_gw) (hdg : decode cc pc = .ok (.getstatic index, 3)) (k1 : AW l K cc own nL ret R cells slots E Qf w (pc + 3) lv (.null :: st)) (k2 : ∀ t : Nat, AW l K cc own nL ret R cells slots E Qf w (pc + 3) lv (.ref t :: st)) : AW l K cc own nL ret R cells slots E Qf w pc lv st := by
  intro p e s m args below meth c H locs ls hC hP hS hl
  obtain ⟨h4, h5, h6⟩ := hC.2.2.2.2.2.2.2.1.2.2.2.1
  rcases h6 with h6 | ⟨t, h6⟩
  · exact va_gets hC.1 hC.2.1 h6 hS hC.2.2.2.2.1 (hC.2.2.2.2.2.1 _ hw) (fun _ h => h) hdg (k1 p e s m args below meth c H locs ls hC hP hS hl)
  · exact va_gets hC.1 hC.2.1 h6 hS hC.2.2.2.2.1 (hC.2.2.2.2.2.1 _ hw) (fun _ h => h) hdg (k2 t p e s m args below meth c H locs ls hC hP hS hl)
theorem ap_sval {l : Launch} {K : Kt} {cc : ByteArray} {own : String} {nL : Nat} {ret : Option FieldType} {R : Room} {cells slots : Nat} {E : Array Value → State → Prop} {Qf : List Frame → Array Value → State → State → Prop} {w : Mm} {pc : Nat} {lv : List (Nat × Value)} {st : List Value} {index i : Nat} (hi : i < 3) (hw : Cond.fieldLink own index "java/lang/String" "value" "[B" ∈ ap_gw) (hdg : decode cc pc = .ok (.getfield index, 3)) (kk : AW l K cc own nL ret R cells slots E Qf w (pc + 3) lv (.ref (K.2.2.2.2 i) :: st)) : AW l K cc own nL ret R cells slots E Qf w pc lv (.ref (K.2.2.2.1 i) :: st) := by
  intro p e s m args below meth c H locs ls hC hP hS hl
  obtain ⟨h4, h5, h6⟩ := hC.2.2.2.2.2.2.2.1.2.2.2.1
  exact vk_getf hC.1 hC.2.1 (h4.1 i hi).2.2.1 hS hC.2.2.2.2.1 (hC.2.2.2.2.2.1 _ hw) (fun _ h => h) hdg (kk p e s m args below meth c H locs ls hC hP hS hl)
theorem ap_scod {l : Launch} {K : Kt} {cc : ByteArray} {own : String} {nL : Nat} {ret : Option FieldType} {R : Room} {cells slots : Nat} {E : Array Value → State → Prop} {Qf : List Frame → Array Value → State → State → Prop} {w : Mm} {pc : Nat} {lv : List (Nat × Value)} {st : List Value} {index i : Nat} (hi : i < 3) (hw : Cond.fieldLink own index "java/lang/String" "coder" "B" ∈ ap_gw) (hdg : decode cc pc = .ok (.getfield index, 3)) (kk : AW l K cc own nL ret R cells slots E Qf w (pc + 3) lv (.int 0 :: st)) : AW l K cc own nL ret R cells slots E Qf w pc lv (.ref (K.2.2.2.1 i) :: st) := by
  intro p e s m args below meth c H locs ls hC hP hS hl
  obtain ⟨h4, h5, h6⟩ := hC.2.2.2.2.2.2.2.1.2.2.2.1
  exact vk_getf hC.1 hC.2.1 (h4.1 i hi).2.1 hS hC.2.2.2.2.1 (hC.2.2.2.2.2.1 _ hw) (fun _ h => h) hdg (kk p e s m args below meth c H locs ls hC hP hS hl)
theorem ap_sblen {l : Launch} {K : Kt} {cc : ByteArray} {own : String} {nL : Nat} {ret : Option FieldType} {R : Room} {cells slots : Nat} {E : Array Value → State → Prop} {Qf : List Frame → Array Value → State → State → Prop} {w : Mm} {pc : Nat} {lv : List (Nat × Value)} {st : List Value} {i : Nat} (hi : i < 3) (hdg : decode cc pc = .ok (.arraylength, 1)) (kk : AW l K cc own nL ret R cells slots E Qf w (pc + 1) lv (.int (Int32.ofNat (stL i)) :: st)) : AW l K cc own nL ret R cells slots E Qf w pc lv (.ref (K.2.2.2.2 i) :: st) := by
  intro p e s m args below meth c H locs ls hC hP hS hl
  obtain ⟨h4, h5, h6⟩ := hC.2.2.2.2.2.2.2.1.2.2.2.1
  obtain ⟨cell, q1, q2, q3, q4, q5, -⟩ := (h4.1 i hi).2.2.2.kept hS.2.1
  exact W.alen hC.1 hC.2.1 q1 q2 q5 rfl rfl hdg (kk p e s m args below meth c H locs ls hC hP hS hl)
theorem ap_sbld {l : Launch} {K : Kt} {cc : ByteArray} {own : String} {nL : Nat} {ret : Option FieldType} {R : Room} {cells slots : Nat} {E : Array Value → State → Prop} {Qf : List Frame → Array Value → State → State → Prop} {w : Mm} {pc : Nat} {lv : List (Nat × Value)} {st : List Value} {i : Nat} {x : Int32} (hi : i < 3) (hin : vp_in x (stL i)) (hdg : decode cc pc = .ok (.baload, 1)) (kk : AW l K cc own nL ret R cells slots E Qf w (pc + 1) lv (.int (stB i x.toNatClampNeg) :: st)) : AW l K cc own nL ret R cells slots E Qf w pc lv (.int x :: .ref (K.2.2.2.2 i) :: st) := by
  intro p e s m args below meth c H locs ls hC hP hS hl
  obtain ⟨h4, h5, h6⟩ := hC.2.2.2.2.2.2.2.1.2.2.2.1
  exact va_tb hC.1 hC.2.1 (h4.1 i hi).2.2.2 hS hin rfl hdg (kk p e s m args below meth c H locs ls hC hP hS hl)
theorem ap_nret {l : Launch} {K : Kt} {cc : ByteArray} {own : String} {nL : Nat} {ret : Option FieldType} {R : Room} {E : Array Value → State → Prop} {w : Mm} {pc : Nat} {lv : List (Nat × Value)} {v : Int32} {ty : FieldType} (hret : ret = some ty) (hn : narrow ty (.int v) = .int v) (hdg : decode cc pc = .ok (.ireturn, 1)) : AW l K cc own nL ret R 0 0 E (ap_F K (some (.int v)) w) w pc lv [.int v] := by
  intro p e s m args below meth c H locs ls hC hP hS hl
  have hlocks := hC.2.2.2.2.2.2.1
  exact W.zret (v := v) (ty := ty) hC.1 hC.2.1 (hC.2.2.2.1.trans hret) hn (fun t ht hW => ⟨rfl, by rw [ht]; exact hP, hS.F ht⟩) hS.2.2 hdg hlocks
theorem ap_callT {l : Launch} {K : Kt} {cc : ByteArray} {own : String} {nL : Nat} {ret : Option FieldType} {R : Room} {cells slots : Nat} {E : Array Value → State → Prop} {Qf : List Frame → Array Value → State → State → Prop} {w : Mm} {pc : Nat} {lv : List (Nat × Value)} {st : List Value} {index n i : Nat} {y : MethodName} {bytes : ByteArray} {maxL : Nat} {ret1 : Option FieldType} {rm : Room} {w1 : Mm} {As st0 : List Value} {r : Option Value} (hi : i < 3) (hM : MC l K y bytes maxL ret1 rm w (.ref (K.2.2.2.1 i) :: As) r w1) (hw : ap_cV own index "java/lang/String" y bytes maxL ret1 n) (hR : ap_rm R rm maxL) (hn : As.length = n) (hcat : (st.map fun v => v.category).sum ≤ 8) (hcs : cells ≤ R.cells ∧ slots ≤ R.slots) (hdg : decode cc pc = .ok (.invokevirtual index, 3)) (hst : st0 = As.reverse ++ .ref (K.2.2.2.1 i) :: st)
    {st1 : List Value} (hst1 : r.toList ++ st = st1) (kk : AW l K cc own nL ret R cells slots E Qf w1 (pc + 3) lv st1) : AW l K cc own nL ret R cells slots E Qf w pc lv st0 := by
  intro p e s m args below meth c H locs ls hC hP hS hl
  subst hst1
  obtain ⟨h4, h5, h6⟩ := hC.2.2.2.2.2.2.2.1.2.2.2.1
  refine ap_after (va_runV (Ts := ap_gw) (As := As) (rest := st) (b := K.2.2.2.1 i) ⟨hC.1, hC.2.1, hC.2.2.1, hC.2.2.2.2.1, hC.2.2.2.2.2.1⟩ hM (cwV n hC.2.2.2.2.2.1 hw.1 rfl hR.1 hR.2.1 hw.2 hR.2.2) ⟨ap_P.blind, vk_recv h4 hi hS, fun U hU hW => ⟨rfl, by rw [hU]; exact hP, hC.2.2.2.2.2.2.2.1.call hS hU hW⟩⟩ rfl hn hl.1 hst (lv_room hcat) hdg hcs) hC hS hl kk
theorem wd_488 : Cond.methodLink RX5 100 yJ0_length_8abf5 ∈ ap_gw := ap_in 488 (by decide +kernel) (by decide +kernel)
theorem wd_492 : Cond.methodLink RJ0 335 yJ0_coder_7d493 ∈ ap_gw := ap_in 492 (by decide +kernel) (by decide +kernel)
theorem wd_498 : Cond.methodLink RX5 105 yJ0_charAt_5068e ∈ ap_gw := ap_in 498 (by decide +kernel) (by decide +kernel)
theorem wd_502 : Cond.methodLink RJ0 492 yJ0_isLatin1_aae02 ∈ ap_gw := ap_in 502 (by decide +kernel) (by decide +kernel)
theorem wd_506 : Cond.methodLink RJ0 495 yJ1_charAt_3b067 ∈ ap_gw := ap_in 506 (by decide +kernel) (by decide +kernel)
theorem wd_509 : Cond.methodLink RJ1 9 yJ0_checkIndex_df160 ∈ ap_gw := ap_in 509 (by decide +kernel) (by decide +kernel)
theorem wd_514 : Cond.methodLink RJ0 1059 yJ3_checkIndex_8e157 ∈ ap_gw := ap_in 514 (by decide +kernel) (by decide +kernel)
theorem wd_489 : Cond.instanceMethod yJ0_length_8abf5 ∈ ap_gw := ap_in 489 (by decide +kernel) (by decide +kernel)
theorem wd_490 : Cond.selects "java/lang/String" yJ0_length_8abf5 yJ0_length_8abf5 ∈ ap_gw := ap_in 490 (by decide +kernel) (by decide +kernel)
theorem wd_499 : Cond.instanceMethod yJ0_charAt_5068e ∈ ap_gw := ap_in 499 (by decide +kernel) (by decide +kernel)
theorem wd_500 : Cond.selects "java/lang/String" yJ0_charAt_5068e yJ0_charAt_5068e ∈ ap_gw := ap_in 500 (by decide +kernel) (by decide +kernel)
theorem wd_493 : Cond.instanceMethod yJ0_coder_7d493 ∈ ap_gw := ap_in 493 (by decide +kernel) (by decide +kernel)
theorem wd_494 : Cond.selects "java/lang/String" yJ0_coder_7d493 yJ0_coder_7d493 ∈ ap_gw := ap_in 494 (by decide +kernel) (by decide +kernel)
theorem wd_503 : Cond.instanceMethod yJ0_isLatin1_aae02 ∈ ap_gw := ap_in 503 (by decide +kernel) (by decide +kernel)
theorem wd_504 : Cond.selects "java/lang/String" yJ0_isLatin1_aae02 yJ0_isLatin1_aae02 ∈ ap_gw := ap_in 504 (by decide +kernel) (by decide +kernel)
theorem wd_510 : Cond.static yJ0_checkIndex_df160 ∈ ap_gw := ap_in 510 (by decide +kernel) (by decide +kernel)
theorem wd_507 : Cond.static yJ1_charAt_3b067 ∈ ap_gw := ap_in 507 (by decide +kernel) (by decide +kernel)
theorem wd_515 : Cond.static yJ3_checkIndex_8e157 ∈ ap_gw := ap_in 515 (by decide +kernel) (by decide +kernel)
theorem wd_491 : Cond.code yJ0_length_8abf5 cJ0_length_8abf5 1 (some .int) ∈ ap_gw := ap_in 491 (by decide +kernel) (by decide +kernel)
theorem wd_501 : Cond.code yJ0_charAt_5068e cJ0_charAt_5068e 2 (some .char) ∈ ap_gw := ap_in 501 (by decide +kernel) (by decide +kernel)
theorem wd_495 : Cond.code yJ0_coder_7d493 cJ0_coder_7d493 1 (some .byte) ∈ ap_gw := ap_in 495 (by decide +kernel) (by decide +kernel)
theorem wd_505 : Cond.code yJ0_isLatin1_aae02 cJ0_isLatin1_aae02 1 (some .boolean) ∈ ap_gw := ap_in 505 (by decide +kernel) (by decide +kernel)
theorem wd_511 : Cond.code yJ0_checkIndex_df160 cJ0_checkIndex_df160 2 none ∈ ap_gw := ap_in 511 (by decide +kernel) (by decide +kernel)
theorem wd_508 : Cond.code yJ1_charAt_3b067 cJ1_charAt_3b067 2 (some .char) ∈ ap_gw := ap_in 508 (by decide +kernel) (by decide +kernel)
theorem wd_516 : Cond.code yJ3_checkIndex_8e157 cJ3_checkIndex_8e157 3 (some .int) ∈ ap_gw := ap_in 516 (by decide +kernel) (by decide +kernel)
theorem wd_71 : Cond.initialized "java/lang/String" ∈ ap_gw := ap_in 71 (by decide +kernel) (by decide +kernel)
theorem wd_72 : Cond.initialized "java/lang/StringLatin1" ∈ ap_gw := ap_in 72 (by decide +kernel) (by decide +kernel)
theorem wd_73 : Cond.initialized "jdk/internal/util/Preconditions" ∈ ap_gw := ap_in 73 (by decide +kernel) (by decide +kernel)
theorem wd_496 : Cond.fieldLink RJ0 38 "java/lang/String" "COMPACT_STRINGS" "Z" ∈ ap_gw := ap_in 496 (by decide +kernel) (by decide +kernel)
theorem wd_512 : Cond.fieldLink RJ0 1053 "jdk/internal/util/Preconditions" "SIOOBE_FORMATTER" "Ljava/util/function/BiFunction;" ∈ ap_gw := ap_in 512 (by decide +kernel) (by decide +kernel)
theorem wd_1332 : Cond.fieldLink RJ0 9 "java/lang/String" "value" "[B" ∈ ap_gw := ap_in 1332 (by decide +kernel) (by decide +kernel)
theorem wd_1333 : Cond.fieldLink RJ0 15 "java/lang/String" "coder" "B" ∈ ap_gw := ap_in 1333 (by decide +kernel) (by decide +kernel)
theorem cv_X5_100 : ap_cV RX5 100 "java/lang/String" yJ0_length_8abf5 cJ0_length_8abf5 1 (some .int) 0 := ⟨ap_g4 wd_488 wd_489 wd_490 wd_71 (ap_good wd_491), by decide +kernel⟩
theorem cv_J0_335 : ap_cV RJ0 335 "java/lang/String" yJ0_coder_7d493 cJ0_coder_7d493 1 (some .byte) 0 := ⟨ap_g4 wd_492 wd_493 wd_494 wd_71 (ap_good wd_495), by decide +kernel⟩
theorem cv_X5_105 : ap_cV RX5 105 "java/lang/String" yJ0_charAt_5068e cJ0_charAt_5068e 2 (some .char) 1 := ⟨ap_g4 wd_498 wd_499 wd_500 wd_71 (ap_good wd_501), by decide +kernel⟩
theorem cv_J0_492 : ap_cV RJ0 492 "java/lang/String" yJ0_isLatin1_aae02 cJ0_isLatin1_aae02 1 (some .boolean) 0 := ⟨ap_g4 wd_502 wd_503 wd_504 wd_71 (ap_good wd_505), by decide +kernel⟩
theorem cs_J0_495 : ap_cS RJ0 495 yJ1_charAt_3b067 cJ1_charAt_3b067 2 (some .char) 2 := ⟨ap_gl (List.forall_mem_cons.mpr ⟨wd_506, List.forall_mem_cons.mpr ⟨wd_507, List.forall_mem_cons.mpr ⟨wd_72, fun _ h => absurd h List.not_mem_nil⟩⟩⟩) (ap_good wd_508), by decide +kernel⟩
theorem cs_J1_9 : ap_cS RJ1 9 yJ0_checkIndex_df160 cJ0_checkIndex_df160 2 none 2 := ⟨ap_gl (List.forall_mem_cons.mpr ⟨wd_509, List.forall_mem_cons.mpr ⟨wd_510, List.forall_mem_cons.mpr ⟨wd_71, fun _ h => absurd h List.not_mem_nil⟩⟩⟩) (ap_good wd_511), by decide +kernel⟩
theorem cs_J0_1059 : ap_cS RJ0 1059 yJ3_checkIndex_8e157 cJ3_checkIndex_8e157 3 (some .int) 3 := ⟨ap_gl (List.forall_mem_cons.mpr ⟨wd_514, List.forall_mem_cons.mpr ⟨wd_515, List.forall_mem_cons.mpr ⟨wd_73, fun _ h => absurd h List.not_mem_nil⟩⟩⟩) (ap_good wd_516), by decide +kernel⟩
abbrev rmT0 : Room := { frames := 0, cells := 0, slots := 0, locals := 0 }
abbrev rmT1 : Room := { frames := 1, cells := 0, slots := 0, locals := 22 }
abbrev rmT2 : Room := { frames := 2, cells := 0, slots := 0, locals := 43 }
abbrev rmT3 : Room := { frames := 3, cells := 0, slots := 0, locals := 64 }
set_option maxRecDepth 100000 in
set_option maxHeartbeats 4000000 in
theorem mcT_pc {l : Launch} {K : Kt} {w : Mm} {x z : Int32} {q : Value} (hq : q = .null ∨ ∃ t, q = .ref t) (h0 : ¬ x < 0) (h1 : x < z) : MC l K yJ3_checkIndex_8e157 cJ3_checkIndex_8e157 3 (some .int) rmT0 w [.int x, .int z, q] (some (.int x)) w := by
  rcases hq with rfl | ⟨t, rfl⟩
  · refine MC.of (lv := [(0, .int x), (1, .int z), (2, .null)]) (by decide) (Nat.le_of_ble_eq_true rfl) rfl ?_
    refine ap_iload_n dJ3_checkIndex_8e157_0 0 rfl rfl ?_
    refine ap_if_lt (tgt := 9) dJ3_checkIndex_8e157_1 (by decide) (fun hc => absurd hc h0) (fun hc => ?_)
    refine ap_iload_n dJ3_checkIndex_8e157_4 0 rfl rfl ?_
    refine ap_iload_n dJ3_checkIndex_8e157_5 1 rfl rfl ?_
    refine ap_icmp_lt (tgt := 16) dJ3_checkIndex_8e157_6 (by decide) (fun hc => ?_) (fun hc => absurd h1 hc)
    refine ap_iload_n dJ3_checkIndex_8e157_16 0 rfl rfl ?_
    exact ap_iret rfl dJ3_checkIndex_8e157_17
  · refine MC.of (lv := [(0, .int x), (1, .int z), (2, .ref t)]) (by decide) (Nat.le_of_ble_eq_true rfl) rfl ?_
    refine ap_iload_n dJ3_checkIndex_8e157_0 0 rfl rfl ?_
    refine ap_if_lt (tgt := 9) dJ3_checkIndex_8e157_1 (by decide) (fun hc => absurd hc h0) (fun hc => ?_)
    refine ap_iload_n dJ3_checkIndex_8e157_4 0 rfl rfl ?_
    refine ap_iload_n dJ3_checkIndex_8e157_5 1 rfl rfl ?_
    refine ap_icmp_lt (tgt := 16) dJ3_checkIndex_8e157_6 (by decide) (fun hc => ?_) (fun hc => absurd h1 hc)
    refine ap_iload_n dJ3_checkIndex_8e157_16 0 rfl rfl ?_
    exact ap_iret rfl dJ3_checkIndex_8e157_17
set_option maxRecDepth 100000 in
set_option maxHeartbeats 4000000 in
theorem mcT_ci {l : Launch} {K : Kt} {w : Mm} {x z : Int32} (h0 : ¬ x < 0) (h1 : x < z) : MC l K yJ0_checkIndex_df160 cJ0_checkIndex_df160 2 none rmT1 w [.int x, .int z] none w := by
  refine MC.of (lv := [(0, .int x), (1, .int z)]) (by decide) (Nat.le_of_ble_eq_true rfl) rfl ?_
  refine ap_iload_n dJ0_checkIndex_df160_0 0 rfl rfl ?_
  refine ap_iload_n dJ0_checkIndex_df160_1 1 rfl rfl ?_
  refine ap_gSF wd_512 dJ0_checkIndex_df160_2 ?_ (fun t => ?_)
  · refine ap_callS (As := [.int x, .int z, .null]) (st := []) (st1 := [.int x]) (mcT_pc (Or.inl rfl) h0 h1) cs_J0_1059 ⟨rfl, rfl, by decide, by decide⟩ rfl (Nat.le_of_ble_eq_true rfl) ⟨Nat.zero_le _, Nat.zero_le _⟩ dJ0_checkIndex_df160_5 rfl rfl ?_
    refine ap_pop dJ0_checkIndex_df160_8 rfl ?_
    exact ap_vret rfl dJ0_checkIndex_df160_9
  · refine ap_callS (As := [.int x, .int z, .ref t]) (st := []) (st1 := [.int x]) (mcT_pc (Or.inr ⟨t, rfl⟩) h0 h1) cs_J0_1059 ⟨rfl, rfl, by decide, by decide⟩ rfl (Nat.le_of_ble_eq_true rfl) ⟨Nat.zero_le _, Nat.zero_le _⟩ dJ0_checkIndex_df160_5 rfl rfl ?_
    refine ap_pop dJ0_checkIndex_df160_8 rfl ?_
    exact ap_vret rfl dJ0_checkIndex_df160_9
theorem stL_lt (i : Nat) (hi : i < 3) : stL i < 2 ^ 31 := by
  rcases (show i = 0 ∨ i = 1 ∨ i = 2 by omega) with rfl | rfl | rfl <;> decide
set_option maxRecDepth 100000 in
set_option maxHeartbeats 4000000 in
theorem mcT_c1 {l : Launch} {K : Kt} {w : Mm} {i : Nat} {x v : Int32} (hi : i < 3) (h : stC i x = some v) : MC l K yJ1_charAt_3b067 cJ1_charAt_3b067 2 (some .char) rmT2 w [.ref (K.2.2.2.2 i), .int x] (some (.int v)) w := by
  unfold stC at h
  by_cases hc : x < 0 ∨ stL i ≤ x.toNatClampNeg
  · rw [if_pos hc] at h; cases h
  rw [if_neg hc] at h
  obtain rfl := Option.some.inj h
  have hin : vp_in x (stL i) := hc
  obtain ⟨j, hj, rfl⟩ := vp_in_of hin (stL_lt i hi)
  have h1 : nI j < Int32.ofNat (stL i) := nI_lt hj (stL_lt i hi)
  refine MC.of (lv := [(0, .ref (K.2.2.2.2 i)), (1, .int (nI j))]) (by decide) (Nat.le_of_ble_eq_true rfl) rfl ?_
  refine ap_iload_n dJ1_charAt_3b067_0 1 rfl rfl ?_
  refine ap_aload_n dJ1_charAt_3b067_1 0 rfl rfl ?_
  refine ap_sblen hi dJ1_charAt_3b067_2 ?_
  refine ap_callS (As := [.int (nI j), .int (Int32.ofNat (stL i))]) (st := []) (st1 := []) (mcT_ci (fun q => hc (Or.inl q)) h1) cs_J1_9 ⟨rfl, rfl, by decide, by decide⟩ rfl (Nat.le_of_ble_eq_true rfl) ⟨Nat.zero_le _, Nat.zero_le _⟩ dJ1_charAt_3b067_3 rfl rfl ?_
  refine ap_aload_n dJ1_charAt_3b067_6 0 rfl rfl ?_
  refine ap_iload_n dJ1_charAt_3b067_7 1 rfl rfl ?_
  refine ap_sbld hi hin dJ1_charAt_3b067_8 ?_
  refine ap_sipush (v := 255) dJ1_charAt_3b067_9 (by decide) ?_
  refine ap_iand dJ1_charAt_3b067_12 ?_
  refine ap_i2c dJ1_charAt_3b067_13 rfl ?_
  exact ap_nret (ty := .char) rfl (pk_nc _) dJ1_charAt_3b067_14
set_option maxRecDepth 100000 in
set_option maxHeartbeats 4000000 in
theorem mcT_co {l : Launch} {K : Kt} {w : Mm} {i : Nat} (hi : i < 3) : MC l K yJ0_coder_7d493 cJ0_coder_7d493 1 (some .byte) rmT0 w [.ref (K.2.2.2.1 i)] (some (.int 0)) w := by
  refine MC.of (lv := [(0, .ref (K.2.2.2.1 i))]) (by decide) (Nat.le_of_ble_eq_true rfl) rfl ?_
  refine ap_gCS wd_496 dJ0_coder_7d493_0 ?_
  refine ap_if_eq (tgt := 13) dJ0_coder_7d493_3 (by decide) (fun hc => absurd hc (by decide)) (fun hc => ?_)
  refine ap_aload_n dJ0_coder_7d493_6 0 rfl rfl ?_
  refine ap_scod hi wd_1333 dJ0_coder_7d493_7 ?_
  refine ap_goto (tgt := 14) dJ0_coder_7d493_10 (by decide) ?_
  exact ap_nret (ty := .byte) rfl (by decide) dJ0_coder_7d493_14
set_option maxRecDepth 100000 in
set_option maxHeartbeats 4000000 in
theorem mcT_la {l : Launch} {K : Kt} {w : Mm} {i : Nat} (hi : i < 3) : MC l K yJ0_isLatin1_aae02 cJ0_isLatin1_aae02 1 (some .boolean) rmT0 w [.ref (K.2.2.2.1 i)] (some (.int 1)) w := by
  refine MC.of (lv := [(0, .ref (K.2.2.2.1 i))]) (by decide) (Nat.le_of_ble_eq_true rfl) rfl ?_
  refine ap_gCS wd_496 dJ0_isLatin1_aae02_0 ?_
  refine ap_if_eq (tgt := 17) dJ0_isLatin1_aae02_3 (by decide) (fun hc => absurd hc (by decide)) (fun hc => ?_)
  refine ap_aload_n dJ0_isLatin1_aae02_6 0 rfl rfl ?_
  refine ap_scod hi wd_1333 dJ0_isLatin1_aae02_7 ?_
  refine ap_if_ne (tgt := 17) dJ0_isLatin1_aae02_10 (by decide) (fun hc => absurd rfl hc) (fun hc => ?_)
  refine ap_iconst (v := 1) dJ0_isLatin1_aae02_13 (by decide) ?_
  refine ap_goto (tgt := 18) dJ0_isLatin1_aae02_14 (by decide) ?_
  exact ap_zret rfl (Or.inr rfl) dJ0_isLatin1_aae02_18
set_option maxRecDepth 100000 in
set_option maxHeartbeats 4000000 in
theorem mcT_le {l : Launch} {K : Kt} {w : Mm} {i : Nat} (hi : i < 3) : MC l K yJ0_length_8abf5 cJ0_length_8abf5 1 (some .int) rmT1 w [.ref (K.2.2.2.1 i)] (some (.int (Int32.ofNat (stL i)))) w := by
  refine MC.of (lv := [(0, .ref (K.2.2.2.1 i))]) (by decide) (Nat.le_of_ble_eq_true rfl) rfl ?_
  refine ap_aload_n dJ0_length_8abf5_0 0 rfl rfl ?_
  refine ap_sval hi wd_1332 dJ0_length_8abf5_1 ?_
  refine ap_sblen hi dJ0_length_8abf5_4 ?_
  refine ap_aload_n dJ0_length_8abf5_5 0 rfl rfl ?_
  refine ap_callT hi (As := []) (st := [.int (Int32.ofNat (stL i))]) (st1 := [.int 0, .int (Int32.ofNat (stL i))]) (mcT_co hi) cv_J0_335 ⟨rfl, rfl, by decide, by decide⟩ rfl (Nat.le_of_ble_eq_true rfl) ⟨Nat.zero_le _, Nat.zero_le _⟩ dJ0_length_8abf5_6 rfl rfl ?_
  refine ap_ishr dJ0_length_8abf5_9 ?_
  have e : Int32.ofNat (stL i) >>> ((0 : Int32) &&& 31) = Int32.ofNat (stL i) := by
    rcases (show i = 0 ∨ i = 1 ∨ i = 2 by omega) with rfl | rfl | rfl <;> decide
  rw [e]
  exact ap_iret rfl dJ0_length_8abf5_10
set_option maxRecDepth 100000 in
set_option maxHeartbeats 4000000 in
theorem mcT_ch {l : Launch} {K : Kt} {w : Mm} {i : Nat} {x v : Int32} (hi : i < 3) (h : stC i x = some v) : MC l K yJ0_charAt_5068e cJ0_charAt_5068e 2 (some .char) rmT3 w [.ref (K.2.2.2.1 i), .int x] (some (.int v)) w := by
  refine MC.of (lv := [(0, .ref (K.2.2.2.1 i)), (1, .int x)]) (by decide) (Nat.le_of_ble_eq_true rfl) rfl ?_
  refine ap_aload_n dJ0_charAt_5068e_0 0 rfl rfl ?_
  refine ap_callT hi (As := []) (st := []) (st1 := [.int 1]) (mcT_la hi) cv_J0_492 ⟨rfl, rfl, by decide, by decide⟩ rfl (Nat.le_of_ble_eq_true rfl) ⟨Nat.zero_le _, Nat.zero_le _⟩ dJ0_charAt_5068e_1 rfl rfl ?_
  refine ap_if_eq (tgt := 16) dJ0_charAt_5068e_4 (by decide) (fun hc => absurd hc (by decide)) (fun hc => ?_)
  refine ap_aload_n dJ0_charAt_5068e_7 0 rfl rfl ?_
  refine ap_sval hi wd_1332 dJ0_charAt_5068e_8 ?_
  refine ap_iload_n dJ0_charAt_5068e_11 1 rfl rfl ?_
  refine ap_callS (As := [.ref (K.2.2.2.2 i), .int x]) (st := []) (st1 := [.int v]) (mcT_c1 hi h) cs_J0_495 ⟨rfl, rfl, by decide, by decide⟩ rfl (Nat.le_of_ble_eq_true rfl) ⟨Nat.zero_le _, Nat.zero_le _⟩ dJ0_charAt_5068e_12 rfl rfl ?_
  have hv : narrow .char (.int v) = .int v := by
    unfold stC at h
    by_cases hc : x < 0 ∨ stL i ≤ x.toNatClampNeg
    · rw [if_pos hc] at h; cases h
    rw [if_neg hc] at h
    obtain rfl := Option.some.inj h
    exact pk_nc _
  exact ap_nret (ty := .char) rfl hv dJ0_charAt_5068e_15

section
-- ===== PART A: goes FIRST, ahead of the names: the tables' words, and 'selects' of the private methods out of them =====
/-- a private method of a class that the tables say can be made, by its rows of tables_1 -/
def lw_okq (q : MethodName × Nat) : Prop := (q.1.cls ≠ "java/lang/invoke/MethodHandle" ∧ q.1.cls ≠ "java/lang/invoke/VarHandle") ∧ Cond.instantiable q.1.cls q.2 ∈ tables_1 ∧ Cond.privateMethod q.1 ∈ tables_1 ∧ Cond.instanceMethod q.1 ∈ tables_1
theorem lw_p0 : lw_okq (⟨"CandleLand", "bad", "(I)I"⟩, 12) := ⟨⟨by decide +kernel, by decide +kernel⟩, List.mem_of_getElem? (i := 22) (by decide +kernel), List.mem_of_getElem? (i := 328) (by decide +kernel), List.mem_of_getElem? (i := 329) (by decide +kernel)⟩
theorem lw_p1 : lw_okq (⟨"CandleLand", "full", "()I"⟩, 12) := ⟨⟨by decide +kernel, by decide +kernel⟩, List.mem_of_getElem? (i := 22) (by decide +kernel), List.mem_of_getElem? (i := 350) (by decide +kernel), List.mem_of_getElem? (i := 351) (by decide +kernel)⟩
theorem lw_p2 : lw_okq (⟨"CandleLand", "no", "()I"⟩, 12) := ⟨⟨by decide +kernel, by decide +kernel⟩, List.mem_of_getElem? (i := 22) (by decide +kernel), List.mem_of_getElem? (i := 381) (by decide +kernel), List.mem_of_getElem? (i := 382) (by decide +kernel)⟩
theorem lw_p3 : lw_okq (⟨"CandleLand$Reader", "advance", "()V"⟩, 7) := ⟨⟨by decide +kernel, by decide +kernel⟩, List.mem_of_getElem? (i := 121) (by decide +kernel), List.mem_of_getElem? (i := 414) (by decide +kernel), List.mem_of_getElem? (i := 415) (by decide +kernel)⟩
theorem lw_p4 : lw_okq (⟨"CandleLand$Reader", "takeItem", "(Z)Z"⟩, 7) := ⟨⟨by decide +kernel, by decide +kernel⟩, List.mem_of_getElem? (i := 121) (by decide +kernel), List.mem_of_getElem? (i := 424) (by decide +kernel), List.mem_of_getElem? (i := 425) (by decide +kernel)⟩
theorem lw_p5 : lw_okq (⟨"CandleLand$Reader", "spells", "(Ljava/lang/String;)Z"⟩, 7) := ⟨⟨by decide +kernel, by decide +kernel⟩, List.mem_of_getElem? (i := 121) (by decide +kernel), List.mem_of_getElem? (i := 429) (by decide +kernel), List.mem_of_getElem? (i := 430) (by decide +kernel)⟩
theorem lw_p6 : lw_okq (⟨"CandleLand$Reader", "takeFog", "()Z"⟩, 7) := ⟨⟨by decide +kernel, by decide +kernel⟩, List.mem_of_getElem? (i := 121) (by decide +kernel), List.mem_of_getElem? (i := 481) (by decide +kernel), List.mem_of_getElem? (i := 482) (by decide +kernel)⟩
theorem lw_p7 : lw_okq (⟨"CandleLand$Reader", "takeNumber", "(II)Z"⟩, 7) := ⟨⟨by decide +kernel, by decide +kernel⟩, List.mem_of_getElem? (i := 121) (by decide +kernel), List.mem_of_getElem? (i := 485) (by decide +kernel), List.mem_of_getElem? (i := 486) (by decide +kernel)⟩
theorem lw_p8 : lw_okq (⟨"CandleLand$Reader", "takeStop", "()Z"⟩, 7) := ⟨⟨by decide +kernel, by decide +kernel⟩, List.mem_of_getElem? (i := 121) (by decide +kernel), List.mem_of_getElem? (i := 490) (by decide +kernel), List.mem_of_getElem? (i := 491) (by decide +kernel)⟩
theorem lw_p9 : lw_okq (⟨"CandleLand$Reader", "takeCandle", "()Z"⟩, 7) := ⟨⟨by decide +kernel, by decide +kernel⟩, List.mem_of_getElem? (i := 121) (by decide +kernel), List.mem_of_getElem? (i := 495) (by decide +kernel), List.mem_of_getElem? (i := 496) (by decide +kernel)⟩
theorem lw_p10 : lw_okq (⟨"CandleLand$Reader", "takeOut", "()Z"⟩, 7) := ⟨⟨by decide +kernel, by decide +kernel⟩, List.mem_of_getElem? (i := 121) (by decide +kernel), List.mem_of_getElem? (i := 501) (by decide +kernel), List.mem_of_getElem? (i := 502) (by decide +kernel)⟩
theorem lw_p11 : lw_okq (⟨"CandleLand$Night", "layFar", "(II)V"⟩, 9) := ⟨⟨by decide +kernel, by decide +kernel⟩, List.mem_of_getElem? (i := 155) (by decide +kernel), List.mem_of_getElem? (i := 612) (by decide +kernel), List.mem_of_getElem? (i := 613) (by decide +kernel)⟩
theorem lw_p12 : lw_okq (⟨"CandleLand$Sets", "howManySets", "()I"⟩, 7) := ⟨⟨by decide +kernel, by decide +kernel⟩, List.mem_of_getElem? (i := 233) (by decide +kernel), List.mem_of_getElem? (i := 654) (by decide +kernel), List.mem_of_getElem? (i := 655) (by decide +kernel)⟩
theorem lw_p13 : lw_okq (⟨"CandleLand$Sets", "lightsWanted", "(I)Z"⟩, 7) := ⟨⟨by decide +kernel, by decide +kernel⟩, List.mem_of_getElem? (i := 233) (by decide +kernel), List.mem_of_getElem? (i := 658) (by decide +kernel), List.mem_of_getElem? (i := 659) (by decide +kernel)⟩
theorem lw_p14 : lw_okq (⟨"CandleLand$Sets", "tallowOf", "(I)I"⟩, 7) := ⟨⟨by decide +kernel, by decide +kernel⟩, List.mem_of_getElem? (i := 233) (by decide +kernel), List.mem_of_getElem? (i := 676) (by decide +kernel), List.mem_of_getElem? (i := 677) (by decide +kernel)⟩
theorem lw_p15 : lw_okq (⟨"CandleLand$Night", "candlesOf", "(I)I"⟩, 9) := ⟨⟨by decide +kernel, by decide +kernel⟩, List.mem_of_getElem? (i := 155) (by decide +kernel), List.mem_of_getElem? (i := 689) (by decide +kernel), List.mem_of_getElem? (i := 690) (by decide +kernel)⟩
def lw_privs_1 : List (MethodName × Nat) := [(⟨"CandleLand", "bad", "(I)I"⟩, 12), (⟨"CandleLand", "full", "()I"⟩, 12), (⟨"CandleLand", "no", "()I"⟩, 12), (⟨"CandleLand$Reader", "advance", "()V"⟩, 7), (⟨"CandleLand$Reader", "takeItem", "(Z)Z"⟩, 7), (⟨"CandleLand$Reader", "spells", "(Ljava/lang/String;)Z"⟩, 7), (⟨"CandleLand$Reader", "takeFog", "()Z"⟩, 7), (⟨"CandleLand$Reader", "takeNumber", "(II)Z"⟩, 7), (⟨"CandleLand$Reader", "takeStop", "()Z"⟩, 7), (⟨"CandleLand$Reader", "takeCandle", "()Z"⟩, 7), (⟨"CandleLand$Reader", "takeOut", "()Z"⟩, 7), (⟨"CandleLand$Night", "layFar", "(II)V"⟩, 9), (⟨"CandleLand$Sets", "howManySets", "()I"⟩, 7), (⟨"CandleLand$Sets", "lightsWanted", "(I)Z"⟩, 7), (⟨"CandleLand$Sets", "tallowOf", "(I)I"⟩, 7), (⟨"CandleLand$Night", "candlesOf", "(I)I"⟩, 9)]
theorem lw_r1 : ∀ q ∈ lw_privs_1, lw_okq q := List.forall_mem_cons.mpr ⟨lw_p0, List.forall_mem_cons.mpr ⟨lw_p1, List.forall_mem_cons.mpr ⟨lw_p2, List.forall_mem_cons.mpr ⟨lw_p3, List.forall_mem_cons.mpr ⟨lw_p4, List.forall_mem_cons.mpr ⟨lw_p5, List.forall_mem_cons.mpr ⟨lw_p6, List.forall_mem_cons.mpr ⟨lw_p7, List.forall_mem_cons.mpr ⟨lw_p8, List.forall_mem_cons.mpr ⟨lw_p9, List.forall_mem_cons.mpr ⟨lw_p10, List.forall_mem_cons.mpr ⟨lw_p11, List.forall_mem_cons.mpr ⟨lw_p12, List.forall_mem_cons.mpr ⟨lw_p13, List.forall_mem_cons.mpr ⟨lw_p14, List.forall_mem_cons.mpr ⟨lw_p15, fun _ h => absurd h List.not_mem_nil⟩⟩⟩⟩⟩⟩⟩⟩⟩⟩⟩⟩⟩⟩⟩⟩
theorem lw_p16 : lw_okq (⟨"CandleLand$Night", "acresFrom", "(I)I"⟩, 9) := ⟨⟨by decide +kernel, by decide +kernel⟩, List.mem_of_getElem? (i := 155) (by decide +kernel), List.mem_of_getElem? (i := 694) (by decide +kernel), List.mem_of_getElem? (i := 695) (by decide +kernel)⟩
theorem lw_p17 : lw_okq (⟨"CandleLand$Walk", "spreadFrom", "(II)I"⟩, 5) := ⟨⟨by decide +kernel, by decide +kernel⟩, List.mem_of_getElem? (i := 262) (by decide +kernel), List.mem_of_getElem? (i := 708) (by decide +kernel), List.mem_of_getElem? (i := 709) (by decide +kernel)⟩
theorem lw_p18 : lw_okq (⟨"CandleLand$Night", "acresOf", "(II[I)I"⟩, 9) := ⟨⟨by decide +kernel, by decide +kernel⟩, List.mem_of_getElem? (i := 155) (by decide +kernel), List.mem_of_getElem? (i := 731) (by decide +kernel), List.mem_of_getElem? (i := 732) (by decide +kernel)⟩
theorem lw_p19 : lw_okq (⟨"CandleLand$Sets", "mostAlike", "(I)I"⟩, 7) := ⟨⟨by decide +kernel, by decide +kernel⟩, List.mem_of_getElem? (i := 233) (by decide +kernel), List.mem_of_getElem? (i := 776) (by decide +kernel), List.mem_of_getElem? (i := 777) (by decide +kernel)⟩
theorem lw_p20 : lw_okq (⟨"CandleLand$Sets", "layLight", "(I)V"⟩, 7) := ⟨⟨by decide +kernel, by decide +kernel⟩, List.mem_of_getElem? (i := 233) (by decide +kernel), List.mem_of_getElem? (i := 780) (by decide +kernel), List.mem_of_getElem? (i := 781) (by decide +kernel)⟩
theorem lw_p21 : lw_okq (⟨"CandleLand", "keepFraction", "(JJ)V"⟩, 12) := ⟨⟨by decide +kernel, by decide +kernel⟩, List.mem_of_getElem? (i := 22) (by decide +kernel), List.mem_of_getElem? (i := 789) (by decide +kernel), List.mem_of_getElem? (i := 790) (by decide +kernel)⟩
theorem lw_p22 : lw_okq (⟨"CandleLand", "howMany", "(I)I"⟩, 12) := ⟨⟨by decide +kernel, by decide +kernel⟩, List.mem_of_getElem? (i := 22) (by decide +kernel), List.mem_of_getElem? (i := 832) (by decide +kernel), List.mem_of_getElem? (i := 833) (by decide +kernel)⟩
theorem lw_p23 : lw_okq (⟨"CandleLandModel", "bad", "(I)I"⟩, 23) := ⟨⟨by decide +kernel, by decide +kernel⟩, List.mem_of_getElem? (i := 847) (by decide +kernel), List.mem_of_getElem? (i := 931) (by decide +kernel), List.mem_of_getElem? (i := 932) (by decide +kernel)⟩
theorem lw_p24 : lw_okq (⟨"CandleLandModel", "candles", "()I"⟩, 23) := ⟨⟨by decide +kernel, by decide +kernel⟩, List.mem_of_getElem? (i := 847) (by decide +kernel), List.mem_of_getElem? (i := 935) (by decide +kernel), List.mem_of_getElem? (i := 936) (by decide +kernel)⟩
theorem lw_p25 : lw_okq (⟨"CandleLandModel", "full", "()I"⟩, 23) := ⟨⟨by decide +kernel, by decide +kernel⟩, List.mem_of_getElem? (i := 847) (by decide +kernel), List.mem_of_getElem? (i := 964) (by decide +kernel), List.mem_of_getElem? (i := 965) (by decide +kernel)⟩
theorem lw_p26 : lw_okq (⟨"CandleLandModel", "isCandle", "(I)Z"⟩, 23) := ⟨⟨by decide +kernel, by decide +kernel⟩, List.mem_of_getElem? (i := 847) (by decide +kernel), List.mem_of_getElem? (i := 975) (by decide +kernel), List.mem_of_getElem? (i := 976) (by decide +kernel)⟩
theorem lw_p27 : lw_okq (⟨"CandleLandModel", "get", "(II)I"⟩, 23) := ⟨⟨by decide +kernel, by decide +kernel⟩, List.mem_of_getElem? (i := 847) (by decide +kernel), List.mem_of_getElem? (i := 979) (by decide +kernel), List.mem_of_getElem? (i := 980) (by decide +kernel)⟩
theorem lw_p28 : lw_okq (⟨"CandleLandModel", "keep", "()V"⟩, 23) := ⟨⟨by decide +kernel, by decide +kernel⟩, List.mem_of_getElem? (i := 847) (by decide +kernel), List.mem_of_getElem? (i := 983) (by decide +kernel), List.mem_of_getElem? (i := 984) (by decide +kernel)⟩
theorem lw_p29 : lw_okq (⟨"CandleLandModel", "no", "()I"⟩, 23) := ⟨⟨by decide +kernel, by decide +kernel⟩, List.mem_of_getElem? (i := 847) (by decide +kernel), List.mem_of_getElem? (i := 991) (by decide +kernel), List.mem_of_getElem? (i := 992) (by decide +kernel)⟩
theorem lw_p30 : lw_okq (⟨"CandleLandModel", "layHand", "()V"⟩, 23) := ⟨⟨by decide +kernel, by decide +kernel⟩, List.mem_of_getElem? (i := 847) (by decide +kernel), List.mem_of_getElem? (i := 1015) (by decide +kernel), List.mem_of_getElem? (i := 1016) (by decide +kernel)⟩
theorem lw_p31 : lw_okq (⟨"CandleLandModel", "lightOf", "(III)I"⟩, 23) := ⟨⟨by decide +kernel, by decide +kernel⟩, List.mem_of_getElem? (i := 847) (by decide +kernel), List.mem_of_getElem? (i := 1019) (by decide +kernel), List.mem_of_getElem? (i := 1020) (by decide +kernel)⟩
def lw_privs_2 : List (MethodName × Nat) := [(⟨"CandleLand$Night", "acresFrom", "(I)I"⟩, 9), (⟨"CandleLand$Walk", "spreadFrom", "(II)I"⟩, 5), (⟨"CandleLand$Night", "acresOf", "(II[I)I"⟩, 9), (⟨"CandleLand$Sets", "mostAlike", "(I)I"⟩, 7), (⟨"CandleLand$Sets", "layLight", "(I)V"⟩, 7), (⟨"CandleLand", "keepFraction", "(JJ)V"⟩, 12), (⟨"CandleLand", "howMany", "(I)I"⟩, 12), (⟨"CandleLandModel", "bad", "(I)I"⟩, 23), (⟨"CandleLandModel", "candles", "()I"⟩, 23), (⟨"CandleLandModel", "full", "()I"⟩, 23), (⟨"CandleLandModel", "isCandle", "(I)Z"⟩, 23), (⟨"CandleLandModel", "get", "(II)I"⟩, 23), (⟨"CandleLandModel", "keep", "()V"⟩, 23), (⟨"CandleLandModel", "no", "()I"⟩, 23), (⟨"CandleLandModel", "layHand", "()V"⟩, 23), (⟨"CandleLandModel", "lightOf", "(III)I"⟩, 23)]
theorem lw_r2 : ∀ q ∈ lw_privs_2, lw_okq q := List.forall_mem_cons.mpr ⟨lw_p16, List.forall_mem_cons.mpr ⟨lw_p17, List.forall_mem_cons.mpr ⟨lw_p18, List.forall_mem_cons.mpr ⟨lw_p19, List.forall_mem_cons.mpr ⟨lw_p20, List.forall_mem_cons.mpr ⟨lw_p21, List.forall_mem_cons.mpr ⟨lw_p22, List.forall_mem_cons.mpr ⟨lw_p23, List.forall_mem_cons.mpr ⟨lw_p24, List.forall_mem_cons.mpr ⟨lw_p25, List.forall_mem_cons.mpr ⟨lw_p26, List.forall_mem_cons.mpr ⟨lw_p27, List.forall_mem_cons.mpr ⟨lw_p28, List.forall_mem_cons.mpr ⟨lw_p29, List.forall_mem_cons.mpr ⟨lw_p30, List.forall_mem_cons.mpr ⟨lw_p31, fun _ h => absurd h List.not_mem_nil⟩⟩⟩⟩⟩⟩⟩⟩⟩⟩⟩⟩⟩⟩⟩⟩
theorem lw_p32 : lw_okq (⟨"CandleLandModel", "whose", "(II)I"⟩, 23) := ⟨⟨by decide +kernel, by decide +kernel⟩, List.mem_of_getElem? (i := 847) (by decide +kernel), List.mem_of_getElem? (i := 1043) (by decide +kernel), List.mem_of_getElem? (i := 1044) (by decide +kernel)⟩
theorem lw_p33 : lw_okq (⟨"CandleLandModel", "lightIn", "(II)I"⟩, 23) := ⟨⟨by decide +kernel, by decide +kernel⟩, List.mem_of_getElem? (i := 847) (by decide +kernel), List.mem_of_getElem? (i := 1047) (by decide +kernel), List.mem_of_getElem? (i := 1048) (by decide +kernel)⟩
theorem lw_p34 : lw_okq (⟨"CandleLandModel", "listOf", "(III)I"⟩, 23) := ⟨⟨by decide +kernel, by decide +kernel⟩, List.mem_of_getElem? (i := 847) (by decide +kernel), List.mem_of_getElem? (i := 1055) (by decide +kernel), List.mem_of_getElem? (i := 1056) (by decide +kernel)⟩
theorem lw_p35 : lw_okq (⟨"CandleLandModel", "areLight", "(II)Z"⟩, 23) := ⟨⟨by decide +kernel, by decide +kernel⟩, List.mem_of_getElem? (i := 847) (by decide +kernel), List.mem_of_getElem? (i := 1082) (by decide +kernel), List.mem_of_getElem? (i := 1083) (by decide +kernel)⟩
theorem lw_p36 : lw_okq (⟨"CandleLandModel", "tallowOf", "(I)I"⟩, 23) := ⟨⟨by decide +kernel, by decide +kernel⟩, List.mem_of_getElem? (i := 847) (by decide +kernel), List.mem_of_getElem? (i := 1090) (by decide +kernel), List.mem_of_getElem? (i := 1091) (by decide +kernel)⟩
theorem lw_p37 : lw_okq (⟨"CandleLandModel", "acresOf", "(II)I"⟩, 23) := ⟨⟨by decide +kernel, by decide +kernel⟩, List.mem_of_getElem? (i := 847) (by decide +kernel), List.mem_of_getElem? (i := 1098) (by decide +kernel), List.mem_of_getElem? (i := 1099) (by decide +kernel)⟩
theorem lw_p38 : lw_okq (⟨"CandleLandModel", "laySteps", "(III)V"⟩, 23) := ⟨⟨by decide +kernel, by decide +kernel⟩, List.mem_of_getElem? (i := 847) (by decide +kernel), List.mem_of_getElem? (i := 1106) (by decide +kernel), List.mem_of_getElem? (i := 1107) (by decide +kernel)⟩
theorem lw_p39 : lw_okq (⟨"CandleLandModel", "isBeside", "(II)Z"⟩, 23) := ⟨⟨by decide +kernel, by decide +kernel⟩, List.mem_of_getElem? (i := 847) (by decide +kernel), List.mem_of_getElem? (i := 1111) (by decide +kernel), List.mem_of_getElem? (i := 1112) (by decide +kernel)⟩
theorem lw_p40 : lw_okq (⟨"CandleLandModel", "layGets", "(IIII)V"⟩, 23) := ⟨⟨by decide +kernel, by decide +kernel⟩, List.mem_of_getElem? (i := 847) (by decide +kernel), List.mem_of_getElem? (i := 1124) (by decide +kernel), List.mem_of_getElem? (i := 1125) (by decide +kernel)⟩
theorem lw_p41 : lw_okq (⟨"CandleLandModel", "ownOf", "(I)I"⟩, 23) := ⟨⟨by decide +kernel, by decide +kernel⟩, List.mem_of_getElem? (i := 847) (by decide +kernel), List.mem_of_getElem? (i := 1128) (by decide +kernel), List.mem_of_getElem? (i := 1129) (by decide +kernel)⟩
theorem lw_p42 : lw_okq (⟨"CandleLandModel", "layFits", "()V"⟩, 23) := ⟨⟨by decide +kernel, by decide +kernel⟩, List.mem_of_getElem? (i := 847) (by decide +kernel), List.mem_of_getElem? (i := 1145) (by decide +kernel), List.mem_of_getElem? (i := 1146) (by decide +kernel)⟩
theorem lw_p43 : lw_okq (⟨"CandleLandModel", "areSo", "()Z"⟩, 23) := ⟨⟨by decide +kernel, by decide +kernel⟩, List.mem_of_getElem? (i := 847) (by decide +kernel), List.mem_of_getElem? (i := 1149) (by decide +kernel), List.mem_of_getElem? (i := 1150) (by decide +kernel)⟩
theorem lw_p44 : lw_okq (⟨"CandleLandModel", "mostLike", "(II)I"⟩, 23) := ⟨⟨by decide +kernel, by decide +kernel⟩, List.mem_of_getElem? (i := 847) (by decide +kernel), List.mem_of_getElem? (i := 1157) (by decide +kernel), List.mem_of_getElem? (i := 1158) (by decide +kernel)⟩
theorem lw_p45 : lw_okq (⟨"CandleLandModel", "fraction", "(JJ)V"⟩, 23) := ⟨⟨by decide +kernel, by decide +kernel⟩, List.mem_of_getElem? (i := 847) (by decide +kernel), List.mem_of_getElem? (i := 1166) (by decide +kernel), List.mem_of_getElem? (i := 1167) (by decide +kernel)⟩
theorem lw_p46 : lw_okq (⟨"CandleLandModel", "lookAt", "(I)V"⟩, 23) := ⟨⟨by decide +kernel, by decide +kernel⟩, List.mem_of_getElem? (i := 847) (by decide +kernel), List.mem_of_getElem? (i := 1194) (by decide +kernel), List.mem_of_getElem? (i := 1195) (by decide +kernel)⟩
theorem lw_p47 : lw_okq (⟨"CandleLandModel", "takesFirst", "()Z"⟩, 23) := ⟨⟨by decide +kernel, by decide +kernel⟩, List.mem_of_getElem? (i := 847) (by decide +kernel), List.mem_of_getElem? (i := 1208) (by decide +kernel), List.mem_of_getElem? (i := 1209) (by decide +kernel)⟩
def lw_privs_3 : List (MethodName × Nat) := [(⟨"CandleLandModel", "whose", "(II)I"⟩, 23), (⟨"CandleLandModel", "lightIn", "(II)I"⟩, 23), (⟨"CandleLandModel", "listOf", "(III)I"⟩, 23), (⟨"CandleLandModel", "areLight", "(II)Z"⟩, 23), (⟨"CandleLandModel", "tallowOf", "(I)I"⟩, 23), (⟨"CandleLandModel", "acresOf", "(II)I"⟩, 23), (⟨"CandleLandModel", "laySteps", "(III)V"⟩, 23), (⟨"CandleLandModel", "isBeside", "(II)Z"⟩, 23), (⟨"CandleLandModel", "layGets", "(IIII)V"⟩, 23), (⟨"CandleLandModel", "ownOf", "(I)I"⟩, 23), (⟨"CandleLandModel", "layFits", "()V"⟩, 23), (⟨"CandleLandModel", "areSo", "()Z"⟩, 23), (⟨"CandleLandModel", "mostLike", "(II)I"⟩, 23), (⟨"CandleLandModel", "fraction", "(JJ)V"⟩, 23), (⟨"CandleLandModel", "lookAt", "(I)V"⟩, 23), (⟨"CandleLandModel", "takesFirst", "()Z"⟩, 23)]
theorem lw_r3 : ∀ q ∈ lw_privs_3, lw_okq q := List.forall_mem_cons.mpr ⟨lw_p32, List.forall_mem_cons.mpr ⟨lw_p33, List.forall_mem_cons.mpr ⟨lw_p34, List.forall_mem_cons.mpr ⟨lw_p35, List.forall_mem_cons.mpr ⟨lw_p36, List.forall_mem_cons.mpr ⟨lw_p37, List.forall_mem_cons.mpr ⟨lw_p38, List.forall_mem_cons.mpr ⟨lw_p39, List.forall_mem_cons.mpr ⟨lw_p40, List.forall_mem_cons.mpr ⟨lw_p41, List.forall_mem_cons.mpr ⟨lw_p42, List.forall_mem_cons.mpr ⟨lw_p43, List.forall_mem_cons.mpr ⟨lw_p44, List.forall_mem_cons.mpr ⟨lw_p45, List.forall_mem_cons.mpr ⟨lw_p46, List.forall_mem_cons.mpr ⟨lw_p47, fun _ h => absurd h List.not_mem_nil⟩⟩⟩⟩⟩⟩⟩⟩⟩⟩⟩⟩⟩⟩⟩⟩
theorem lw_p48 : lw_okq (⟨"CandleLandModel", "isCalled", "(IIIIIII)Z"⟩, 23) := ⟨⟨by decide +kernel, by decide +kernel⟩, List.mem_of_getElem? (i := 847) (by decide +kernel), List.mem_of_getElem? (i := 1212) (by decide +kernel), List.mem_of_getElem? (i := 1213) (by decide +kernel)⟩
theorem lw_p49 : lw_okq (⟨"CandleLandModel", "goBehind", "()V"⟩, 23) := ⟨⟨by decide +kernel, by decide +kernel⟩, List.mem_of_getElem? (i := 847) (by decide +kernel), List.mem_of_getElem? (i := 1216) (by decide +kernel), List.mem_of_getElem? (i := 1217) (by decide +kernel)⟩
theorem lw_p50 : lw_okq (⟨"CandleLandModel", "takes", "(III)Z"⟩, 23) := ⟨⟨by decide +kernel, by decide +kernel⟩, List.mem_of_getElem? (i := 847) (by decide +kernel), List.mem_of_getElem? (i := 1220) (by decide +kernel), List.mem_of_getElem? (i := 1221) (by decide +kernel)⟩
theorem lw_p51 : lw_okq (⟨"CandleLandModel", "takesItem", "()Z"⟩, 23) := ⟨⟨by decide +kernel, by decide +kernel⟩, List.mem_of_getElem? (i := 847) (by decide +kernel), List.mem_of_getElem? (i := 1224) (by decide +kernel), List.mem_of_getElem? (i := 1225) (by decide +kernel)⟩
theorem lw_p52 : lw_okq (⟨"CandleLandModel", "takesCandle", "()Z"⟩, 23) := ⟨⟨by decide +kernel, by decide +kernel⟩, List.mem_of_getElem? (i := 847) (by decide +kernel), List.mem_of_getElem? (i := 1228) (by decide +kernel), List.mem_of_getElem? (i := 1229) (by decide +kernel)⟩
theorem lw_p53 : lw_okq (⟨"CandleLandModel", "takesOut", "()Z"⟩, 23) := ⟨⟨by decide +kernel, by decide +kernel⟩, List.mem_of_getElem? (i := 847) (by decide +kernel), List.mem_of_getElem? (i := 1232) (by decide +kernel), List.mem_of_getElem? (i := 1233) (by decide +kernel)⟩
theorem lw_p54 : lw_okq (⟨"CandleLandModel", "counted", "(I)I"⟩, 23) := ⟨⟨by decide +kernel, by decide +kernel⟩, List.mem_of_getElem? (i := 847) (by decide +kernel), List.mem_of_getElem? (i := 1256) (by decide +kernel), List.mem_of_getElem? (i := 1257) (by decide +kernel)⟩
theorem lw_p55 : lw_okq (⟨"CandleLandModel", "sums", "(JII)J"⟩, 23) := ⟨⟨by decide +kernel, by decide +kernel⟩, List.mem_of_getElem? (i := 847) (by decide +kernel), List.mem_of_getElem? (i := 1266) (by decide +kernel), List.mem_of_getElem? (i := 1267) (by decide +kernel)⟩
def lw_privs_4 : List (MethodName × Nat) := [(⟨"CandleLandModel", "isCalled", "(IIIIIII)Z"⟩, 23), (⟨"CandleLandModel", "goBehind", "()V"⟩, 23), (⟨"CandleLandModel", "takes", "(III)Z"⟩, 23), (⟨"CandleLandModel", "takesItem", "()Z"⟩, 23), (⟨"CandleLandModel", "takesCandle", "()Z"⟩, 23), (⟨"CandleLandModel", "takesOut", "()Z"⟩, 23), (⟨"CandleLandModel", "counted", "(I)I"⟩, 23), (⟨"CandleLandModel", "sums", "(JII)J"⟩, 23)]
theorem lw_r4 : ∀ q ∈ lw_privs_4, lw_okq q := List.forall_mem_cons.mpr ⟨lw_p48, List.forall_mem_cons.mpr ⟨lw_p49, List.forall_mem_cons.mpr ⟨lw_p50, List.forall_mem_cons.mpr ⟨lw_p51, List.forall_mem_cons.mpr ⟨lw_p52, List.forall_mem_cons.mpr ⟨lw_p53, List.forall_mem_cons.mpr ⟨lw_p54, List.forall_mem_cons.mpr ⟨lw_p55, fun _ h => absurd h List.not_mem_nil⟩⟩⟩⟩⟩⟩⟩⟩
def lw_privs : List (MethodName × Nat) := lw_privs_1 ++ (lw_privs_2 ++ (lw_privs_3 ++ (lw_privs_4)))
def lw_tbl : List Cond := k2_sels lw_privs ++ tables_1
theorem lw_privs_ok : ∀ q ∈ lw_privs, lw_okq q := by
  show ∀ q ∈ lw_privs_1 ++ (lw_privs_2 ++ (lw_privs_3 ++ (lw_privs_4))), lw_okq q
  exact List.forall_mem_append.mpr ⟨lw_r1, List.forall_mem_append.mpr ⟨lw_r2, List.forall_mem_append.mpr ⟨lw_r3, lw_r4⟩⟩⟩
end
section
def RX0 : String := "CandleLand$Gutters"
def TX0 : u_T := fun k => match k with
  | _ => ("", "", "", false)
def tyX0 : Nat → FieldType := fun k => match k with
  | _ => .int
abbrev wsX00 : List Cond := u_ws RX0 TX0 0
theorem nmX0 : ∀ a, a < 0 → ∀ b, b < 0 → a ≠ b → (TX0 a).2.1 ≠ (TX0 b).2.1 := by decide +kernel
theorem tyX0_ok : ∀ k, k < 0 → parseFieldDescriptor (TX0 k).2.2.1 = some (tyX0 k) := by decide +kernel
abbrev cX0_init : ByteArray := prog_2_method_1_code
def yX0_init : MethodName := ⟨RX0, "<init>", "()V"⟩
abbrev cX0_strength : ByteArray := prog_2_method_2_code
def yX0_strength : MethodName := ⟨RX0, "strength", "(II)I"⟩
abbrev cX0_hours : ByteArray := prog_2_method_3_code
def yX0_hours : MethodName := ⟨RX0, "hours", "(I)I"⟩
def RX1 : String := "CandleLand$Lamp"
def TX1 : u_T := fun k => match k with
  | _ => ("", "", "", false)
def tyX1 : Nat → FieldType := fun k => match k with
  | _ => .int
abbrev wsX10 : List Cond := u_ws RX1 TX1 0
theorem nmX1 : ∀ a, a < 0 → ∀ b, b < 0 → a ≠ b → (TX1 a).2.1 ≠ (TX1 b).2.1 := by decide +kernel
theorem tyX1_ok : ∀ k, k < 0 → parseFieldDescriptor (TX1 k).2.2.1 = some (tyX1 k) := by decide +kernel
abbrev cX1_init : ByteArray := prog_3_method_1_code
def yX1_init : MethodName := ⟨RX1, "<init>", "()V"⟩
abbrev cX1_strength : ByteArray := prog_3_method_2_code
def yX1_strength : MethodName := ⟨RX1, "strength", "(II)I"⟩
def RX2 : String := "CandleLand$Lantern"
def TX2 : u_T := fun k => match k with
  | _ => ("", "", "", false)
def tyX2 : Nat → FieldType := fun k => match k with
  | _ => .int
abbrev wsX20 : List Cond := u_ws RX2 TX2 0
theorem nmX2 : ∀ a, a < 0 → ∀ b, b < 0 → a ≠ b → (TX2 a).2.1 ≠ (TX2 b).2.1 := by decide +kernel
theorem tyX2_ok : ∀ k, k < 0 → parseFieldDescriptor (TX2 k).2.2.1 = some (tyX2 k) := by decide +kernel
abbrev cX2_init : ByteArray := prog_4_method_1_code
def yX2_init : MethodName := ⟨RX2, "<init>", "()V"⟩
abbrev cX2_hours : ByteArray := prog_4_method_2_code
def yX2_hours : MethodName := ⟨RX2, "hours", "(I)I"⟩
def RX3 : String := "CandleLand$Night"
def TX3 : u_T := fun k => match k with
  | 0 => ("CandleLand$Night", "land", "LCandleLand$Valley;", true)
  | 1 => ("CandleLand$Night", "kinds", "[LCandleLand$Plain;", true)
  | 2 => ("CandleLand$Night", "strong", "[I", true)
  | 3 => ("CandleLand$Night", "owners", "[I", true)
  | 4 => ("CandleLand$Night", "mine", "[I", true)
  | 5 => ("CandleLand$Night", "theirs", "[I", true)
  | 6 => ("CandleLand$Night", "byFar", "[I", true)
  | 7 => ("CandleLand$Night", "gainsA", "[I", true)
  | _ => ("CandleLand$Night", "gainsB", "[I", true)
def tyX3 : Nat → FieldType := fun k => match k with
  | 0 => .object "CandleLand$Valley"
  | 1 => .array (.object "CandleLand$Plain")
  | 2 => .array .int
  | 3 => .array .int
  | 4 => .array .int
  | 5 => .array .int
  | 6 => .array .int
  | 7 => .array .int
  | _ => .array .int
abbrev wsX30 : List Cond := u_ws RX3 TX3 9
theorem nmX3 : ∀ a, a < 9 → ∀ b, b < 9 → a ≠ b → (TX3 a).2.1 ≠ (TX3 b).2.1 := by decide +kernel
theorem tyX3_ok : ∀ k, k < 9 → parseFieldDescriptor (TX3 k).2.2.1 = some (tyX3 k) := by decide +kernel
abbrev cX3_init : ByteArray := prog_5_method_1_code
def yX3_init : MethodName := ⟨RX3, "<init>", "(LCandleLand$Valley;)V"⟩
abbrev cX3_hoursOf : ByteArray := prog_5_method_2_code
def yX3_hoursOf : MethodName := ⟨RX3, "hoursOf", "(I)I"⟩
abbrev cX3_ifLit : ByteArray := prog_5_method_3_code
def yX3_ifLit : MethodName := ⟨RX3, "ifLit", "(III)I"⟩
abbrev cX3_layCell : ByteArray := prog_5_method_4_code
def yX3_layCell : MethodName := ⟨RX3, "layCell", "(II)V"⟩
abbrev cX3_layAll : ByteArray := prog_5_method_5_code
def yX3_layAll : MethodName := ⟨RX3, "layAll", "(I)V"⟩
abbrev cX3_layFar : ByteArray := prog_5_method_6_code
def yX3_layFar : MethodName := ⟨RX3, "layFar", "(II)V"⟩
abbrev cX3_reaching : ByteArray := prog_5_method_7_code
def yX3_reaching : MethodName := ⟨RX3, "reaching", "(III)I"⟩
abbrev cX3_strongest : ByteArray := prog_5_method_8_code
def yX3_strongest : MethodName := ⟨RX3, "strongest", "(II)I"⟩
abbrev cX3_holder : ByteArray := prog_5_method_9_code
def yX3_holder : MethodName := ⟨RX3, "holder", "(II[I)I"⟩
abbrev cX3_pick : ByteArray := prog_5_method_10_code
def yX3_pick : MethodName := ⟨RX3, "pick", "(II)I"⟩
abbrev cX3_acresOf : ByteArray := prog_5_method_11_code
def yX3_acresOf : MethodName := ⟨RX3, "acresOf", "(II[I)I"⟩
abbrev cX3_gainByWedding : ByteArray := prog_5_method_12_code
def yX3_gainByWedding : MethodName := ⟨RX3, "gainByWedding", "(II)I"⟩
abbrev cX3_candlesOf : ByteArray := prog_5_method_13_code
def yX3_candlesOf : MethodName := ⟨RX3, "candlesOf", "(I)I"⟩
abbrev cX3_resting : ByteArray := prog_5_method_14_code
def yX3_resting : MethodName := ⟨RX3, "resting", "(III)I"⟩
abbrev cX3_acresOfNights : ByteArray := prog_5_method_15_code
def yX3_acresOfNights : MethodName := ⟨RX3, "acresOfNights", "(IIII)I"⟩
abbrev cX3_bestPlace : ByteArray := prog_5_method_16_code
def yX3_bestPlace : MethodName := ⟨RX3, "bestPlace", "(II)I"⟩
abbrev cX3_acresFrom : ByteArray := prog_5_method_17_code
def yX3_acresFrom : MethodName := ⟨RX3, "acresFrom", "(I)I"⟩
def RX4 : String := "CandleLand$Plain"
def TX4 : u_T := fun k => match k with
  | _ => ("", "", "", false)
def tyX4 : Nat → FieldType := fun k => match k with
  | _ => .int
abbrev wsX40 : List Cond := u_ws RX4 TX4 0
theorem nmX4 : ∀ a, a < 0 → ∀ b, b < 0 → a ≠ b → (TX4 a).2.1 ≠ (TX4 b).2.1 := by decide +kernel
theorem tyX4_ok : ∀ k, k < 0 → parseFieldDescriptor (TX4 k).2.2.1 = some (tyX4 k) := by decide +kernel
abbrev cX4_init : ByteArray := prog_6_method_1_code
def yX4_init : MethodName := ⟨RX4, "<init>", "()V"⟩
abbrev cX4_strength : ByteArray := prog_6_method_2_code
def yX4_strength : MethodName := ⟨RX4, "strength", "(II)I"⟩
abbrev cX4_hours : ByteArray := prog_6_method_3_code
def yX4_hours : MethodName := ⟨RX4, "hours", "(I)I"⟩
def RX5 : String := "CandleLand$Reader"
def TX5 : u_T := fun k => match k with
  | 0 => ("CandleLand$Reader", "told", "LCandleLand$Valley;", true)
  | 1 => ("CandleLand$Reader", "length", "I", false)
  | 2 => ("CandleLand$Reader", "text", "[B", true)
  | 3 => ("CandleLand$Reader", "at", "I", false)
  | 4 => ("CandleLand$Reader", "token", "I", false)
  | 5 => ("CandleLand$Reader", "start", "I", false)
  | _ => ("CandleLand$Reader", "value", "I", false)
def tyX5 : Nat → FieldType := fun k => match k with
  | 0 => .object "CandleLand$Valley"
  | 1 => .int
  | 2 => .array .byte
  | 3 => .int
  | 4 => .int
  | 5 => .int
  | _ => .int
abbrev wsX50 : List Cond := u_ws RX5 TX5 7
theorem nmX5 : ∀ a, a < 7 → ∀ b, b < 7 → a ≠ b → (TX5 a).2.1 ≠ (TX5 b).2.1 := by decide +kernel
theorem tyX5_ok : ∀ k, k < 7 → parseFieldDescriptor (TX5 k).2.2.1 = some (tyX5 k) := by decide +kernel
abbrev cX5_init : ByteArray := prog_7_method_1_code
def yX5_init : MethodName := ⟨RX5, "<init>", "()V"⟩
abbrev cX5_append : ByteArray := prog_7_method_2_code
def yX5_append : MethodName := ⟨RX5, "append", "(I)I"⟩
abbrev cX5_parse : ByteArray := prog_7_method_3_code
def yX5_parse : MethodName := ⟨RX5, "parse", "()I"⟩
abbrev cX5_takeItem : ByteArray := prog_7_method_4_code
def yX5_takeItem : MethodName := ⟨RX5, "takeItem", "(Z)Z"⟩
abbrev cX5_takeFog : ByteArray := prog_7_method_5_code
def yX5_takeFog : MethodName := ⟨RX5, "takeFog", "()Z"⟩
abbrev cX5_takeCandle : ByteArray := prog_7_method_6_code
def yX5_takeCandle : MethodName := ⟨RX5, "takeCandle", "()Z"⟩
abbrev cX5_takeOut : ByteArray := prog_7_method_7_code
def yX5_takeOut : MethodName := ⟨RX5, "takeOut", "()Z"⟩
abbrev cX5_takeNumber : ByteArray := prog_7_method_8_code
def yX5_takeNumber : MethodName := ⟨RX5, "takeNumber", "(II)Z"⟩
abbrev cX5_takeStop : ByteArray := prog_7_method_9_code
def yX5_takeStop : MethodName := ⟨RX5, "takeStop", "()Z"⟩
abbrev cX5_advance : ByteArray := prog_7_method_10_code
def yX5_advance : MethodName := ⟨RX5, "advance", "()V"⟩
abbrev cX5_spells : ByteArray := prog_7_method_11_code
def yX5_spells : MethodName := ⟨RX5, "spells", "(Ljava/lang/String;)Z"⟩
abbrev cX5_isLetter : ByteArray := prog_7_method_12_code
def yX5_isLetter : MethodName := ⟨RX5, "isLetter", "(I)Z"⟩
abbrev cX5_isFigure : ByteArray := prog_7_method_13_code
def yX5_isFigure : MethodName := ⟨RX5, "isFigure", "(I)Z"⟩
def RX6 : String := "CandleLand$Sets"
def TX6 : u_T := fun k => match k with
  | 0 => ("CandleLand$Sets", "land", "LCandleLand$Valley;", true)
  | 1 => ("CandleLand$Sets", "night", "LCandleLand$Night;", true)
  | 2 => ("CandleLand$Sets", "needed", "[I", true)
  | 3 => ("CandleLand$Sets", "fits", "[Z", true)
  | 4 => ("CandleLand$Sets", "fitting", "I", false)
  | 5 => ("CandleLand$Sets", "light", "[I", true)
  | _ => ("CandleLand$Sets", "alike", "[I", true)
def tyX6 : Nat → FieldType := fun k => match k with
  | 0 => .object "CandleLand$Valley"
  | 1 => .object "CandleLand$Night"
  | 2 => .array .int
  | 3 => .array .boolean
  | 4 => .int
  | 5 => .array .int
  | _ => .array .int
abbrev wsX60 : List Cond := u_ws RX6 TX6 7
theorem nmX6 : ∀ a, a < 7 → ∀ b, b < 7 → a ≠ b → (TX6 a).2.1 ≠ (TX6 b).2.1 := by decide +kernel
theorem tyX6_ok : ∀ k, k < 7 → parseFieldDescriptor (TX6 k).2.2.1 = some (tyX6 k) := by decide +kernel
abbrev cX6_init : ByteArray := prog_8_method_1_code
def yX6_init : MethodName := ⟨RX6, "<init>", "(LCandleLand$Valley;LCandleLand$Night;)V"⟩
abbrev cX6_howManySets : ByteArray := prog_8_method_2_code
def yX6_howManySets : MethodName := ⟨RX6, "howManySets", "()I"⟩
abbrev cX6_layWanted : ByteArray := prog_8_method_3_code
def yX6_layWanted : MethodName := ⟨RX6, "layWanted", "(II)V"⟩
abbrev cX6_lightsWanted : ByteArray := prog_8_method_4_code
def yX6_lightsWanted : MethodName := ⟨RX6, "lightsWanted", "(I)Z"⟩
abbrev cX6_fewest : ByteArray := prog_8_method_5_code
def yX6_fewest : MethodName := ⟨RX6, "fewest", "()I"⟩
abbrev cX6_leastTallow : ByteArray := prog_8_method_6_code
def yX6_leastTallow : MethodName := ⟨RX6, "leastTallow", "()I"⟩
abbrev cX6_tallowOf : ByteArray := prog_8_method_7_code
def yX6_tallowOf : MethodName := ⟨RX6, "tallowOf", "(I)I"⟩
abbrev cX6_layFitting : ByteArray := prog_8_method_8_code
def yX6_layFitting : MethodName := ⟨RX6, "layFitting", "()V"⟩
abbrev cX6_inAll : ByteArray := prog_8_method_9_code
def yX6_inAll : MethodName := ⟨RX6, "inAll", "()I"⟩
abbrev cX6_bestCell : ByteArray := prog_8_method_10_code
def yX6_bestCell : MethodName := ⟨RX6, "bestCell", "()I"⟩
abbrev cX6_mostAlike : ByteArray := prog_8_method_11_code
def yX6_mostAlike : MethodName := ⟨RX6, "mostAlike", "(I)I"⟩
abbrev cX6_layLight : ByteArray := prog_8_method_12_code
def yX6_layLight : MethodName := ⟨RX6, "layLight", "(I)V"⟩
def RX7 : String := "CandleLand$Star"
def TX7 : u_T := fun k => match k with
  | _ => ("", "", "", false)
def tyX7 : Nat → FieldType := fun k => match k with
  | _ => .int
abbrev wsX70 : List Cond := u_ws RX7 TX7 0
theorem nmX7 : ∀ a, a < 0 → ∀ b, b < 0 → a ≠ b → (TX7 a).2.1 ≠ (TX7 b).2.1 := by decide +kernel
theorem tyX7_ok : ∀ k, k < 0 → parseFieldDescriptor (TX7 k).2.2.1 = some (tyX7 k) := by decide +kernel
abbrev cX7_init : ByteArray := prog_9_method_1_code
def yX7_init : MethodName := ⟨RX7, "<init>", "()V"⟩
abbrev cX7_strength : ByteArray := prog_9_method_2_code
def yX7_strength : MethodName := ⟨RX7, "strength", "(II)I"⟩
abbrev cX7_hours : ByteArray := prog_9_method_3_code
def yX7_hours : MethodName := ⟨RX7, "hours", "(I)I"⟩
def RX8 : String := "CandleLand$Valley"
def TX8 : u_T := fun k => match k with
  | 0 => ("CandleLand$Valley", "fog", "I", false)
  | 1 => ("CandleLand$Valley", "candles", "I", false)
  | 2 => ("CandleLand$Valley", "lit", "I", false)
  | 3 => ("CandleLand$Valley", "kind", "[I", true)
  | 4 => ("CandleLand$Valley", "cell", "[I", true)
  | 5 => ("CandleLand$Valley", "height", "[I", true)
  | 6 => ("CandleLand$Valley", "owner", "[I", true)
  | 7 => ("CandleLand$Valley", "tallow", "[I", true)
  | 8 => ("CandleLand$Valley", "wants", "I", false)
  | 9 => ("CandleLand$Valley", "wanted", "[I", true)
  | 10 => ("CandleLand$Valley", "readings", "I", false)
  | 11 => ("CandleLand$Valley", "readCell", "[I", true)
  | 12 => ("CandleLand$Valley", "readHour", "[I", true)
  | 13 => ("CandleLand$Valley", "readLight", "[I", true)
  | 14 => ("CandleLand$Valley", "steps", "I", false)
  | 15 => ("CandleLand$Valley", "oldCells", "[I", true)
  | _ => ("CandleLand$Valley", "oldLit", "[I", true)
def tyX8 : Nat → FieldType := fun k => match k with
  | 0 => .int
  | 1 => .int
  | 2 => .int
  | 3 => .array .int
  | 4 => .array .int
  | 5 => .array .int
  | 6 => .array .int
  | 7 => .array .int
  | 8 => .int
  | 9 => .array .int
  | 10 => .int
  | 11 => .array .int
  | 12 => .array .int
  | 13 => .array .int
  | 14 => .int
  | 15 => .array .int
  | _ => .array .int
abbrev wsX80 : List Cond := u_ws RX8 TX8 17
theorem nmX8 : ∀ a, a < 17 → ∀ b, b < 17 → a ≠ b → (TX8 a).2.1 ≠ (TX8 b).2.1 := by decide +kernel
theorem tyX8_ok : ∀ k, k < 17 → parseFieldDescriptor (TX8 k).2.2.1 = some (tyX8 k) := by decide +kernel
abbrev cX8_init : ByteArray := prog_10_method_1_code
def yX8_init : MethodName := ⟨RX8, "<init>", "()V"⟩
abbrev cX8_startAnew : ByteArray := prog_10_method_2_code
def yX8_startAnew : MethodName := ⟨RX8, "startAnew", "(I)V"⟩
abbrev cX8_has : ByteArray := prog_10_method_3_code
def yX8_has : MethodName := ⟨RX8, "has", "(I)Z"⟩
abbrev cX8_litAt : ByteArray := prog_10_method_4_code
def yX8_litAt : MethodName := ⟨RX8, "litAt", "(I)I"⟩
abbrev cX8_farFrom : ByteArray := prog_10_method_5_code
def yX8_farFrom : MethodName := ⟨RX8, "farFrom", "(II)I"⟩
abbrev cX8_add : ByteArray := prog_10_method_6_code
def yX8_add : MethodName := ⟨RX8, "add", "(IIIII)I"⟩
abbrev cX8_addReading : ByteArray := prog_10_method_7_code
def yX8_addReading : MethodName := ⟨RX8, "addReading", "(III)I"⟩
abbrev cX8_remember : ByteArray := prog_10_method_8_code
def yX8_remember : MethodName := ⟨RX8, "remember", "()V"⟩
abbrev cX8_goBack : ByteArray := prog_10_method_9_code
def yX8_goBack : MethodName := ⟨RX8, "goBack", "()V"⟩
abbrev cX8_takeFrom : ByteArray := prog_10_method_10_code
def yX8_takeFrom : MethodName := ⟨RX8, "takeFrom", "(LCandleLand$Valley;)V"⟩
abbrev cX8_mix : ByteArray := prog_10_method_11_code
def yX8_mix : MethodName := ⟨RX8, "mix", "(J)J"⟩
def RX9 : String := "CandleLand$Walk"
def TX9 : u_T := fun k => match k with
  | 0 => ("CandleLand$Walk", "land", "LCandleLand$Valley;", true)
  | 1 => ("CandleLand$Walk", "night", "LCandleLand$Night;", true)
  | 2 => ("CandleLand$Walk", "steps", "[I", true)
  | 3 => ("CandleLand$Walk", "open", "[Z", true)
  | _ => ("CandleLand$Walk", "queue", "[I", true)
def tyX9 : Nat → FieldType := fun k => match k with
  | 0 => .object "CandleLand$Valley"
  | 1 => .object "CandleLand$Night"
  | 2 => .array .int
  | 3 => .array .boolean
  | _ => .array .int
abbrev wsX90 : List Cond := u_ws RX9 TX9 5
theorem nmX9 : ∀ a, a < 5 → ∀ b, b < 5 → a ≠ b → (TX9 a).2.1 ≠ (TX9 b).2.1 := by decide +kernel
theorem tyX9_ok : ∀ k, k < 5 → parseFieldDescriptor (TX9 k).2.2.1 = some (tyX9 k) := by decide +kernel
abbrev cX9_init : ByteArray := prog_11_method_1_code
def yX9_init : MethodName := ⟨RX9, "<init>", "(LCandleLand$Valley;LCandleLand$Night;)V"⟩
abbrev cX9_spread : ByteArray := prog_11_method_2_code
def yX9_spread : MethodName := ⟨RX9, "spread", "(II)V"⟩
abbrev cX9_spreadFrom : ByteArray := prog_11_method_3_code
def yX9_spreadFrom : MethodName := ⟨RX9, "spreadFrom", "(II)I"⟩
abbrev cX9_stepsFrom : ByteArray := prog_11_method_4_code
def yX9_stepsFrom : MethodName := ⟨RX9, "stepsFrom", "(I)I"⟩
abbrev cX9_firstBehind : ByteArray := prog_11_method_5_code
def yX9_firstBehind : MethodName := ⟨RX9, "firstBehind", "(I)I"⟩
abbrev cX9_beside : ByteArray := prog_11_method_6_code
def yX9_beside : MethodName := ⟨RX9, "beside", "(II)I"⟩
def RX10 : String := "CandleLand$Wick"
def TX10 : u_T := fun k => match k with
  | _ => ("", "", "", false)
def tyX10 : Nat → FieldType := fun k => match k with
  | _ => .int
abbrev wsX100 : List Cond := u_ws RX10 TX10 0
theorem nmX10 : ∀ a, a < 0 → ∀ b, b < 0 → a ≠ b → (TX10 a).2.1 ≠ (TX10 b).2.1 := by decide +kernel
theorem tyX10_ok : ∀ k, k < 0 → parseFieldDescriptor (TX10 k).2.2.1 = some (tyX10 k) := by decide +kernel
abbrev cX10_init : ByteArray := prog_12_method_1_code
def yX10_init : MethodName := ⟨RX10, "<init>", "()V"⟩
abbrev cX10_strength : ByteArray := prog_12_method_2_code
def yX10_strength : MethodName := ⟨RX10, "strength", "(II)I"⟩
abbrev cX10_hours : ByteArray := prog_12_method_3_code
def yX10_hours : MethodName := ⟨RX10, "hours", "(I)I"⟩
def RX11 : String := "CandleLand"
def TX11 : u_T := fun k => match k with
  | 0 => ("CandleLand", "land", "LCandleLand$Valley;", true)
  | 1 => ("CandleLand", "images", "[LCandleLand$Valley;", true)
  | 2 => ("CandleLand", "kept", "[Z", true)
  | 3 => ("CandleLand", "reader", "LCandleLand$Reader;", true)
  | 4 => ("CandleLand", "night", "LCandleLand$Night;", true)
  | 5 => ("CandleLand", "sets", "LCandleLand$Sets;", true)
  | 6 => ("CandleLand", "walk", "LCandleLand$Walk;", true)
  | 7 => ("CandleLand", "above", "J", false)
  | 8 => ("CandleLand", "below", "J", false)
  | 9 => ("CandleLand", "bads", "I", false)
  | 10 => ("CandleLand", "noes", "I", false)
  | _ => ("CandleLand", "fulls", "I", false)
def tyX11 : Nat → FieldType := fun k => match k with
  | 0 => .object "CandleLand$Valley"
  | 1 => .array (.object "CandleLand$Valley")
  | 2 => .array .boolean
  | 3 => .object "CandleLand$Reader"
  | 4 => .object "CandleLand$Night"
  | 5 => .object "CandleLand$Sets"
  | 6 => .object "CandleLand$Walk"
  | 7 => .long
  | 8 => .long
  | 9 => .int
  | 10 => .int
  | _ => .int
abbrev wsX110 : List Cond := u_ws RX11 TX11 12
theorem nmX11 : ∀ a, a < 12 → ∀ b, b < 12 → a ≠ b → (TX11 a).2.1 ≠ (TX11 b).2.1 := by decide +kernel
theorem tyX11_ok : ∀ k, k < 12 → parseFieldDescriptor (TX11 k).2.2.1 = some (tyX11 k) := by decide +kernel
abbrev cX11_init : ByteArray := prog_1_method_1_code
def yX11_init : MethodName := ⟨RX11, "<init>", "()V"⟩
abbrev cX11_valley : ByteArray := prog_1_method_2_code
def yX11_valley : MethodName := ⟨RX11, "valley", "(I)I"⟩
abbrev cX11_fog : ByteArray := prog_1_method_3_code
def yX11_fog : MethodName := ⟨RX11, "fog", "(I)I"⟩
abbrev cX11_candle : ByteArray := prog_1_method_4_code
def yX11_candle : MethodName := ⟨RX11, "candle", "(IIIII)I"⟩
abbrev cX11_move : ByteArray := prog_1_method_5_code
def yX11_move : MethodName := ⟨RX11, "move", "(II)I"⟩
abbrev cX11_light : ByteArray := prog_1_method_6_code
def yX11_light : MethodName := ⟨RX11, "light", "(II)I"⟩
abbrev cX11_undo : ByteArray := prog_1_method_7_code
def yX11_undo : MethodName := ⟨RX11, "undo", "()I"⟩
abbrev cX11_type : ByteArray := prog_1_method_8_code
def yX11_type : MethodName := ⟨RX11, "type", "(I)I"⟩
abbrev cX11_clear : ByteArray := prog_1_method_9_code
def yX11_clear : MethodName := ⟨RX11, "clear", "()I"⟩
abbrev cX11_read : ByteArray := prog_1_method_10_code
def yX11_read : MethodName := ⟨RX11, "read", "()I"⟩
abbrev cX11_of : ByteArray := prog_1_method_11_code
def yX11_of : MethodName := ⟨RX11, "of", "(II)I"⟩
abbrev cX11_shines : ByteArray := prog_1_method_12_code
def yX11_shines : MethodName := ⟨RX11, "shines", "(III)I"⟩
abbrev cX11_cell : ByteArray := prog_1_method_13_code
def yX11_cell : MethodName := ⟨RX11, "cell", "(III)I"⟩
abbrev cX11_acres : ByteArray := prog_1_method_14_code
def yX11_acres : MethodName := ⟨RX11, "acres", "(III)I"⟩
abbrev cX11_hedges : ByteArray := prog_1_method_15_code
def yX11_hedges : MethodName := ⟨RX11, "hedges", "(II)I"⟩
abbrev cX11_dark : ByteArray := prog_1_method_16_code
def yX11_dark : MethodName := ⟨RX11, "dark", "(III)I"⟩
abbrev cX11_want : ByteArray := prog_1_method_17_code
def yX11_want : MethodName := ⟨RX11, "want", "(I)I"⟩
abbrev cX11_forget : ByteArray := prog_1_method_18_code
def yX11_forget : MethodName := ⟨RX11, "forget", "()I"⟩
abbrev cX11_lighting : ByteArray := prog_1_method_19_code
def yX11_lighting : MethodName := ⟨RX11, "lighting", "(II)I"⟩
abbrev cX11_tallow : ByteArray := prog_1_method_20_code
def yX11_tallow : MethodName := ⟨RX11, "tallow", "(II)I"⟩
abbrev cX11_put : ByteArray := prog_1_method_21_code
def yX11_put : MethodName := ⟨RX11, "put", "(II)I"⟩
abbrev cX11_thief : ByteArray := prog_1_method_22_code
def yX11_thief : MethodName := ⟨RX11, "thief", "(IIIII)I"⟩
abbrev cX11_wedding : ByteArray := prog_1_method_23_code
def yX11_wedding : MethodName := ⟨RX11, "wedding", "(III)I"⟩
abbrev cX11_spite : ByteArray := prog_1_method_24_code
def yX11_spite : MethodName := ⟨RX11, "spite", "(IIII)I"⟩
abbrev cX11_reading : ByteArray := prog_1_method_25_code
def yX11_reading : MethodName := ⟨RX11, "reading", "(III)I"⟩
abbrev cX11_burnt : ByteArray := prog_1_method_26_code
def yX11_burnt : MethodName := ⟨RX11, "burnt", "()I"⟩
abbrev cX11_burn : ByteArray := prog_1_method_27_code
def yX11_burn : MethodName := ⟨RX11, "burn", "(I)I"⟩
abbrev cX11_measure : ByteArray := prog_1_method_28_code
def yX11_measure : MethodName := ⟨RX11, "measure", "(I)I"⟩
abbrev cX11_draught : ByteArray := prog_1_method_29_code
def yX11_draught : MethodName := ⟨RX11, "draught", "(IIII)I"⟩
abbrev cX11_nights : ByteArray := prog_1_method_30_code
def yX11_nights : MethodName := ⟨RX11, "nights", "(IIII)I"⟩
abbrev cX11_part : ByteArray := prog_1_method_31_code
def yX11_part : MethodName := ⟨RX11, "part", "(I)J"⟩
abbrev cX11_image : ByteArray := prog_1_method_32_code
def yX11_image : MethodName := ⟨RX11, "image", "(I)I"⟩
abbrev cX11_from : ByteArray := prog_1_method_33_code
def yX11_from : MethodName := ⟨RX11, "from", "(I)I"⟩
abbrev cX11_status : ByteArray := prog_1_method_34_code
def yX11_status : MethodName := ⟨RX11, "status", "(I)I"⟩
abbrev cX11_count : ByteArray := prog_1_method_35_code
def yX11_count : MethodName := ⟨RX11, "count", "(I)I"⟩
abbrev cX11_digest : ByteArray := prog_1_method_36_code
def yX11_digest : MethodName := ⟨RX11, "digest", "()J"⟩
abbrev cX11_howMany : ByteArray := prog_1_method_37_code
def yX11_howMany : MethodName := ⟨RX11, "howMany", "(I)I"⟩
abbrev cX11_bad : ByteArray := prog_1_method_38_code
def yX11_bad : MethodName := ⟨RX11, "bad", "(I)I"⟩
abbrev cX11_no : ByteArray := prog_1_method_39_code
def yX11_no : MethodName := ⟨RX11, "no", "()I"⟩
abbrev cX11_full : ByteArray := prog_1_method_40_code
def yX11_full : MethodName := ⟨RX11, "full", "()I"⟩
abbrev cX11_keepFraction : ByteArray := prog_1_method_41_code
def yX11_keepFraction : MethodName := ⟨RX11, "keepFraction", "(JJ)V"⟩
abbrev cX11_divisor : ByteArray := prog_1_method_42_code
def yX11_divisor : MethodName := ⟨RX11, "divisor", "(JJ)J"⟩
abbrev cX11_within : ByteArray := prog_1_method_43_code
def yX11_within : MethodName := ⟨RX11, "within", "(III)Z"⟩
abbrev cX11_isCell : ByteArray := prog_1_method_44_code
def yX11_isCell : MethodName := ⟨RX11, "isCell", "(I)Z"⟩
abbrev cX11_isHour : ByteArray := prog_1_method_45_code
def yX11_isHour : MethodName := ⟨RX11, "isHour", "(I)Z"⟩
abbrev cX11_isOwner : ByteArray := prog_1_method_46_code
def yX11_isOwner : MethodName := ⟨RX11, "isOwner", "(I)Z"⟩
abbrev cX11_farBetween : ByteArray := prog_1_method_47_code
def yX11_farBetween : MethodName := ⟨RX11, "farBetween", "(II)I"⟩
def RX12 : String := "CandleLandModel"
def TX12 : u_T := fun k => match k with
  | 0 => ("CandleLandModel", "now", "[I", true)
  | 1 => ("CandleLandModel", "kept", "[I", true)
  | 2 => ("CandleLandModel", "isKept", "[Z", true)
  | 3 => ("CandleLandModel", "refused", "[I", true)
  | 4 => ("CandleLandModel", "above", "J", false)
  | 5 => ("CandleLandModel", "below", "J", false)
  | 6 => ("CandleLandModel", "lit", "I", false)
  | 7 => ("CandleLandModel", "cells", "[I", true)
  | 8 => ("CandleLandModel", "owners", "[I", true)
  | 9 => ("CandleLandModel", "steps", "[I", true)
  | 10 => ("CandleLandModel", "getsOne", "[I", true)
  | 11 => ("CandleLandModel", "getsOther", "[I", true)
  | 12 => ("CandleLandModel", "fits", "[Z", true)
  | 13 => ("CandleLandModel", "manyLike", "[I", true)
  | 14 => ("CandleLandModel", "manyFit", "I", false)
  | 15 => ("CandleLandModel", "bytes", "[I", true)
  | 16 => ("CandleLandModel", "bytesLong", "I", false)
  | 17 => ("CandleLandModel", "tokenAt", "I", false)
  | 18 => ("CandleLandModel", "tokenLong", "I", false)
  | 19 => ("CandleLandModel", "token", "I", false)
  | 20 => ("CandleLandModel", "value", "I", false)
  | 21 => ("CandleLandModel", "anew", "[I", true)
  | _ => ("CandleLandModel", "values", "[I", true)
def tyX12 : Nat → FieldType := fun k => match k with
  | 0 => .array .int
  | 1 => .array .int
  | 2 => .array .boolean
  | 3 => .array .int
  | 4 => .long
  | 5 => .long
  | 6 => .int
  | 7 => .array .int
  | 8 => .array .int
  | 9 => .array .int
  | 10 => .array .int
  | 11 => .array .int
  | 12 => .array .boolean
  | 13 => .array .int
  | 14 => .int
  | 15 => .array .int
  | 16 => .int
  | 17 => .int
  | 18 => .int
  | 19 => .int
  | 20 => .int
  | 21 => .array .int
  | _ => .array .int
abbrev wsX120 : List Cond := u_ws RX12 TX12 23
theorem nmX12 : ∀ a, a < 23 → ∀ b, b < 23 → a ≠ b → (TX12 a).2.1 ≠ (TX12 b).2.1 := by decide +kernel
theorem tyX12_ok : ∀ k, k < 23 → parseFieldDescriptor (TX12 k).2.2.1 = some (tyX12 k) := by decide +kernel
abbrev cX12_init : ByteArray := prog_14_method_1_code
def yX12_init : MethodName := ⟨RX12, "<init>", "()V"⟩
abbrev cX12_in : ByteArray := prog_14_method_3_code
def yX12_in : MethodName := ⟨RX12, "in", "(JJJ)Z"⟩
abbrev cX12_bad : ByteArray := prog_14_method_4_code
def yX12_bad : MethodName := ⟨RX12, "bad", "(I)I"⟩
abbrev cX12_no : ByteArray := prog_14_method_5_code
def yX12_no : MethodName := ⟨RX12, "no", "()I"⟩
abbrev cX12_full : ByteArray := prog_14_method_6_code
def yX12_full : MethodName := ⟨RX12, "full", "()I"⟩
abbrev cX12_bits : ByteArray := prog_14_method_7_code
def yX12_bits : MethodName := ⟨RX12, "bits", "(I)I"⟩
abbrev cX12_begin : ByteArray := prog_14_method_8_code
def yX12_begin : MethodName := ⟨RX12, "begin", "([II)V"⟩
abbrev cX12_candles : ByteArray := prog_14_method_9_code
def yX12_candles : MethodName := ⟨RX12, "candles", "()I"⟩
abbrev cX12_isCandle : ByteArray := prog_14_method_10_code
def yX12_isCandle : MethodName := ⟨RX12, "isCandle", "(I)Z"⟩
abbrev cX12_isCell : ByteArray := prog_14_method_11_code
def yX12_isCell : MethodName := ⟨RX12, "isCell", "(I)Z"⟩
abbrev cX12_isHour : ByteArray := prog_14_method_12_code
def yX12_isHour : MethodName := ⟨RX12, "isHour", "(I)Z"⟩
abbrev cX12_isOwner : ByteArray := prog_14_method_13_code
def yX12_isOwner : MethodName := ⟨RX12, "isOwner", "(I)Z"⟩
abbrev cX12_isLight : ByteArray := prog_14_method_14_code
def yX12_isLight : MethodName := ⟨RX12, "isLight", "(I)Z"⟩
abbrev cX12_get : ByteArray := prog_14_method_15_code
def yX12_get : MethodName := ⟨RX12, "get", "(II)I"⟩
abbrev cX12_valley : ByteArray := prog_14_method_16_code
def yX12_valley : MethodName := ⟨RX12, "valley", "(I)I"⟩
abbrev cX12_fog : ByteArray := prog_14_method_17_code
def yX12_fog : MethodName := ⟨RX12, "fog", "(I)I"⟩
abbrev cX12_layCandle : ByteArray := prog_14_method_18_code
def yX12_layCandle : MethodName := ⟨RX12, "layCandle", "([IIIIII)V"⟩
abbrev cX12_candle : ByteArray := prog_14_method_19_code
def yX12_candle : MethodName := ⟨RX12, "candle", "(IIIII)I"⟩
abbrev cX12_keep : ByteArray := prog_14_method_20_code
def yX12_keep : MethodName := ⟨RX12, "keep", "()V"⟩
abbrev cX12_move : ByteArray := prog_14_method_21_code
def yX12_move : MethodName := ⟨RX12, "move", "(II)I"⟩
abbrev cX12_light : ByteArray := prog_14_method_22_code
def yX12_light : MethodName := ⟨RX12, "light", "(II)I"⟩
abbrev cX12_undo : ByteArray := prog_14_method_23_code
def yX12_undo : MethodName := ⟨RX12, "undo", "()I"⟩
abbrev cX12_plain : ByteArray := prog_14_method_24_code
def yX12_plain : MethodName := ⟨RX12, "plain", "(II)I"⟩
abbrev cX12_wick : ByteArray := prog_14_method_25_code
def yX12_wick : MethodName := ⟨RX12, "wick", "(II)I"⟩
abbrev cX12_strength : ByteArray := prog_14_method_26_code
def yX12_strength : MethodName := ⟨RX12, "strength", "(III)I"⟩
abbrev cX12_burnsFor : ByteArray := prog_14_method_27_code
def yX12_burnsFor : MethodName := ⟨RX12, "burnsFor", "(II)I"⟩
abbrev cX12_apart : ByteArray := prog_14_method_28_code
def yX12_apart : MethodName := ⟨RX12, "apart", "(II)I"⟩
abbrev cX12_far : ByteArray := prog_14_method_29_code
def yX12_far : MethodName := ⟨RX12, "far", "(II)I"⟩
abbrev cX12_layHand : ByteArray := prog_14_method_30_code
def yX12_layHand : MethodName := ⟨RX12, "layHand", "()V"⟩
abbrev cX12_lightOf : ByteArray := prog_14_method_31_code
def yX12_lightOf : MethodName := ⟨RX12, "lightOf", "(III)I"⟩
abbrev cX12_lightIn : ByteArray := prog_14_method_32_code
def yX12_lightIn : MethodName := ⟨RX12, "lightIn", "(II)I"⟩
abbrev cX12_whose : ByteArray := prog_14_method_33_code
def yX12_whose : MethodName := ⟨RX12, "whose", "(II)I"⟩
abbrev cX12_acresOf : ByteArray := prog_14_method_34_code
def yX12_acresOf : MethodName := ⟨RX12, "acresOf", "(II)I"⟩
abbrev cX12_of : ByteArray := prog_14_method_35_code
def yX12_of : MethodName := ⟨RX12, "of", "(II)I"⟩
abbrev cX12_shines : ByteArray := prog_14_method_36_code
def yX12_shines : MethodName := ⟨RX12, "shines", "(III)I"⟩
abbrev cX12_cell : ByteArray := prog_14_method_37_code
def yX12_cell : MethodName := ⟨RX12, "cell", "(III)I"⟩
abbrev cX12_listOf : ByteArray := prog_14_method_38_code
def yX12_listOf : MethodName := ⟨RX12, "listOf", "(III)I"⟩
abbrev cX12_acres : ByteArray := prog_14_method_39_code
def yX12_acres : MethodName := ⟨RX12, "acres", "(III)I"⟩
abbrev cX12_hedges : ByteArray := prog_14_method_40_code
def yX12_hedges : MethodName := ⟨RX12, "hedges", "(II)I"⟩
abbrev cX12_dark : ByteArray := prog_14_method_41_code
def yX12_dark : MethodName := ⟨RX12, "dark", "(III)I"⟩
abbrev cX12_want : ByteArray := prog_14_method_42_code
def yX12_want : MethodName := ⟨RX12, "want", "(I)I"⟩
abbrev cX12_forget : ByteArray := prog_14_method_43_code
def yX12_forget : MethodName := ⟨RX12, "forget", "()I"⟩
abbrev cX12_areLight : ByteArray := prog_14_method_44_code
def yX12_areLight : MethodName := ⟨RX12, "areLight", "(II)Z"⟩
abbrev cX12_tallowOf : ByteArray := prog_14_method_45_code
def yX12_tallowOf : MethodName := ⟨RX12, "tallowOf", "(I)I"⟩
abbrev cX12_lighting : ByteArray := prog_14_method_46_code
def yX12_lighting : MethodName := ⟨RX12, "lighting", "(II)I"⟩
abbrev cX12_tallow : ByteArray := prog_14_method_47_code
def yX12_tallow : MethodName := ⟨RX12, "tallow", "(II)I"⟩
abbrev cX12_put : ByteArray := prog_14_method_48_code
def yX12_put : MethodName := ⟨RX12, "put", "(II)I"⟩
abbrev cX12_isBeside : ByteArray := prog_14_method_49_code
def yX12_isBeside : MethodName := ⟨RX12, "isBeside", "(II)Z"⟩
abbrev cX12_laySteps : ByteArray := prog_14_method_50_code
def yX12_laySteps : MethodName := ⟨RX12, "laySteps", "(III)V"⟩
abbrev cX12_thief : ByteArray := prog_14_method_51_code
def yX12_thief : MethodName := ⟨RX12, "thief", "(IIIII)I"⟩
abbrev cX12_wedding : ByteArray := prog_14_method_52_code
def yX12_wedding : MethodName := ⟨RX12, "wedding", "(III)I"⟩
abbrev cX12_ownOf : ByteArray := prog_14_method_53_code
def yX12_ownOf : MethodName := ⟨RX12, "ownOf", "(I)I"⟩
abbrev cX12_layGets : ByteArray := prog_14_method_54_code
def yX12_layGets : MethodName := ⟨RX12, "layGets", "(IIII)V"⟩
abbrev cX12_spite : ByteArray := prog_14_method_55_code
def yX12_spite : MethodName := ⟨RX12, "spite", "(IIII)I"⟩
abbrev cX12_reading : ByteArray := prog_14_method_56_code
def yX12_reading : MethodName := ⟨RX12, "reading", "(III)I"⟩
abbrev cX12_burnt : ByteArray := prog_14_method_57_code
def yX12_burnt : MethodName := ⟨RX12, "burnt", "()I"⟩
abbrev cX12_areSo : ByteArray := prog_14_method_58_code
def yX12_areSo : MethodName := ⟨RX12, "areSo", "()Z"⟩
abbrev cX12_layFits : ByteArray := prog_14_method_59_code
def yX12_layFits : MethodName := ⟨RX12, "layFits", "()V"⟩
abbrev cX12_burn : ByteArray := prog_14_method_60_code
def yX12_burn : MethodName := ⟨RX12, "burn", "(I)I"⟩
abbrev cX12_mostLike : ByteArray := prog_14_method_61_code
def yX12_mostLike : MethodName := ⟨RX12, "mostLike", "(II)I"⟩
abbrev cX12_measure : ByteArray := prog_14_method_62_code
def yX12_measure : MethodName := ⟨RX12, "measure", "(I)I"⟩
abbrev cX12_fraction : ByteArray := prog_14_method_63_code
def yX12_fraction : MethodName := ⟨RX12, "fraction", "(JJ)V"⟩
abbrev cX12_draught : ByteArray := prog_14_method_64_code
def yX12_draught : MethodName := ⟨RX12, "draught", "(IIII)I"⟩
abbrev cX12_nights : ByteArray := prog_14_method_65_code
def yX12_nights : MethodName := ⟨RX12, "nights", "(IIII)I"⟩
abbrev cX12_type : ByteArray := prog_14_method_66_code
def yX12_type : MethodName := ⟨RX12, "type", "(I)I"⟩
abbrev cX12_clear : ByteArray := prog_14_method_67_code
def yX12_clear : MethodName := ⟨RX12, "clear", "()I"⟩
abbrev cX12_isSmall : ByteArray := prog_14_method_68_code
def yX12_isSmall : MethodName := ⟨RX12, "isSmall", "(I)Z"⟩
abbrev cX12_isFigure : ByteArray := prog_14_method_69_code
def yX12_isFigure : MethodName := ⟨RX12, "isFigure", "(I)Z"⟩
abbrev cX12_lookAt : ByteArray := prog_14_method_70_code
def yX12_lookAt : MethodName := ⟨RX12, "lookAt", "(I)V"⟩
abbrev cX12_goBehind : ByteArray := prog_14_method_71_code
def yX12_goBehind : MethodName := ⟨RX12, "goBehind", "()V"⟩
abbrev cX12_isCalled : ByteArray := prog_14_method_72_code
def yX12_isCalled : MethodName := ⟨RX12, "isCalled", "(IIIIIII)Z"⟩
abbrev cX12_takes : ByteArray := prog_14_method_73_code
def yX12_takes : MethodName := ⟨RX12, "takes", "(III)Z"⟩
abbrev cX12_takesFirst : ByteArray := prog_14_method_74_code
def yX12_takesFirst : MethodName := ⟨RX12, "takesFirst", "()Z"⟩
abbrev cX12_takesCandle : ByteArray := prog_14_method_75_code
def yX12_takesCandle : MethodName := ⟨RX12, "takesCandle", "()Z"⟩
abbrev cX12_takesOut : ByteArray := prog_14_method_76_code
def yX12_takesOut : MethodName := ⟨RX12, "takesOut", "()Z"⟩
abbrev cX12_takesItem : ByteArray := prog_14_method_77_code
def yX12_takesItem : MethodName := ⟨RX12, "takesItem", "()Z"⟩
abbrev cX12_read : ByteArray := prog_14_method_78_code
def yX12_read : MethodName := ⟨RX12, "read", "()I"⟩
abbrev cX12_part : ByteArray := prog_14_method_79_code
def yX12_part : MethodName := ⟨RX12, "part", "(I)J"⟩
abbrev cX12_image : ByteArray := prog_14_method_80_code
def yX12_image : MethodName := ⟨RX12, "image", "(I)I"⟩
abbrev cX12_from : ByteArray := prog_14_method_81_code
def yX12_from : MethodName := ⟨RX12, "from", "(I)I"⟩
abbrev cX12_status : ByteArray := prog_14_method_82_code
def yX12_status : MethodName := ⟨RX12, "status", "(I)I"⟩
abbrev cX12_counted : ByteArray := prog_14_method_83_code
def yX12_counted : MethodName := ⟨RX12, "counted", "(I)I"⟩
abbrev cX12_count : ByteArray := prog_14_method_84_code
def yX12_count : MethodName := ⟨RX12, "count", "(I)I"⟩
abbrev cX12_sums : ByteArray := prog_14_method_85_code
def yX12_sums : MethodName := ⟨RX12, "sums", "(JII)J"⟩
abbrev cX12_digest : ByteArray := prog_14_method_86_code
def yX12_digest : MethodName := ⟨RX12, "digest", "()J"⟩
def RJ6 : String := "java/lang/Integer"
def TJ6 : u_T := fun k => match k with
  | _ => ("", "", "", false)
def tyJ6 : Nat → FieldType := fun k => match k with
  | _ => .int
abbrev wsJ60 : List Cond := u_ws RJ6 TJ6 0
theorem nmJ6 : ∀ a, a < 0 → ∀ b, b < 0 → a ≠ b → (TJ6 a).2.1 ≠ (TJ6 b).2.1 := by decide +kernel
theorem tyJ6_ok : ∀ k, k < 0 → parseFieldDescriptor (TJ6 k).2.2.1 = some (tyJ6 k) := by decide +kernel
abbrev cJ6_bitCount_0f7a4 : ByteArray := prog_15_method_49_code
def yJ6_bitCount_0f7a4 : MethodName := ⟨RJ6, "bitCount", "(I)I"⟩
def RJ9 : String := "java/lang/Math"
def TJ9 : u_T := fun k => match k with
  | _ => ("", "", "", false)
def tyJ9 : Nat → FieldType := fun k => match k with
  | _ => .int
abbrev wsJ90 : List Cond := u_ws RJ9 TJ9 0
theorem nmJ9 : ∀ a, a < 0 → ∀ b, b < 0 → a ≠ b → (TJ9 a).2.1 ≠ (TJ9 b).2.1 := by decide +kernel
theorem tyJ9_ok : ∀ k, k < 0 → parseFieldDescriptor (TJ9 k).2.2.1 = some (tyJ9 k) := by decide +kernel
abbrev cJ9_abs_0f7a4 : ByteArray := prog_16_method_59_code
def yJ9_abs_0f7a4 : MethodName := ⟨RJ9, "abs", "(I)I"⟩
abbrev cJ9_max_7cf53 : ByteArray := prog_16_method_65_code
def yJ9_max_7cf53 : MethodName := ⟨RJ9, "max", "(II)I"⟩
def RJ0 : String := "java/lang/String"
def TJ0 : u_T := fun k => match k with
  | _ => ("", "", "", false)
def tyJ0 : Nat → FieldType := fun k => match k with
  | _ => .int
abbrev wsJ00 : List Cond := u_ws RJ0 TJ0 0
theorem nmJ0 : ∀ a, a < 0 → ∀ b, b < 0 → a ≠ b → (TJ0 a).2.1 ≠ (TJ0 b).2.1 := by decide +kernel
theorem tyJ0_ok : ∀ k, k < 0 → parseFieldDescriptor (TJ0 k).2.2.1 = some (tyJ0 k) := by decide +kernel
abbrev cJ0_length_8abf5 : ByteArray := prog_17_method_54_code
def yJ0_length_8abf5 : MethodName := ⟨RJ0, "length", "()I"⟩
abbrev cJ0_charAt_5068e : ByteArray := prog_17_method_56_code
def yJ0_charAt_5068e : MethodName := ⟨RJ0, "charAt", "(I)C"⟩
abbrev cJ0_coder_7d493 : ByteArray := prog_17_method_152_code
def yJ0_coder_7d493 : MethodName := ⟨RJ0, "coder", "()B"⟩
abbrev cJ0_isLatin1_aae02 : ByteArray := prog_17_method_154_code
def yJ0_isLatin1_aae02 : MethodName := ⟨RJ0, "isLatin1", "()Z"⟩
abbrev cJ0_checkIndex_df160 : ByteArray := prog_17_method_155_code
def yJ0_checkIndex_df160 : MethodName := ⟨RJ0, "checkIndex", "(II)V"⟩
def RJ1 : String := "java/lang/StringLatin1"
def TJ1 : u_T := fun k => match k with
  | _ => ("", "", "", false)
def tyJ1 : Nat → FieldType := fun k => match k with
  | _ => .int
abbrev wsJ10 : List Cond := u_ws RJ1 TJ1 0
theorem nmJ1 : ∀ a, a < 0 → ∀ b, b < 0 → a ≠ b → (TJ1 a).2.1 ≠ (TJ1 b).2.1 := by decide +kernel
theorem tyJ1_ok : ∀ k, k < 0 → parseFieldDescriptor (TJ1 k).2.2.1 = some (tyJ1 k) := by decide +kernel
abbrev cJ1_charAt_3b067 : ByteArray := prog_18_method_2_code
def yJ1_charAt_3b067 : MethodName := ⟨RJ1, "charAt", "([BI)C"⟩
def RJ2 : String := "java/lang/StringUTF16"
def TJ2 : u_T := fun k => match k with
  | _ => ("", "", "", false)
def tyJ2 : Nat → FieldType := fun k => match k with
  | _ => .int
abbrev wsJ20 : List Cond := u_ws RJ2 TJ2 0
theorem nmJ2 : ∀ a, a < 0 → ∀ b, b < 0 → a ≠ b → (TJ2 a).2.1 ≠ (TJ2 b).2.1 := by decide +kernel
theorem tyJ2_ok : ∀ k, k < 0 → parseFieldDescriptor (TJ2 k).2.2.1 = some (tyJ2 k) := by decide +kernel
abbrev cJ2_getChar_3b067 : ByteArray := prog_19_method_5_code
def yJ2_getChar_3b067 : MethodName := ⟨RJ2, "getChar", "([BI)C"⟩
abbrev cJ2_length_9d52b : ByteArray := prog_19_method_6_code
def yJ2_length_9d52b : MethodName := ⟨RJ2, "length", "([B)I"⟩
abbrev cJ2_charAt_3b067 : ByteArray := prog_19_method_83_code
def yJ2_charAt_3b067 : MethodName := ⟨RJ2, "charAt", "([BI)C"⟩
abbrev cJ2_checkIndex_2214a : ByteArray := prog_19_method_91_code
def yJ2_checkIndex_2214a : MethodName := ⟨RJ2, "checkIndex", "(I[B)V"⟩
def RJ10 : String := "java/lang/System"
def TJ10 : u_T := fun k => match k with
  | _ => ("", "", "", false)
def tyJ10 : Nat → FieldType := fun k => match k with
  | _ => .int
abbrev wsJ100 : List Cond := u_ws RJ10 TJ10 0
theorem nmJ10 : ∀ a, a < 0 → ∀ b, b < 0 → a ≠ b → (TJ10 a).2.1 ≠ (TJ10 b).2.1 := by decide +kernel
theorem tyJ10_ok : ∀ k, k < 0 → parseFieldDescriptor (TJ10 k).2.2.1 = some (tyJ10 k) := by decide +kernel
def RJ3 : String := "jdk/internal/util/Preconditions"
def TJ3 : u_T := fun k => match k with
  | _ => ("", "", "", false)
def tyJ3 : Nat → FieldType := fun k => match k with
  | _ => .int
abbrev wsJ30 : List Cond := u_ws RJ3 TJ3 0
theorem nmJ3 : ∀ a, a < 0 → ∀ b, b < 0 → a ≠ b → (TJ3 a).2.1 ≠ (TJ3 b).2.1 := by decide +kernel
theorem tyJ3_ok : ∀ k, k < 0 → parseFieldDescriptor (TJ3 k).2.2.1 = some (tyJ3 k) := by decide +kernel
abbrev cJ3_checkIndex_8e157 : ByteArray := prog_21_method_11_code
def yJ3_checkIndex_8e157 : MethodName := ⟨RJ3, "checkIndex", "(IILjava/util/function/BiFunction;)I"⟩
def RL : String := "CandleLandLaw"
abbrev cL_law : ByteArray := code
def yL_law : MethodName := ⟨RL, "law", "([I)Z"⟩
end
section
theorem dX0_init_0 : decode cX0_init 0 = .ok (.aload_n 0, 1) := by decide +kernel
theorem dX0_init_1 : decode cX0_init 1 = .ok (.invokespecial 1, 3) := by decide +kernel
theorem dX0_init_4 : decode cX0_init 4 = .ok (.return_, 1) := by decide +kernel
theorem dX0_strength_0 : decode cX0_strength 0 = .ok (.aload_n 0, 1) := by decide +kernel
theorem dX0_strength_1 : decode cX0_strength 1 = .ok (.iload_n 1, 1) := by decide +kernel
theorem dX0_strength_2 : decode cX0_strength 2 = .ok (.iload_n 2, 1) := by decide +kernel
theorem dX0_strength_3 : decode cX0_strength 3 = .ok (.invokespecial 7, 3) := by decide +kernel
theorem dX0_strength_6 : decode cX0_strength 6 = .ok (.iconst 2, 1) := by decide +kernel
theorem dX0_strength_7 : decode cX0_strength 7 = .ok (.idiv, 1) := by decide +kernel
theorem dX0_strength_8 : decode cX0_strength 8 = .ok (.ireturn, 1) := by decide +kernel
theorem dX0_hours_0 : decode cX0_hours 0 = .ok (.aload_n 0, 1) := by decide +kernel
theorem dX0_hours_1 : decode cX0_hours 1 = .ok (.iload_n 1, 1) := by decide +kernel
theorem dX0_hours_2 : decode cX0_hours 2 = .ok (.invokespecial 11, 3) := by decide +kernel
theorem dX0_hours_5 : decode cX0_hours 5 = .ok (.iconst 2, 1) := by decide +kernel
theorem dX0_hours_6 : decode cX0_hours 6 = .ok (.iadd, 1) := by decide +kernel
theorem dX0_hours_7 : decode cX0_hours 7 = .ok (.ireturn, 1) := by decide +kernel
theorem dX1_init_0 : decode cX1_init 0 = .ok (.aload_n 0, 1) := by decide +kernel
theorem dX1_init_1 : decode cX1_init 1 = .ok (.invokespecial 1, 3) := by decide +kernel
theorem dX1_init_4 : decode cX1_init 4 = .ok (.return_, 1) := by decide +kernel
theorem dX1_strength_0 : decode cX1_strength 0 = .ok (.aload_n 0, 1) := by decide +kernel
theorem dX1_strength_1 : decode cX1_strength 1 = .ok (.iload_n 1, 1) := by decide +kernel
theorem dX1_strength_2 : decode cX1_strength 2 = .ok (.iload_n 2, 1) := by decide +kernel
theorem dX1_strength_3 : decode cX1_strength 3 = .ok (.iconst 2, 1) := by decide +kernel
theorem dX1_strength_4 : decode cX1_strength 4 = .ok (.if_icmp .le 9, 3) := by decide +kernel
theorem dX1_strength_7 : decode cX1_strength 7 = .ok (.iload_n 2, 1) := by decide +kernel
theorem dX1_strength_8 : decode cX1_strength 8 = .ok (.iconst 2, 1) := by decide +kernel
theorem dX1_strength_9 : decode cX1_strength 9 = .ok (.isub, 1) := by decide +kernel
theorem dX1_strength_10 : decode cX1_strength 10 = .ok (.goto 4, 3) := by decide +kernel
theorem dX1_strength_13 : decode cX1_strength 13 = .ok (.iconst 0, 1) := by decide +kernel
theorem dX1_strength_14 : decode cX1_strength 14 = .ok (.invokespecial 7, 3) := by decide +kernel
theorem dX1_strength_17 : decode cX1_strength 17 = .ok (.ireturn, 1) := by decide +kernel
theorem dX2_init_0 : decode cX2_init 0 = .ok (.aload_n 0, 1) := by decide +kernel
theorem dX2_init_1 : decode cX2_init 1 = .ok (.invokespecial 1, 3) := by decide +kernel
theorem dX2_init_4 : decode cX2_init 4 = .ok (.return_, 1) := by decide +kernel
theorem dX2_hours_0 : decode cX2_hours 0 = .ok (.iconst 2, 1) := by decide +kernel
theorem dX2_hours_1 : decode cX2_hours 1 = .ok (.aload_n 0, 1) := by decide +kernel
theorem dX2_hours_2 : decode cX2_hours 2 = .ok (.iload_n 1, 1) := by decide +kernel
theorem dX2_hours_3 : decode cX2_hours 3 = .ok (.invokespecial 7, 3) := by decide +kernel
theorem dX2_hours_6 : decode cX2_hours 6 = .ok (.imul, 1) := by decide +kernel
theorem dX2_hours_7 : decode cX2_hours 7 = .ok (.ireturn, 1) := by decide +kernel
theorem dX3_init_0 : decode cX3_init 0 = .ok (.aload_n 0, 1) := by decide +kernel
theorem dX3_init_1 : decode cX3_init 1 = .ok (.invokespecial 3, 3) := by decide +kernel
theorem dX3_init_4 : decode cX3_init 4 = .ok (.aload_n 0, 1) := by decide +kernel
theorem dX3_init_5 : decode cX3_init 5 = .ok (.bipush 6, 2) := by decide +kernel
theorem dX3_init_7 : decode cX3_init 7 = .ok (.anewarray 9, 3) := by decide +kernel
theorem dX3_init_10 : decode cX3_init 10 = .ok (.dup, 1) := by decide +kernel
theorem dX3_init_11 : decode cX3_init 11 = .ok (.iconst 0, 1) := by decide +kernel
theorem dX3_init_12 : decode cX3_init 12 = .ok (.new 9, 3) := by decide +kernel
theorem dX3_init_15 : decode cX3_init 15 = .ok (.dup, 1) := by decide +kernel
theorem dX3_init_16 : decode cX3_init 16 = .ok (.invokespecial 11, 3) := by decide +kernel
theorem dX3_init_19 : decode cX3_init 19 = .ok (.aastore, 1) := by decide +kernel
theorem dX3_init_20 : decode cX3_init 20 = .ok (.dup, 1) := by decide +kernel
theorem dX3_init_21 : decode cX3_init 21 = .ok (.iconst 1, 1) := by decide +kernel
theorem dX3_init_22 : decode cX3_init 22 = .ok (.new 12, 3) := by decide +kernel
theorem dX3_init_25 : decode cX3_init 25 = .ok (.dup, 1) := by decide +kernel
theorem dX3_init_26 : decode cX3_init 26 = .ok (.invokespecial 14, 3) := by decide +kernel
theorem dX3_init_29 : decode cX3_init 29 = .ok (.aastore, 1) := by decide +kernel
theorem dX3_init_30 : decode cX3_init 30 = .ok (.dup, 1) := by decide +kernel
theorem dX3_init_31 : decode cX3_init 31 = .ok (.iconst 2, 1) := by decide +kernel
theorem dX3_init_32 : decode cX3_init 32 = .ok (.new 15, 3) := by decide +kernel
theorem dX3_init_35 : decode cX3_init 35 = .ok (.dup, 1) := by decide +kernel
theorem dX3_init_36 : decode cX3_init 36 = .ok (.invokespecial 17, 3) := by decide +kernel
theorem dX3_init_39 : decode cX3_init 39 = .ok (.aastore, 1) := by decide +kernel
theorem dX3_init_40 : decode cX3_init 40 = .ok (.dup, 1) := by decide +kernel
theorem dX3_init_41 : decode cX3_init 41 = .ok (.iconst 3, 1) := by decide +kernel
theorem dX3_init_42 : decode cX3_init 42 = .ok (.new 18, 3) := by decide +kernel
theorem dX3_init_45 : decode cX3_init 45 = .ok (.dup, 1) := by decide +kernel
theorem dX3_init_46 : decode cX3_init 46 = .ok (.invokespecial 20, 3) := by decide +kernel
theorem dX3_init_49 : decode cX3_init 49 = .ok (.aastore, 1) := by decide +kernel
theorem dX3_init_50 : decode cX3_init 50 = .ok (.dup, 1) := by decide +kernel
theorem dX3_init_51 : decode cX3_init 51 = .ok (.iconst 4, 1) := by decide +kernel
theorem dX3_init_52 : decode cX3_init 52 = .ok (.new 21, 3) := by decide +kernel
theorem dX3_init_55 : decode cX3_init 55 = .ok (.dup, 1) := by decide +kernel
theorem dX3_init_56 : decode cX3_init 56 = .ok (.invokespecial 23, 3) := by decide +kernel
theorem dX3_init_59 : decode cX3_init 59 = .ok (.aastore, 1) := by decide +kernel
theorem dX3_init_60 : decode cX3_init 60 = .ok (.dup, 1) := by decide +kernel
theorem dX3_init_61 : decode cX3_init 61 = .ok (.iconst 5, 1) := by decide +kernel
theorem dX3_init_62 : decode cX3_init 62 = .ok (.new 24, 3) := by decide +kernel
theorem dX3_init_65 : decode cX3_init 65 = .ok (.dup, 1) := by decide +kernel
theorem dX3_init_66 : decode cX3_init 66 = .ok (.invokespecial 26, 3) := by decide +kernel
theorem dX3_init_69 : decode cX3_init 69 = .ok (.aastore, 1) := by decide +kernel
theorem dX3_init_70 : decode cX3_init 70 = .ok (.putfield 27, 3) := by decide +kernel
theorem dX3_init_73 : decode cX3_init 73 = .ok (.aload_n 0, 1) := by decide +kernel
theorem dX3_init_74 : decode cX3_init 74 = .ok (.sipush 448, 3) := by decide +kernel
theorem dX3_init_77 : decode cX3_init 77 = .ok (.newarray .int, 2) := by decide +kernel
theorem dX3_init_79 : decode cX3_init 79 = .ok (.putfield 33, 3) := by decide +kernel
theorem dX3_init_82 : decode cX3_init 82 = .ok (.aload_n 0, 1) := by decide +kernel
theorem dX3_init_83 : decode cX3_init 83 = .ok (.bipush 7, 2) := by decide +kernel
theorem dX3_init_85 : decode cX3_init 85 = .ok (.newarray .int, 2) := by decide +kernel
theorem dX3_init_87 : decode cX3_init 87 = .ok (.putfield 37, 3) := by decide +kernel
theorem dX3_init_90 : decode cX3_init 90 = .ok (.aload_n 0, 1) := by decide +kernel
theorem dX3_init_91 : decode cX3_init 91 = .ok (.bipush 64, 2) := by decide +kernel
theorem dX3_init_93 : decode cX3_init 93 = .ok (.newarray .int, 2) := by decide +kernel
theorem dX3_init_95 : decode cX3_init 95 = .ok (.putfield 40, 3) := by decide +kernel
theorem dX3_init_98 : decode cX3_init 98 = .ok (.aload_n 0, 1) := by decide +kernel
theorem dX3_init_99 : decode cX3_init 99 = .ok (.bipush 64, 2) := by decide +kernel
theorem dX3_init_101 : decode cX3_init 101 = .ok (.newarray .int, 2) := by decide +kernel
theorem dX3_init_103 : decode cX3_init 103 = .ok (.putfield 43, 3) := by decide +kernel
theorem dX3_init_106 : decode cX3_init 106 = .ok (.aload_n 0, 1) := by decide +kernel
theorem dX3_init_107 : decode cX3_init 107 = .ok (.bipush 15, 2) := by decide +kernel
theorem dX3_init_109 : decode cX3_init 109 = .ok (.newarray .int, 2) := by decide +kernel
theorem dX3_init_111 : decode cX3_init 111 = .ok (.putfield 46, 3) := by decide +kernel
theorem dX3_init_114 : decode cX3_init 114 = .ok (.aload_n 0, 1) := by decide +kernel
theorem dX3_init_115 : decode cX3_init 115 = .ok (.iconst 4, 1) := by decide +kernel
theorem dX3_init_116 : decode cX3_init 116 = .ok (.newarray .int, 2) := by decide +kernel
theorem dX3_init_118 : decode cX3_init 118 = .ok (.putfield 49, 3) := by decide +kernel
theorem dX3_init_121 : decode cX3_init 121 = .ok (.aload_n 0, 1) := by decide +kernel
theorem dX3_init_122 : decode cX3_init 122 = .ok (.iconst 4, 1) := by decide +kernel
theorem dX3_init_123 : decode cX3_init 123 = .ok (.newarray .int, 2) := by decide +kernel
theorem dX3_init_125 : decode cX3_init 125 = .ok (.putfield 52, 3) := by decide +kernel
theorem dX3_init_128 : decode cX3_init 128 = .ok (.aload_n 0, 1) := by decide +kernel
theorem dX3_init_129 : decode cX3_init 129 = .ok (.aload_n 1, 1) := by decide +kernel
theorem dX3_init_130 : decode cX3_init 130 = .ok (.putfield 55, 3) := by decide +kernel
theorem dX3_init_133 : decode cX3_init 133 = .ok (.return_, 1) := by decide +kernel
theorem dX3_hoursOf_0 : decode cX3_hoursOf 0 = .ok (.aload_n 0, 1) := by decide +kernel
theorem dX3_hoursOf_1 : decode cX3_hoursOf 1 = .ok (.getfield 27, 3) := by decide +kernel
theorem dX3_hoursOf_4 : decode cX3_hoursOf 4 = .ok (.aload_n 0, 1) := by decide +kernel
theorem dX3_hoursOf_5 : decode cX3_hoursOf 5 = .ok (.getfield 55, 3) := by decide +kernel
theorem dX3_hoursOf_8 : decode cX3_hoursOf 8 = .ok (.getfield 59, 3) := by decide +kernel
theorem dX3_hoursOf_11 : decode cX3_hoursOf 11 = .ok (.iload_n 1, 1) := by decide +kernel
theorem dX3_hoursOf_12 : decode cX3_hoursOf 12 = .ok (.iaload, 1) := by decide +kernel
theorem dX3_hoursOf_13 : decode cX3_hoursOf 13 = .ok (.aaload, 1) := by decide +kernel
theorem dX3_hoursOf_14 : decode cX3_hoursOf 14 = .ok (.aload_n 0, 1) := by decide +kernel
theorem dX3_hoursOf_15 : decode cX3_hoursOf 15 = .ok (.getfield 55, 3) := by decide +kernel
theorem dX3_hoursOf_18 : decode cX3_hoursOf 18 = .ok (.getfield 64, 3) := by decide +kernel
theorem dX3_hoursOf_21 : decode cX3_hoursOf 21 = .ok (.iload_n 1, 1) := by decide +kernel
theorem dX3_hoursOf_22 : decode cX3_hoursOf 22 = .ok (.iaload, 1) := by decide +kernel
theorem dX3_hoursOf_23 : decode cX3_hoursOf 23 = .ok (.invokevirtual 67, 3) := by decide +kernel
theorem dX3_hoursOf_26 : decode cX3_hoursOf 26 = .ok (.ireturn, 1) := by decide +kernel
theorem dX3_ifLit_0 : decode cX3_ifLit 0 = .ok (.aload_n 0, 1) := by decide +kernel
theorem dX3_ifLit_1 : decode cX3_ifLit 1 = .ok (.getfield 27, 3) := by decide +kernel
theorem dX3_ifLit_4 : decode cX3_ifLit 4 = .ok (.aload_n 0, 1) := by decide +kernel
theorem dX3_ifLit_5 : decode cX3_ifLit 5 = .ok (.getfield 55, 3) := by decide +kernel
theorem dX3_ifLit_8 : decode cX3_ifLit 8 = .ok (.getfield 59, 3) := by decide +kernel
theorem dX3_ifLit_11 : decode cX3_ifLit 11 = .ok (.iload_n 1, 1) := by decide +kernel
theorem dX3_ifLit_12 : decode cX3_ifLit 12 = .ok (.iaload, 1) := by decide +kernel
theorem dX3_ifLit_13 : decode cX3_ifLit 13 = .ok (.aaload, 1) := by decide +kernel
theorem dX3_ifLit_14 : decode cX3_ifLit 14 = .ok (.astore 4, 2) := by decide +kernel
theorem dX3_ifLit_16 : decode cX3_ifLit 16 = .ok (.iload_n 3, 1) := by decide +kernel
theorem dX3_ifLit_17 : decode cX3_ifLit 17 = .ok (.aload 4, 2) := by decide +kernel
theorem dX3_ifLit_19 : decode cX3_ifLit 19 = .ok (.aload_n 0, 1) := by decide +kernel
theorem dX3_ifLit_20 : decode cX3_ifLit 20 = .ok (.getfield 55, 3) := by decide +kernel
theorem dX3_ifLit_23 : decode cX3_ifLit 23 = .ok (.getfield 64, 3) := by decide +kernel
theorem dX3_ifLit_26 : decode cX3_ifLit 26 = .ok (.iload_n 1, 1) := by decide +kernel
theorem dX3_ifLit_27 : decode cX3_ifLit 27 = .ok (.iaload, 1) := by decide +kernel
theorem dX3_ifLit_28 : decode cX3_ifLit 28 = .ok (.invokevirtual 67, 3) := by decide +kernel
theorem dX3_ifLit_31 : decode cX3_ifLit 31 = .ok (.if_icmp .lt 5, 3) := by decide +kernel
theorem dX3_ifLit_34 : decode cX3_ifLit 34 = .ok (.iconst 0, 1) := by decide +kernel
theorem dX3_ifLit_35 : decode cX3_ifLit 35 = .ok (.ireturn, 1) := by decide +kernel
theorem dX3_ifLit_36 : decode cX3_ifLit 36 = .ok (.iconst 0, 1) := by decide +kernel
theorem dX3_ifLit_37 : decode cX3_ifLit 37 = .ok (.aload 4, 2) := by decide +kernel
theorem dX3_ifLit_39 : decode cX3_ifLit 39 = .ok (.aload_n 0, 1) := by decide +kernel
theorem dX3_ifLit_40 : decode cX3_ifLit 40 = .ok (.getfield 55, 3) := by decide +kernel
theorem dX3_ifLit_43 : decode cX3_ifLit 43 = .ok (.getfield 71, 3) := by decide +kernel
theorem dX3_ifLit_46 : decode cX3_ifLit 46 = .ok (.iload_n 1, 1) := by decide +kernel
theorem dX3_ifLit_47 : decode cX3_ifLit 47 = .ok (.iaload, 1) := by decide +kernel
theorem dX3_ifLit_48 : decode cX3_ifLit 48 = .ok (.iload_n 2, 1) := by decide +kernel
theorem dX3_ifLit_49 : decode cX3_ifLit 49 = .ok (.invokevirtual 74, 3) := by decide +kernel
theorem dX3_ifLit_52 : decode cX3_ifLit 52 = .ok (.aload_n 0, 1) := by decide +kernel
theorem dX3_ifLit_53 : decode cX3_ifLit 53 = .ok (.getfield 55, 3) := by decide +kernel
theorem dX3_ifLit_56 : decode cX3_ifLit 56 = .ok (.getfield 78, 3) := by decide +kernel
theorem dX3_ifLit_59 : decode cX3_ifLit 59 = .ok (.isub, 1) := by decide +kernel
theorem dX3_ifLit_60 : decode cX3_ifLit 60 = .ok (.invokestatic 82, 3) := by decide +kernel
theorem dX3_ifLit_63 : decode cX3_ifLit 63 = .ok (.ireturn, 1) := by decide +kernel
theorem dX3_layCell_0 : decode cX3_layCell 0 = .ok (.iconst 0, 1) := by decide +kernel
theorem dX3_layCell_1 : decode cX3_layCell 1 = .ok (.istore_n 3, 1) := by decide +kernel
theorem dX3_layCell_2 : decode cX3_layCell 2 = .ok (.iload_n 3, 1) := by decide +kernel
theorem dX3_layCell_3 : decode cX3_layCell 3 = .ok (.aload_n 0, 1) := by decide +kernel
theorem dX3_layCell_4 : decode cX3_layCell 4 = .ok (.getfield 55, 3) := by decide +kernel
theorem dX3_layCell_7 : decode cX3_layCell 7 = .ok (.getfield 87, 3) := by decide +kernel
theorem dX3_layCell_10 : decode cX3_layCell 10 = .ok (.if_icmp .ge 35, 3) := by decide +kernel
theorem dX3_layCell_13 : decode cX3_layCell 13 = .ok (.aload_n 0, 1) := by decide +kernel
theorem dX3_layCell_14 : decode cX3_layCell 14 = .ok (.getfield 33, 3) := by decide +kernel
theorem dX3_layCell_17 : decode cX3_layCell 17 = .ok (.iload_n 1, 1) := by decide +kernel
theorem dX3_layCell_18 : decode cX3_layCell 18 = .ok (.bipush 7, 2) := by decide +kernel
theorem dX3_layCell_20 : decode cX3_layCell 20 = .ok (.imul, 1) := by decide +kernel
theorem dX3_layCell_21 : decode cX3_layCell 21 = .ok (.iload_n 3, 1) := by decide +kernel
theorem dX3_layCell_22 : decode cX3_layCell 22 = .ok (.iadd, 1) := by decide +kernel
theorem dX3_layCell_23 : decode cX3_layCell 23 = .ok (.aload_n 0, 1) := by decide +kernel
theorem dX3_layCell_24 : decode cX3_layCell 24 = .ok (.iload_n 3, 1) := by decide +kernel
theorem dX3_layCell_25 : decode cX3_layCell 25 = .ok (.aload_n 0, 1) := by decide +kernel
theorem dX3_layCell_26 : decode cX3_layCell 26 = .ok (.getfield 55, 3) := by decide +kernel
theorem dX3_layCell_29 : decode cX3_layCell 29 = .ok (.iload_n 3, 1) := by decide +kernel
theorem dX3_layCell_30 : decode cX3_layCell 30 = .ok (.iload_n 1, 1) := by decide +kernel
theorem dX3_layCell_31 : decode cX3_layCell 31 = .ok (.invokevirtual 90, 3) := by decide +kernel
theorem dX3_layCell_34 : decode cX3_layCell 34 = .ok (.iload_n 2, 1) := by decide +kernel
theorem dX3_layCell_35 : decode cX3_layCell 35 = .ok (.invokevirtual 93, 3) := by decide +kernel
theorem dX3_layCell_38 : decode cX3_layCell 38 = .ok (.iastore, 1) := by decide +kernel
theorem dX3_layCell_39 : decode cX3_layCell 39 = .ok (.iinc 3 1, 3) := by decide +kernel
theorem dX3_layCell_42 : decode cX3_layCell 42 = .ok (.goto (-40), 3) := by decide +kernel
theorem dX3_layCell_45 : decode cX3_layCell 45 = .ok (.return_, 1) := by decide +kernel
theorem dX3_layAll_0 : decode cX3_layAll 0 = .ok (.iconst 0, 1) := by decide +kernel
theorem dX3_layAll_1 : decode cX3_layAll 1 = .ok (.istore_n 2, 1) := by decide +kernel
theorem dX3_layAll_2 : decode cX3_layAll 2 = .ok (.iload_n 2, 1) := by decide +kernel
theorem dX3_layAll_3 : decode cX3_layAll 3 = .ok (.aload_n 0, 1) := by decide +kernel
theorem dX3_layAll_4 : decode cX3_layAll 4 = .ok (.getfield 55, 3) := by decide +kernel
theorem dX3_layAll_7 : decode cX3_layAll 7 = .ok (.getfield 87, 3) := by decide +kernel
theorem dX3_layAll_10 : decode cX3_layAll 10 = .ok (.if_icmp .ge 54, 3) := by decide +kernel
theorem dX3_layAll_13 : decode cX3_layAll 13 = .ok (.aload_n 0, 1) := by decide +kernel
theorem dX3_layAll_14 : decode cX3_layAll 14 = .ok (.iload_n 2, 1) := by decide +kernel
theorem dX3_layAll_15 : decode cX3_layAll 15 = .ok (.iload_n 1, 1) := by decide +kernel
theorem dX3_layAll_16 : decode cX3_layAll 16 = .ok (.invokevirtual 97, 3) := by decide +kernel
theorem dX3_layAll_19 : decode cX3_layAll 19 = .ok (.iconst 0, 1) := by decide +kernel
theorem dX3_layAll_20 : decode cX3_layAll 20 = .ok (.istore_n 3, 1) := by decide +kernel
theorem dX3_layAll_21 : decode cX3_layAll 21 = .ok (.iload_n 3, 1) := by decide +kernel
theorem dX3_layAll_22 : decode cX3_layAll 22 = .ok (.bipush 64, 2) := by decide +kernel
theorem dX3_layAll_24 : decode cX3_layAll 24 = .ok (.if_icmp .ge 34, 3) := by decide +kernel
theorem dX3_layAll_27 : decode cX3_layAll 27 = .ok (.aload_n 0, 1) := by decide +kernel
theorem dX3_layAll_28 : decode cX3_layAll 28 = .ok (.getfield 33, 3) := by decide +kernel
theorem dX3_layAll_31 : decode cX3_layAll 31 = .ok (.iload_n 3, 1) := by decide +kernel
theorem dX3_layAll_32 : decode cX3_layAll 32 = .ok (.bipush 7, 2) := by decide +kernel
theorem dX3_layAll_34 : decode cX3_layAll 34 = .ok (.imul, 1) := by decide +kernel
theorem dX3_layAll_35 : decode cX3_layAll 35 = .ok (.iload_n 2, 1) := by decide +kernel
theorem dX3_layAll_36 : decode cX3_layAll 36 = .ok (.iadd, 1) := by decide +kernel
theorem dX3_layAll_37 : decode cX3_layAll 37 = .ok (.aload_n 0, 1) := by decide +kernel
theorem dX3_layAll_38 : decode cX3_layAll 38 = .ok (.getfield 46, 3) := by decide +kernel
theorem dX3_layAll_41 : decode cX3_layAll 41 = .ok (.aload_n 0, 1) := by decide +kernel
theorem dX3_layAll_42 : decode cX3_layAll 42 = .ok (.getfield 55, 3) := by decide +kernel
theorem dX3_layAll_45 : decode cX3_layAll 45 = .ok (.iload_n 2, 1) := by decide +kernel
theorem dX3_layAll_46 : decode cX3_layAll 46 = .ok (.iload_n 3, 1) := by decide +kernel
theorem dX3_layAll_47 : decode cX3_layAll 47 = .ok (.invokevirtual 90, 3) := by decide +kernel
theorem dX3_layAll_50 : decode cX3_layAll 50 = .ok (.iaload, 1) := by decide +kernel
theorem dX3_layAll_51 : decode cX3_layAll 51 = .ok (.iastore, 1) := by decide +kernel
theorem dX3_layAll_52 : decode cX3_layAll 52 = .ok (.iinc 3 1, 3) := by decide +kernel
theorem dX3_layAll_55 : decode cX3_layAll 55 = .ok (.goto (-34), 3) := by decide +kernel
theorem dX3_layAll_58 : decode cX3_layAll 58 = .ok (.iinc 2 1, 3) := by decide +kernel
theorem dX3_layAll_61 : decode cX3_layAll 61 = .ok (.goto (-59), 3) := by decide +kernel
theorem dX3_layAll_64 : decode cX3_layAll 64 = .ok (.return_, 1) := by decide +kernel
theorem dX3_layFar_0 : decode cX3_layFar 0 = .ok (.iconst 0, 1) := by decide +kernel
theorem dX3_layFar_1 : decode cX3_layFar 1 = .ok (.istore_n 3, 1) := by decide +kernel
theorem dX3_layFar_2 : decode cX3_layFar 2 = .ok (.iload_n 3, 1) := by decide +kernel
theorem dX3_layFar_3 : decode cX3_layFar 3 = .ok (.bipush 14, 2) := by decide +kernel
theorem dX3_layFar_5 : decode cX3_layFar 5 = .ok (.if_icmp .gt 22, 3) := by decide +kernel
theorem dX3_layFar_8 : decode cX3_layFar 8 = .ok (.aload_n 0, 1) := by decide +kernel
theorem dX3_layFar_9 : decode cX3_layFar 9 = .ok (.getfield 46, 3) := by decide +kernel
theorem dX3_layFar_12 : decode cX3_layFar 12 = .ok (.iload_n 3, 1) := by decide +kernel
theorem dX3_layFar_13 : decode cX3_layFar 13 = .ok (.aload_n 0, 1) := by decide +kernel
theorem dX3_layFar_14 : decode cX3_layFar 14 = .ok (.iload_n 1, 1) := by decide +kernel
theorem dX3_layFar_15 : decode cX3_layFar 15 = .ok (.iload_n 3, 1) := by decide +kernel
theorem dX3_layFar_16 : decode cX3_layFar 16 = .ok (.iload_n 2, 1) := by decide +kernel
theorem dX3_layFar_17 : decode cX3_layFar 17 = .ok (.invokevirtual 93, 3) := by decide +kernel
theorem dX3_layFar_20 : decode cX3_layFar 20 = .ok (.iastore, 1) := by decide +kernel
theorem dX3_layFar_21 : decode cX3_layFar 21 = .ok (.iinc 3 1, 3) := by decide +kernel
theorem dX3_layFar_24 : decode cX3_layFar 24 = .ok (.goto (-22), 3) := by decide +kernel
theorem dX3_layFar_27 : decode cX3_layFar 27 = .ok (.return_, 1) := by decide +kernel
theorem dX3_reaching_0 : decode cX3_reaching 0 = .ok (.iconst 0, 1) := by decide +kernel
theorem dX3_reaching_1 : decode cX3_reaching 1 = .ok (.istore 4, 2) := by decide +kernel
theorem dX3_reaching_3 : decode cX3_reaching 3 = .ok (.iconst 0, 1) := by decide +kernel
theorem dX3_reaching_4 : decode cX3_reaching 4 = .ok (.istore 5, 2) := by decide +kernel
theorem dX3_reaching_6 : decode cX3_reaching 6 = .ok (.iload 5, 2) := by decide +kernel
theorem dX3_reaching_8 : decode cX3_reaching 8 = .ok (.aload_n 0, 1) := by decide +kernel
theorem dX3_reaching_9 : decode cX3_reaching 9 = .ok (.getfield 55, 3) := by decide +kernel
theorem dX3_reaching_12 : decode cX3_reaching 12 = .ok (.getfield 87, 3) := by decide +kernel
theorem dX3_reaching_15 : decode cX3_reaching 15 = .ok (.if_icmp .ge 39, 3) := by decide +kernel
theorem dX3_reaching_18 : decode cX3_reaching 18 = .ok (.aload_n 0, 1) := by decide +kernel
theorem dX3_reaching_19 : decode cX3_reaching 19 = .ok (.iload 5, 2) := by decide +kernel
theorem dX3_reaching_21 : decode cX3_reaching 21 = .ok (.aload_n 0, 1) := by decide +kernel
theorem dX3_reaching_22 : decode cX3_reaching 22 = .ok (.getfield 55, 3) := by decide +kernel
theorem dX3_reaching_25 : decode cX3_reaching 25 = .ok (.iload 5, 2) := by decide +kernel
theorem dX3_reaching_27 : decode cX3_reaching 27 = .ok (.iload_n 1, 1) := by decide +kernel
theorem dX3_reaching_28 : decode cX3_reaching 28 = .ok (.invokevirtual 90, 3) := by decide +kernel
theorem dX3_reaching_31 : decode cX3_reaching 31 = .ok (.iload_n 2, 1) := by decide +kernel
theorem dX3_reaching_32 : decode cX3_reaching 32 = .ok (.invokevirtual 93, 3) := by decide +kernel
theorem dX3_reaching_35 : decode cX3_reaching 35 = .ok (.iload_n 3, 1) := by decide +kernel
theorem dX3_reaching_36 : decode cX3_reaching 36 = .ok (.if_icmp .lt 12, 3) := by decide +kernel
theorem dX3_reaching_39 : decode cX3_reaching 39 = .ok (.iload 4, 2) := by decide +kernel
theorem dX3_reaching_41 : decode cX3_reaching 41 = .ok (.iconst 1, 1) := by decide +kernel
theorem dX3_reaching_42 : decode cX3_reaching 42 = .ok (.iload 5, 2) := by decide +kernel
theorem dX3_reaching_44 : decode cX3_reaching 44 = .ok (.ishl, 1) := by decide +kernel
theorem dX3_reaching_45 : decode cX3_reaching 45 = .ok (.ior, 1) := by decide +kernel
theorem dX3_reaching_46 : decode cX3_reaching 46 = .ok (.istore 4, 2) := by decide +kernel
theorem dX3_reaching_48 : decode cX3_reaching 48 = .ok (.iinc 5 1, 3) := by decide +kernel
theorem dX3_reaching_51 : decode cX3_reaching 51 = .ok (.goto (-45), 3) := by decide +kernel
theorem dX3_reaching_54 : decode cX3_reaching 54 = .ok (.iload 4, 2) := by decide +kernel
theorem dX3_reaching_56 : decode cX3_reaching 56 = .ok (.ireturn, 1) := by decide +kernel
theorem dX3_strongest_0 : decode cX3_strongest 0 = .ok (.iconst 0, 1) := by decide +kernel
theorem dX3_strongest_1 : decode cX3_strongest 1 = .ok (.istore_n 3, 1) := by decide +kernel
theorem dX3_strongest_2 : decode cX3_strongest 2 = .ok (.iconst 0, 1) := by decide +kernel
theorem dX3_strongest_3 : decode cX3_strongest 3 = .ok (.istore 4, 2) := by decide +kernel
theorem dX3_strongest_5 : decode cX3_strongest 5 = .ok (.iload 4, 2) := by decide +kernel
theorem dX3_strongest_7 : decode cX3_strongest 7 = .ok (.aload_n 0, 1) := by decide +kernel
theorem dX3_strongest_8 : decode cX3_strongest 8 = .ok (.getfield 55, 3) := by decide +kernel
theorem dX3_strongest_11 : decode cX3_strongest 11 = .ok (.getfield 87, 3) := by decide +kernel
theorem dX3_strongest_14 : decode cX3_strongest 14 = .ok (.if_icmp .ge 36, 3) := by decide +kernel
theorem dX3_strongest_17 : decode cX3_strongest 17 = .ok (.iload_n 2, 1) := by decide +kernel
theorem dX3_strongest_18 : decode cX3_strongest 18 = .ok (.iload 4, 2) := by decide +kernel
theorem dX3_strongest_20 : decode cX3_strongest 20 = .ok (.ishr, 1) := by decide +kernel
theorem dX3_strongest_21 : decode cX3_strongest 21 = .ok (.iconst 1, 1) := by decide +kernel
theorem dX3_strongest_22 : decode cX3_strongest 22 = .ok (.iand, 1) := by decide +kernel
theorem dX3_strongest_23 : decode cX3_strongest 23 = .ok (.iconst 1, 1) := by decide +kernel
theorem dX3_strongest_24 : decode cX3_strongest 24 = .ok (.if_icmp .ne 20, 3) := by decide +kernel
theorem dX3_strongest_27 : decode cX3_strongest 27 = .ok (.iload_n 3, 1) := by decide +kernel
theorem dX3_strongest_28 : decode cX3_strongest 28 = .ok (.aload_n 0, 1) := by decide +kernel
theorem dX3_strongest_29 : decode cX3_strongest 29 = .ok (.getfield 33, 3) := by decide +kernel
theorem dX3_strongest_32 : decode cX3_strongest 32 = .ok (.iload_n 1, 1) := by decide +kernel
theorem dX3_strongest_33 : decode cX3_strongest 33 = .ok (.bipush 7, 2) := by decide +kernel
theorem dX3_strongest_35 : decode cX3_strongest 35 = .ok (.imul, 1) := by decide +kernel
theorem dX3_strongest_36 : decode cX3_strongest 36 = .ok (.iload 4, 2) := by decide +kernel
theorem dX3_strongest_38 : decode cX3_strongest 38 = .ok (.iadd, 1) := by decide +kernel
theorem dX3_strongest_39 : decode cX3_strongest 39 = .ok (.iaload, 1) := by decide +kernel
theorem dX3_strongest_40 : decode cX3_strongest 40 = .ok (.invokestatic 82, 3) := by decide +kernel
theorem dX3_strongest_43 : decode cX3_strongest 43 = .ok (.istore_n 3, 1) := by decide +kernel
theorem dX3_strongest_44 : decode cX3_strongest 44 = .ok (.iinc 4 1, 3) := by decide +kernel
theorem dX3_strongest_47 : decode cX3_strongest 47 = .ok (.goto (-42), 3) := by decide +kernel
theorem dX3_strongest_50 : decode cX3_strongest 50 = .ok (.iload_n 3, 1) := by decide +kernel
theorem dX3_strongest_51 : decode cX3_strongest 51 = .ok (.ireturn, 1) := by decide +kernel
theorem dX3_holder_0 : decode cX3_holder 0 = .ok (.iconst 0, 1) := by decide +kernel
theorem dX3_holder_1 : decode cX3_holder 1 = .ok (.istore 4, 2) := by decide +kernel
theorem dX3_holder_3 : decode cX3_holder 3 = .ok (.iconst (-1), 1) := by decide +kernel
theorem dX3_holder_4 : decode cX3_holder 4 = .ok (.istore 5, 2) := by decide +kernel
theorem dX3_holder_6 : decode cX3_holder 6 = .ok (.iconst 0, 1) := by decide +kernel
theorem dX3_holder_7 : decode cX3_holder 7 = .ok (.istore 6, 2) := by decide +kernel
theorem dX3_holder_9 : decode cX3_holder 9 = .ok (.iload 6, 2) := by decide +kernel
theorem dX3_holder_11 : decode cX3_holder 11 = .ok (.aload_n 0, 1) := by decide +kernel
theorem dX3_holder_12 : decode cX3_holder 12 = .ok (.getfield 55, 3) := by decide +kernel
theorem dX3_holder_15 : decode cX3_holder 15 = .ok (.getfield 87, 3) := by decide +kernel
theorem dX3_holder_18 : decode cX3_holder 18 = .ok (.if_icmp .ge 89, 3) := by decide +kernel
theorem dX3_holder_21 : decode cX3_holder 21 = .ok (.iload 6, 2) := by decide +kernel
theorem dX3_holder_23 : decode cX3_holder 23 = .ok (.aload_n 3, 1) := by decide +kernel
theorem dX3_holder_24 : decode cX3_holder 24 = .ok (.arraylength, 1) := by decide +kernel
theorem dX3_holder_25 : decode cX3_holder 25 = .ok (.if_icmp .ge 82, 3) := by decide +kernel
theorem dX3_holder_28 : decode cX3_holder 28 = .ok (.iload_n 2, 1) := by decide +kernel
theorem dX3_holder_29 : decode cX3_holder 29 = .ok (.iload 6, 2) := by decide +kernel
theorem dX3_holder_31 : decode cX3_holder 31 = .ok (.ishr, 1) := by decide +kernel
theorem dX3_holder_32 : decode cX3_holder 32 = .ok (.iconst 1, 1) := by decide +kernel
theorem dX3_holder_33 : decode cX3_holder 33 = .ok (.iand, 1) := by decide +kernel
theorem dX3_holder_34 : decode cX3_holder 34 = .ok (.iconst 1, 1) := by decide +kernel
theorem dX3_holder_35 : decode cX3_holder 35 = .ok (.if_icmp .ne 18, 3) := by decide +kernel
theorem dX3_holder_38 : decode cX3_holder 38 = .ok (.aload_n 0, 1) := by decide +kernel
theorem dX3_holder_39 : decode cX3_holder 39 = .ok (.getfield 33, 3) := by decide +kernel
theorem dX3_holder_42 : decode cX3_holder 42 = .ok (.iload_n 1, 1) := by decide +kernel
theorem dX3_holder_43 : decode cX3_holder 43 = .ok (.bipush 7, 2) := by decide +kernel
theorem dX3_holder_45 : decode cX3_holder 45 = .ok (.imul, 1) := by decide +kernel
theorem dX3_holder_46 : decode cX3_holder 46 = .ok (.iload 6, 2) := by decide +kernel
theorem dX3_holder_48 : decode cX3_holder 48 = .ok (.iadd, 1) := by decide +kernel
theorem dX3_holder_49 : decode cX3_holder 49 = .ok (.iaload, 1) := by decide +kernel
theorem dX3_holder_50 : decode cX3_holder 50 = .ok (.goto 4, 3) := by decide +kernel
theorem dX3_holder_53 : decode cX3_holder 53 = .ok (.iconst 0, 1) := by decide +kernel
theorem dX3_holder_54 : decode cX3_holder 54 = .ok (.istore 7, 2) := by decide +kernel
theorem dX3_holder_56 : decode cX3_holder 56 = .ok (.iload 7, 2) := by decide +kernel
theorem dX3_holder_58 : decode cX3_holder 58 = .ok (.iload 4, 2) := by decide +kernel
theorem dX3_holder_60 : decode cX3_holder 60 = .ok (.if_icmp .le 16, 3) := by decide +kernel
theorem dX3_holder_63 : decode cX3_holder 63 = .ok (.iload 7, 2) := by decide +kernel
theorem dX3_holder_65 : decode cX3_holder 65 = .ok (.istore 4, 2) := by decide +kernel
theorem dX3_holder_67 : decode cX3_holder 67 = .ok (.aload_n 3, 1) := by decide +kernel
theorem dX3_holder_68 : decode cX3_holder 68 = .ok (.iload 6, 2) := by decide +kernel
theorem dX3_holder_70 : decode cX3_holder 70 = .ok (.iaload, 1) := by decide +kernel
theorem dX3_holder_71 : decode cX3_holder 71 = .ok (.istore 5, 2) := by decide +kernel
theorem dX3_holder_73 : decode cX3_holder 73 = .ok (.goto 28, 3) := by decide +kernel
theorem dX3_holder_76 : decode cX3_holder 76 = .ok (.iload 7, 2) := by decide +kernel
theorem dX3_holder_78 : decode cX3_holder 78 = .ok (.ifCond .le 23, 3) := by decide +kernel
theorem dX3_holder_81 : decode cX3_holder 81 = .ok (.iload 7, 2) := by decide +kernel
theorem dX3_holder_83 : decode cX3_holder 83 = .ok (.iload 4, 2) := by decide +kernel
theorem dX3_holder_85 : decode cX3_holder 85 = .ok (.if_icmp .ne 16, 3) := by decide +kernel
theorem dX3_holder_88 : decode cX3_holder 88 = .ok (.aload_n 3, 1) := by decide +kernel
theorem dX3_holder_89 : decode cX3_holder 89 = .ok (.iload 6, 2) := by decide +kernel
theorem dX3_holder_91 : decode cX3_holder 91 = .ok (.iaload, 1) := by decide +kernel
theorem dX3_holder_92 : decode cX3_holder 92 = .ok (.iload 5, 2) := by decide +kernel
theorem dX3_holder_94 : decode cX3_holder 94 = .ok (.if_icmp .eq 7, 3) := by decide +kernel
theorem dX3_holder_97 : decode cX3_holder 97 = .ok (.bipush (-2), 2) := by decide +kernel
theorem dX3_holder_99 : decode cX3_holder 99 = .ok (.istore 5, 2) := by decide +kernel
theorem dX3_holder_101 : decode cX3_holder 101 = .ok (.iinc 6 1, 3) := by decide +kernel
theorem dX3_holder_104 : decode cX3_holder 104 = .ok (.goto (-95), 3) := by decide +kernel
theorem dX3_holder_107 : decode cX3_holder 107 = .ok (.iload 5, 2) := by decide +kernel
theorem dX3_holder_109 : decode cX3_holder 109 = .ok (.ireturn, 1) := by decide +kernel
theorem dX3_pick_0 : decode cX3_pick 0 = .ok (.iconst 0, 1) := by decide +kernel
theorem dX3_pick_1 : decode cX3_pick 1 = .ok (.istore_n 3, 1) := by decide +kernel
theorem dX3_pick_2 : decode cX3_pick 2 = .ok (.iconst 0, 1) := by decide +kernel
theorem dX3_pick_3 : decode cX3_pick 3 = .ok (.istore 4, 2) := by decide +kernel
theorem dX3_pick_5 : decode cX3_pick 5 = .ok (.iload 4, 2) := by decide +kernel
theorem dX3_pick_7 : decode cX3_pick 7 = .ok (.bipush 64, 2) := by decide +kernel
theorem dX3_pick_9 : decode cX3_pick 9 = .ok (.if_icmp .ge 44, 3) := by decide +kernel
theorem dX3_pick_12 : decode cX3_pick 12 = .ok (.aload_n 0, 1) := by decide +kernel
theorem dX3_pick_13 : decode cX3_pick 13 = .ok (.iload 4, 2) := by decide +kernel
theorem dX3_pick_15 : decode cX3_pick 15 = .ok (.aload_n 0, 1) := by decide +kernel
theorem dX3_pick_16 : decode cX3_pick 16 = .ok (.getfield 55, 3) := by decide +kernel
theorem dX3_pick_19 : decode cX3_pick 19 = .ok (.getfield 101, 3) := by decide +kernel
theorem dX3_pick_22 : decode cX3_pick 22 = .ok (.aload_n 0, 1) := by decide +kernel
theorem dX3_pick_23 : decode cX3_pick 23 = .ok (.getfield 55, 3) := by decide +kernel
theorem dX3_pick_26 : decode cX3_pick 26 = .ok (.getfield 104, 3) := by decide +kernel
theorem dX3_pick_29 : decode cX3_pick 29 = .ok (.invokevirtual 107, 3) := by decide +kernel
theorem dX3_pick_32 : decode cX3_pick 32 = .ok (.iload_n 1, 1) := by decide +kernel
theorem dX3_pick_33 : decode cX3_pick 33 = .ok (.if_icmp .ne 14, 3) := by decide +kernel
theorem dX3_pick_36 : decode cX3_pick 36 = .ok (.iload_n 3, 1) := by decide +kernel
theorem dX3_pick_37 : decode cX3_pick 37 = .ok (.iload_n 2, 1) := by decide +kernel
theorem dX3_pick_38 : decode cX3_pick 38 = .ok (.if_icmp .ne 6, 3) := by decide +kernel
theorem dX3_pick_41 : decode cX3_pick 41 = .ok (.iload 4, 2) := by decide +kernel
theorem dX3_pick_43 : decode cX3_pick 43 = .ok (.ireturn, 1) := by decide +kernel
theorem dX3_pick_44 : decode cX3_pick 44 = .ok (.iinc 3 1, 3) := by decide +kernel
theorem dX3_pick_47 : decode cX3_pick 47 = .ok (.iinc 4 1, 3) := by decide +kernel
theorem dX3_pick_50 : decode cX3_pick 50 = .ok (.goto (-45), 3) := by decide +kernel
theorem dX3_pick_53 : decode cX3_pick 53 = .ok (.iload_n 2, 1) := by decide +kernel
theorem dX3_pick_54 : decode cX3_pick 54 = .ok (.iconst (-1), 1) := by decide +kernel
theorem dX3_pick_55 : decode cX3_pick 55 = .ok (.if_icmp .ne 7, 3) := by decide +kernel
theorem dX3_pick_58 : decode cX3_pick 58 = .ok (.iload_n 3, 1) := by decide +kernel
theorem dX3_pick_59 : decode cX3_pick 59 = .ok (.goto 5, 3) := by decide +kernel
theorem dX3_pick_62 : decode cX3_pick 62 = .ok (.bipush (-5), 2) := by decide +kernel
theorem dX3_pick_64 : decode cX3_pick 64 = .ok (.ireturn, 1) := by decide +kernel
theorem dX3_acresOf_0 : decode cX3_acresOf 0 = .ok (.iconst 0, 1) := by decide +kernel
theorem dX3_acresOf_1 : decode cX3_acresOf 1 = .ok (.istore 4, 2) := by decide +kernel
theorem dX3_acresOf_3 : decode cX3_acresOf 3 = .ok (.iconst 0, 1) := by decide +kernel
theorem dX3_acresOf_4 : decode cX3_acresOf 4 = .ok (.istore 5, 2) := by decide +kernel
theorem dX3_acresOf_6 : decode cX3_acresOf 6 = .ok (.iload 5, 2) := by decide +kernel
theorem dX3_acresOf_8 : decode cX3_acresOf 8 = .ok (.bipush 64, 2) := by decide +kernel
theorem dX3_acresOf_10 : decode cX3_acresOf 10 = .ok (.if_icmp .ge 24, 3) := by decide +kernel
theorem dX3_acresOf_13 : decode cX3_acresOf 13 = .ok (.aload_n 0, 1) := by decide +kernel
theorem dX3_acresOf_14 : decode cX3_acresOf 14 = .ok (.iload 5, 2) := by decide +kernel
theorem dX3_acresOf_16 : decode cX3_acresOf 16 = .ok (.iload_n 2, 1) := by decide +kernel
theorem dX3_acresOf_17 : decode cX3_acresOf 17 = .ok (.aload_n 3, 1) := by decide +kernel
theorem dX3_acresOf_18 : decode cX3_acresOf 18 = .ok (.invokevirtual 107, 3) := by decide +kernel
theorem dX3_acresOf_21 : decode cX3_acresOf 21 = .ok (.iload_n 1, 1) := by decide +kernel
theorem dX3_acresOf_22 : decode cX3_acresOf 22 = .ok (.if_icmp .ne 6, 3) := by decide +kernel
theorem dX3_acresOf_25 : decode cX3_acresOf 25 = .ok (.iinc 4 1, 3) := by decide +kernel
theorem dX3_acresOf_28 : decode cX3_acresOf 28 = .ok (.iinc 5 1, 3) := by decide +kernel
theorem dX3_acresOf_31 : decode cX3_acresOf 31 = .ok (.goto (-25), 3) := by decide +kernel
theorem dX3_acresOf_34 : decode cX3_acresOf 34 = .ok (.iload 4, 2) := by decide +kernel
theorem dX3_acresOf_36 : decode cX3_acresOf 36 = .ok (.ireturn, 1) := by decide +kernel
theorem dX3_gainByWedding_0 : decode cX3_gainByWedding 0 = .ok (.iconst 0, 1) := by decide +kernel
theorem dX3_gainByWedding_1 : decode cX3_gainByWedding 1 = .ok (.istore_n 3, 1) := by decide +kernel
theorem dX3_gainByWedding_2 : decode cX3_gainByWedding 2 = .ok (.iload_n 3, 1) := by decide +kernel
theorem dX3_gainByWedding_3 : decode cX3_gainByWedding 3 = .ok (.bipush 7, 2) := by decide +kernel
theorem dX3_gainByWedding_5 : decode cX3_gainByWedding 5 = .ok (.if_icmp .ge 41, 3) := by decide +kernel
theorem dX3_gainByWedding_8 : decode cX3_gainByWedding 8 = .ok (.aload_n 0, 1) := by decide +kernel
theorem dX3_gainByWedding_9 : decode cX3_gainByWedding 9 = .ok (.getfield 37, 3) := by decide +kernel
theorem dX3_gainByWedding_12 : decode cX3_gainByWedding 12 = .ok (.iload_n 3, 1) := by decide +kernel
theorem dX3_gainByWedding_13 : decode cX3_gainByWedding 13 = .ok (.aload_n 0, 1) := by decide +kernel
theorem dX3_gainByWedding_14 : decode cX3_gainByWedding 14 = .ok (.getfield 55, 3) := by decide +kernel
theorem dX3_gainByWedding_17 : decode cX3_gainByWedding 17 = .ok (.getfield 104, 3) := by decide +kernel
theorem dX3_gainByWedding_20 : decode cX3_gainByWedding 20 = .ok (.iload_n 3, 1) := by decide +kernel
theorem dX3_gainByWedding_21 : decode cX3_gainByWedding 21 = .ok (.iaload, 1) := by decide +kernel
theorem dX3_gainByWedding_22 : decode cX3_gainByWedding 22 = .ok (.iload_n 2, 1) := by decide +kernel
theorem dX3_gainByWedding_23 : decode cX3_gainByWedding 23 = .ok (.if_icmp .ne 7, 3) := by decide +kernel
theorem dX3_gainByWedding_26 : decode cX3_gainByWedding 26 = .ok (.iload_n 1, 1) := by decide +kernel
theorem dX3_gainByWedding_27 : decode cX3_gainByWedding 27 = .ok (.goto 12, 3) := by decide +kernel
theorem dX3_gainByWedding_30 : decode cX3_gainByWedding 30 = .ok (.aload_n 0, 1) := by decide +kernel
theorem dX3_gainByWedding_31 : decode cX3_gainByWedding 31 = .ok (.getfield 55, 3) := by decide +kernel
theorem dX3_gainByWedding_34 : decode cX3_gainByWedding 34 = .ok (.getfield 104, 3) := by decide +kernel
theorem dX3_gainByWedding_37 : decode cX3_gainByWedding 37 = .ok (.iload_n 3, 1) := by decide +kernel
theorem dX3_gainByWedding_38 : decode cX3_gainByWedding 38 = .ok (.iaload, 1) := by decide +kernel
theorem dX3_gainByWedding_39 : decode cX3_gainByWedding 39 = .ok (.iastore, 1) := by decide +kernel
theorem dX3_gainByWedding_40 : decode cX3_gainByWedding 40 = .ok (.iinc 3 1, 3) := by decide +kernel
theorem dX3_gainByWedding_43 : decode cX3_gainByWedding 43 = .ok (.goto (-41), 3) := by decide +kernel
theorem dX3_gainByWedding_46 : decode cX3_gainByWedding 46 = .ok (.aload_n 0, 1) := by decide +kernel
theorem dX3_gainByWedding_47 : decode cX3_gainByWedding 47 = .ok (.iload_n 1, 1) := by decide +kernel
theorem dX3_gainByWedding_48 : decode cX3_gainByWedding 48 = .ok (.aload_n 0, 1) := by decide +kernel
theorem dX3_gainByWedding_49 : decode cX3_gainByWedding 49 = .ok (.getfield 55, 3) := by decide +kernel
theorem dX3_gainByWedding_52 : decode cX3_gainByWedding 52 = .ok (.getfield 101, 3) := by decide +kernel
theorem dX3_gainByWedding_55 : decode cX3_gainByWedding 55 = .ok (.aload_n 0, 1) := by decide +kernel
theorem dX3_gainByWedding_56 : decode cX3_gainByWedding 56 = .ok (.getfield 55, 3) := by decide +kernel
theorem dX3_gainByWedding_59 : decode cX3_gainByWedding 59 = .ok (.getfield 104, 3) := by decide +kernel
theorem dX3_gainByWedding_62 : decode cX3_gainByWedding 62 = .ok (.invokevirtual 111, 3) := by decide +kernel
theorem dX3_gainByWedding_65 : decode cX3_gainByWedding 65 = .ok (.aload_n 0, 1) := by decide +kernel
theorem dX3_gainByWedding_66 : decode cX3_gainByWedding 66 = .ok (.iload_n 2, 1) := by decide +kernel
theorem dX3_gainByWedding_67 : decode cX3_gainByWedding 67 = .ok (.aload_n 0, 1) := by decide +kernel
theorem dX3_gainByWedding_68 : decode cX3_gainByWedding 68 = .ok (.getfield 55, 3) := by decide +kernel
theorem dX3_gainByWedding_71 : decode cX3_gainByWedding 71 = .ok (.getfield 101, 3) := by decide +kernel
theorem dX3_gainByWedding_74 : decode cX3_gainByWedding 74 = .ok (.aload_n 0, 1) := by decide +kernel
theorem dX3_gainByWedding_75 : decode cX3_gainByWedding 75 = .ok (.getfield 55, 3) := by decide +kernel
theorem dX3_gainByWedding_78 : decode cX3_gainByWedding 78 = .ok (.getfield 104, 3) := by decide +kernel
theorem dX3_gainByWedding_81 : decode cX3_gainByWedding 81 = .ok (.invokevirtual 111, 3) := by decide +kernel
theorem dX3_gainByWedding_84 : decode cX3_gainByWedding 84 = .ok (.iadd, 1) := by decide +kernel
theorem dX3_gainByWedding_85 : decode cX3_gainByWedding 85 = .ok (.istore_n 3, 1) := by decide +kernel
theorem dX3_gainByWedding_86 : decode cX3_gainByWedding 86 = .ok (.aload_n 0, 1) := by decide +kernel
theorem dX3_gainByWedding_87 : decode cX3_gainByWedding 87 = .ok (.iload_n 1, 1) := by decide +kernel
theorem dX3_gainByWedding_88 : decode cX3_gainByWedding 88 = .ok (.aload_n 0, 1) := by decide +kernel
theorem dX3_gainByWedding_89 : decode cX3_gainByWedding 89 = .ok (.getfield 55, 3) := by decide +kernel
theorem dX3_gainByWedding_92 : decode cX3_gainByWedding 92 = .ok (.getfield 101, 3) := by decide +kernel
theorem dX3_gainByWedding_95 : decode cX3_gainByWedding 95 = .ok (.aload_n 0, 1) := by decide +kernel
theorem dX3_gainByWedding_96 : decode cX3_gainByWedding 96 = .ok (.getfield 37, 3) := by decide +kernel
theorem dX3_gainByWedding_99 : decode cX3_gainByWedding 99 = .ok (.invokevirtual 111, 3) := by decide +kernel
theorem dX3_gainByWedding_102 : decode cX3_gainByWedding 102 = .ok (.iload_n 3, 1) := by decide +kernel
theorem dX3_gainByWedding_103 : decode cX3_gainByWedding 103 = .ok (.isub, 1) := by decide +kernel
theorem dX3_gainByWedding_104 : decode cX3_gainByWedding 104 = .ok (.ireturn, 1) := by decide +kernel
theorem dX3_candlesOf_0 : decode cX3_candlesOf 0 = .ok (.iconst 0, 1) := by decide +kernel
theorem dX3_candlesOf_1 : decode cX3_candlesOf 1 = .ok (.istore_n 2, 1) := by decide +kernel
theorem dX3_candlesOf_2 : decode cX3_candlesOf 2 = .ok (.iconst 0, 1) := by decide +kernel
theorem dX3_candlesOf_3 : decode cX3_candlesOf 3 = .ok (.istore_n 3, 1) := by decide +kernel
theorem dX3_candlesOf_4 : decode cX3_candlesOf 4 = .ok (.iload_n 3, 1) := by decide +kernel
theorem dX3_candlesOf_5 : decode cX3_candlesOf 5 = .ok (.aload_n 0, 1) := by decide +kernel
theorem dX3_candlesOf_6 : decode cX3_candlesOf 6 = .ok (.getfield 55, 3) := by decide +kernel
theorem dX3_candlesOf_9 : decode cX3_candlesOf 9 = .ok (.getfield 87, 3) := by decide +kernel
theorem dX3_candlesOf_12 : decode cX3_candlesOf 12 = .ok (.if_icmp .ge 28, 3) := by decide +kernel
theorem dX3_candlesOf_15 : decode cX3_candlesOf 15 = .ok (.aload_n 0, 1) := by decide +kernel
theorem dX3_candlesOf_16 : decode cX3_candlesOf 16 = .ok (.getfield 55, 3) := by decide +kernel
theorem dX3_candlesOf_19 : decode cX3_candlesOf 19 = .ok (.getfield 104, 3) := by decide +kernel
theorem dX3_candlesOf_22 : decode cX3_candlesOf 22 = .ok (.iload_n 3, 1) := by decide +kernel
theorem dX3_candlesOf_23 : decode cX3_candlesOf 23 = .ok (.iaload, 1) := by decide +kernel
theorem dX3_candlesOf_24 : decode cX3_candlesOf 24 = .ok (.iload_n 1, 1) := by decide +kernel
theorem dX3_candlesOf_25 : decode cX3_candlesOf 25 = .ok (.if_icmp .ne 9, 3) := by decide +kernel
theorem dX3_candlesOf_28 : decode cX3_candlesOf 28 = .ok (.iload_n 2, 1) := by decide +kernel
theorem dX3_candlesOf_29 : decode cX3_candlesOf 29 = .ok (.iconst 1, 1) := by decide +kernel
theorem dX3_candlesOf_30 : decode cX3_candlesOf 30 = .ok (.iload_n 3, 1) := by decide +kernel
theorem dX3_candlesOf_31 : decode cX3_candlesOf 31 = .ok (.ishl, 1) := by decide +kernel
theorem dX3_candlesOf_32 : decode cX3_candlesOf 32 = .ok (.ior, 1) := by decide +kernel
theorem dX3_candlesOf_33 : decode cX3_candlesOf 33 = .ok (.istore_n 2, 1) := by decide +kernel
theorem dX3_candlesOf_34 : decode cX3_candlesOf 34 = .ok (.iinc 3 1, 3) := by decide +kernel
theorem dX3_candlesOf_37 : decode cX3_candlesOf 37 = .ok (.goto (-33), 3) := by decide +kernel
theorem dX3_candlesOf_40 : decode cX3_candlesOf 40 = .ok (.iload_n 2, 1) := by decide +kernel
theorem dX3_candlesOf_41 : decode cX3_candlesOf 41 = .ok (.ireturn, 1) := by decide +kernel
theorem dX3_resting_0 : decode cX3_resting 0 = .ok (.aload_n 0, 1) := by decide +kernel
theorem dX3_resting_1 : decode cX3_resting 1 = .ok (.iload_n 1, 1) := by decide +kernel
theorem dX3_resting_2 : decode cX3_resting 2 = .ok (.invokevirtual 114, 3) := by decide +kernel
theorem dX3_resting_5 : decode cX3_resting 5 = .ok (.istore 4, 2) := by decide +kernel
theorem dX3_resting_7 : decode cX3_resting 7 = .ok (.aload_n 0, 1) := by decide +kernel
theorem dX3_resting_8 : decode cX3_resting 8 = .ok (.iload_n 2, 1) := by decide +kernel
theorem dX3_resting_9 : decode cX3_resting 9 = .ok (.invokevirtual 114, 3) := by decide +kernel
theorem dX3_resting_12 : decode cX3_resting 12 = .ok (.istore 5, 2) := by decide +kernel
theorem dX3_resting_14 : decode cX3_resting 14 = .ok (.aload_n 0, 1) := by decide +kernel
theorem dX3_resting_15 : decode cX3_resting 15 = .ok (.getfield 55, 3) := by decide +kernel
theorem dX3_resting_18 : decode cX3_resting 18 = .ok (.getfield 101, 3) := by decide +kernel
theorem dX3_resting_21 : decode cX3_resting 21 = .ok (.iload 4, 2) := by decide +kernel
theorem dX3_resting_23 : decode cX3_resting 23 = .ok (.iconst (-1), 1) := by decide +kernel
theorem dX3_resting_24 : decode cX3_resting 24 = .ok (.ixor, 1) := by decide +kernel
theorem dX3_resting_25 : decode cX3_resting 25 = .ok (.iand, 1) := by decide +kernel
theorem dX3_resting_26 : decode cX3_resting 26 = .ok (.iload 5, 2) := by decide +kernel
theorem dX3_resting_28 : decode cX3_resting 28 = .ok (.iconst (-1), 1) := by decide +kernel
theorem dX3_resting_29 : decode cX3_resting 29 = .ok (.ixor, 1) := by decide +kernel
theorem dX3_resting_30 : decode cX3_resting 30 = .ok (.iand, 1) := by decide +kernel
theorem dX3_resting_31 : decode cX3_resting 31 = .ok (.istore 6, 2) := by decide +kernel
theorem dX3_resting_33 : decode cX3_resting 33 = .ok (.iconst 0, 1) := by decide +kernel
theorem dX3_resting_34 : decode cX3_resting 34 = .ok (.istore 7, 2) := by decide +kernel
theorem dX3_resting_36 : decode cX3_resting 36 = .ok (.iload 7, 2) := by decide +kernel
theorem dX3_resting_38 : decode cX3_resting 38 = .ok (.iconst 4, 1) := by decide +kernel
theorem dX3_resting_39 : decode cX3_resting 39 = .ok (.if_icmp .ge 113, 3) := by decide +kernel
theorem dX3_resting_42 : decode cX3_resting 42 = .ok (.iload 7, 2) := by decide +kernel
theorem dX3_resting_44 : decode cX3_resting 44 = .ok (.iconst 1, 1) := by decide +kernel
theorem dX3_resting_45 : decode cX3_resting 45 = .ok (.iand, 1) := by decide +kernel
theorem dX3_resting_46 : decode cX3_resting 46 = .ok (.ifCond .eq 8, 3) := by decide +kernel
theorem dX3_resting_49 : decode cX3_resting 49 = .ok (.iload 4, 2) := by decide +kernel
theorem dX3_resting_51 : decode cX3_resting 51 = .ok (.goto 4, 3) := by decide +kernel
theorem dX3_resting_54 : decode cX3_resting 54 = .ok (.iconst 0, 1) := by decide +kernel
theorem dX3_resting_55 : decode cX3_resting 55 = .ok (.istore 8, 2) := by decide +kernel
theorem dX3_resting_57 : decode cX3_resting 57 = .ok (.iload 7, 2) := by decide +kernel
theorem dX3_resting_59 : decode cX3_resting 59 = .ok (.iconst 2, 1) := by decide +kernel
theorem dX3_resting_60 : decode cX3_resting 60 = .ok (.iand, 1) := by decide +kernel
theorem dX3_resting_61 : decode cX3_resting 61 = .ok (.ifCond .eq 8, 3) := by decide +kernel
theorem dX3_resting_64 : decode cX3_resting 64 = .ok (.iload 5, 2) := by decide +kernel
theorem dX3_resting_66 : decode cX3_resting 66 = .ok (.goto 4, 3) := by decide +kernel
theorem dX3_resting_69 : decode cX3_resting 69 = .ok (.iconst 0, 1) := by decide +kernel
theorem dX3_resting_70 : decode cX3_resting 70 = .ok (.istore 9, 2) := by decide +kernel
theorem dX3_resting_72 : decode cX3_resting 72 = .ok (.iload 6, 2) := by decide +kernel
theorem dX3_resting_74 : decode cX3_resting 74 = .ok (.iload 8, 2) := by decide +kernel
theorem dX3_resting_76 : decode cX3_resting 76 = .ok (.ior, 1) := by decide +kernel
theorem dX3_resting_77 : decode cX3_resting 77 = .ok (.iload 9, 2) := by decide +kernel
theorem dX3_resting_79 : decode cX3_resting 79 = .ok (.ior, 1) := by decide +kernel
theorem dX3_resting_80 : decode cX3_resting 80 = .ok (.istore 10, 2) := by decide +kernel
theorem dX3_resting_82 : decode cX3_resting 82 = .ok (.aload_n 0, 1) := by decide +kernel
theorem dX3_resting_83 : decode cX3_resting 83 = .ok (.getfield 49, 3) := by decide +kernel
theorem dX3_resting_86 : decode cX3_resting 86 = .ok (.iload 7, 2) := by decide +kernel
theorem dX3_resting_88 : decode cX3_resting 88 = .ok (.aload_n 0, 1) := by decide +kernel
theorem dX3_resting_89 : decode cX3_resting 89 = .ok (.iload_n 1, 1) := by decide +kernel
theorem dX3_resting_90 : decode cX3_resting 90 = .ok (.iload 10, 2) := by decide +kernel
theorem dX3_resting_92 : decode cX3_resting 92 = .ok (.aload_n 0, 1) := by decide +kernel
theorem dX3_resting_93 : decode cX3_resting 93 = .ok (.getfield 55, 3) := by decide +kernel
theorem dX3_resting_96 : decode cX3_resting 96 = .ok (.getfield 104, 3) := by decide +kernel
theorem dX3_resting_99 : decode cX3_resting 99 = .ok (.invokevirtual 111, 3) := by decide +kernel
theorem dX3_resting_102 : decode cX3_resting 102 = .ok (.iload_n 3, 1) := by decide +kernel
theorem dX3_resting_103 : decode cX3_resting 103 = .ok (.iload 8, 2) := by decide +kernel
theorem dX3_resting_105 : decode cX3_resting 105 = .ok (.invokestatic 117, 3) := by decide +kernel
theorem dX3_resting_108 : decode cX3_resting 108 = .ok (.imul, 1) := by decide +kernel
theorem dX3_resting_109 : decode cX3_resting 109 = .ok (.bipush 10, 2) := by decide +kernel
theorem dX3_resting_111 : decode cX3_resting 111 = .ok (.idiv, 1) := by decide +kernel
theorem dX3_resting_112 : decode cX3_resting 112 = .ok (.isub, 1) := by decide +kernel
theorem dX3_resting_113 : decode cX3_resting 113 = .ok (.iastore, 1) := by decide +kernel
theorem dX3_resting_114 : decode cX3_resting 114 = .ok (.aload_n 0, 1) := by decide +kernel
theorem dX3_resting_115 : decode cX3_resting 115 = .ok (.getfield 52, 3) := by decide +kernel
theorem dX3_resting_118 : decode cX3_resting 118 = .ok (.iload 7, 2) := by decide +kernel
theorem dX3_resting_120 : decode cX3_resting 120 = .ok (.aload_n 0, 1) := by decide +kernel
theorem dX3_resting_121 : decode cX3_resting 121 = .ok (.iload_n 2, 1) := by decide +kernel
theorem dX3_resting_122 : decode cX3_resting 122 = .ok (.iload 10, 2) := by decide +kernel
theorem dX3_resting_124 : decode cX3_resting 124 = .ok (.aload_n 0, 1) := by decide +kernel
theorem dX3_resting_125 : decode cX3_resting 125 = .ok (.getfield 55, 3) := by decide +kernel
theorem dX3_resting_128 : decode cX3_resting 128 = .ok (.getfield 104, 3) := by decide +kernel
theorem dX3_resting_131 : decode cX3_resting 131 = .ok (.invokevirtual 111, 3) := by decide +kernel
theorem dX3_resting_134 : decode cX3_resting 134 = .ok (.iload_n 3, 1) := by decide +kernel
theorem dX3_resting_135 : decode cX3_resting 135 = .ok (.iload 9, 2) := by decide +kernel
theorem dX3_resting_137 : decode cX3_resting 137 = .ok (.invokestatic 117, 3) := by decide +kernel
theorem dX3_resting_140 : decode cX3_resting 140 = .ok (.imul, 1) := by decide +kernel
theorem dX3_resting_141 : decode cX3_resting 141 = .ok (.bipush 10, 2) := by decide +kernel
theorem dX3_resting_143 : decode cX3_resting 143 = .ok (.idiv, 1) := by decide +kernel
theorem dX3_resting_144 : decode cX3_resting 144 = .ok (.isub, 1) := by decide +kernel
theorem dX3_resting_145 : decode cX3_resting 145 = .ok (.iastore, 1) := by decide +kernel
theorem dX3_resting_146 : decode cX3_resting 146 = .ok (.iinc 7 1, 3) := by decide +kernel
theorem dX3_resting_149 : decode cX3_resting 149 = .ok (.goto (-113), 3) := by decide +kernel
theorem dX3_resting_152 : decode cX3_resting 152 = .ok (.iconst 0, 1) := by decide +kernel
theorem dX3_resting_153 : decode cX3_resting 153 = .ok (.istore 7, 2) := by decide +kernel
theorem dX3_resting_155 : decode cX3_resting 155 = .ok (.iconst 0, 1) := by decide +kernel
theorem dX3_resting_156 : decode cX3_resting 156 = .ok (.istore 8, 2) := by decide +kernel
theorem dX3_resting_158 : decode cX3_resting 158 = .ok (.iload 8, 2) := by decide +kernel
theorem dX3_resting_160 : decode cX3_resting 160 = .ok (.iconst 4, 1) := by decide +kernel
theorem dX3_resting_161 : decode cX3_resting 161 = .ok (.if_icmp .ge 56, 3) := by decide +kernel
theorem dX3_resting_164 : decode cX3_resting 164 = .ok (.aload_n 0, 1) := by decide +kernel
theorem dX3_resting_165 : decode cX3_resting 165 = .ok (.getfield 49, 3) := by decide +kernel
theorem dX3_resting_168 : decode cX3_resting 168 = .ok (.iload 8, 2) := by decide +kernel
theorem dX3_resting_170 : decode cX3_resting 170 = .ok (.iaload, 1) := by decide +kernel
theorem dX3_resting_171 : decode cX3_resting 171 = .ok (.aload_n 0, 1) := by decide +kernel
theorem dX3_resting_172 : decode cX3_resting 172 = .ok (.getfield 49, 3) := by decide +kernel
theorem dX3_resting_175 : decode cX3_resting 175 = .ok (.iload 8, 2) := by decide +kernel
theorem dX3_resting_177 : decode cX3_resting 177 = .ok (.iconst 1, 1) := by decide +kernel
theorem dX3_resting_178 : decode cX3_resting 178 = .ok (.ixor, 1) := by decide +kernel
theorem dX3_resting_179 : decode cX3_resting 179 = .ok (.iaload, 1) := by decide +kernel
theorem dX3_resting_180 : decode cX3_resting 180 = .ok (.if_icmp .lt 31, 3) := by decide +kernel
theorem dX3_resting_183 : decode cX3_resting 183 = .ok (.aload_n 0, 1) := by decide +kernel
theorem dX3_resting_184 : decode cX3_resting 184 = .ok (.getfield 52, 3) := by decide +kernel
theorem dX3_resting_187 : decode cX3_resting 187 = .ok (.iload 8, 2) := by decide +kernel
theorem dX3_resting_189 : decode cX3_resting 189 = .ok (.iaload, 1) := by decide +kernel
theorem dX3_resting_190 : decode cX3_resting 190 = .ok (.aload_n 0, 1) := by decide +kernel
theorem dX3_resting_191 : decode cX3_resting 191 = .ok (.getfield 52, 3) := by decide +kernel
theorem dX3_resting_194 : decode cX3_resting 194 = .ok (.iload 8, 2) := by decide +kernel
theorem dX3_resting_196 : decode cX3_resting 196 = .ok (.iconst 2, 1) := by decide +kernel
theorem dX3_resting_197 : decode cX3_resting 197 = .ok (.ixor, 1) := by decide +kernel
theorem dX3_resting_198 : decode cX3_resting 198 = .ok (.iaload, 1) := by decide +kernel
theorem dX3_resting_199 : decode cX3_resting 199 = .ok (.if_icmp .lt 12, 3) := by decide +kernel
theorem dX3_resting_202 : decode cX3_resting 202 = .ok (.iload 7, 2) := by decide +kernel
theorem dX3_resting_204 : decode cX3_resting 204 = .ok (.iconst 1, 1) := by decide +kernel
theorem dX3_resting_205 : decode cX3_resting 205 = .ok (.iload 8, 2) := by decide +kernel
theorem dX3_resting_207 : decode cX3_resting 207 = .ok (.ishl, 1) := by decide +kernel
theorem dX3_resting_208 : decode cX3_resting 208 = .ok (.ior, 1) := by decide +kernel
theorem dX3_resting_209 : decode cX3_resting 209 = .ok (.istore 7, 2) := by decide +kernel
theorem dX3_resting_211 : decode cX3_resting 211 = .ok (.iinc 8 1, 3) := by decide +kernel
theorem dX3_resting_214 : decode cX3_resting 214 = .ok (.goto (-56), 3) := by decide +kernel
theorem dX3_resting_217 : decode cX3_resting 217 = .ok (.iload 7, 2) := by decide +kernel
theorem dX3_resting_219 : decode cX3_resting 219 = .ok (.ireturn, 1) := by decide +kernel
theorem dX3_acresOfNights_0 : decode cX3_acresOfNights 0 = .ok (.iload_n 2, 1) := by decide +kernel
theorem dX3_acresOfNights_1 : decode cX3_acresOfNights 1 = .ok (.i2l, 1) := by decide +kernel
theorem dX3_acresOfNights_2 : decode cX3_acresOfNights 2 = .ok (.lstore 5, 2) := by decide +kernel
theorem dX3_acresOfNights_4 : decode cX3_acresOfNights 4 = .ok (.iconst 0, 1) := by decide +kernel
theorem dX3_acresOfNights_5 : decode cX3_acresOfNights 5 = .ok (.istore 7, 2) := by decide +kernel
theorem dX3_acresOfNights_7 : decode cX3_acresOfNights 7 = .ok (.iconst 0, 1) := by decide +kernel
theorem dX3_acresOfNights_8 : decode cX3_acresOfNights 8 = .ok (.istore 8, 2) := by decide +kernel
theorem dX3_acresOfNights_10 : decode cX3_acresOfNights 10 = .ok (.iload 8, 2) := by decide +kernel
theorem dX3_acresOfNights_12 : decode cX3_acresOfNights 12 = .ok (.iload_n 3, 1) := by decide +kernel
theorem dX3_acresOfNights_13 : decode cX3_acresOfNights 13 = .ok (.if_icmp .ge 94, 3) := by decide +kernel
theorem dX3_acresOfNights_16 : decode cX3_acresOfNights 16 = .ok (.iconst 0, 1) := by decide +kernel
theorem dX3_acresOfNights_17 : decode cX3_acresOfNights 17 = .ok (.istore 9, 2) := by decide +kernel
theorem dX3_acresOfNights_19 : decode cX3_acresOfNights 19 = .ok (.iconst 0, 1) := by decide +kernel
theorem dX3_acresOfNights_20 : decode cX3_acresOfNights 20 = .ok (.istore 10, 2) := by decide +kernel
theorem dX3_acresOfNights_22 : decode cX3_acresOfNights 22 = .ok (.iload 10, 2) := by decide +kernel
theorem dX3_acresOfNights_24 : decode cX3_acresOfNights 24 = .ok (.aload_n 0, 1) := by decide +kernel
theorem dX3_acresOfNights_25 : decode cX3_acresOfNights 25 = .ok (.getfield 55, 3) := by decide +kernel
theorem dX3_acresOfNights_28 : decode cX3_acresOfNights 28 = .ok (.getfield 87, 3) := by decide +kernel
theorem dX3_acresOfNights_31 : decode cX3_acresOfNights 31 = .ok (.if_icmp .ge 51, 3) := by decide +kernel
theorem dX3_acresOfNights_34 : decode cX3_acresOfNights 34 = .ok (.lload 5, 2) := by decide +kernel
theorem dX3_acresOfNights_36 : decode cX3_acresOfNights 36 = .ok (.ldc2_w 122, 3) := by decide +kernel
theorem dX3_acresOfNights_39 : decode cX3_acresOfNights 39 = .ok (.lmul, 1) := by decide +kernel
theorem dX3_acresOfNights_40 : decode cX3_acresOfNights 40 = .ok (.ldc2_w 124, 3) := by decide +kernel
theorem dX3_acresOfNights_43 : decode cX3_acresOfNights 43 = .ok (.ladd, 1) := by decide +kernel
theorem dX3_acresOfNights_44 : decode cX3_acresOfNights 44 = .ok (.ldc2_w 126, 3) := by decide +kernel
theorem dX3_acresOfNights_47 : decode cX3_acresOfNights 47 = .ok (.lrem, 1) := by decide +kernel
theorem dX3_acresOfNights_48 : decode cX3_acresOfNights 48 = .ok (.lstore 5, 2) := by decide +kernel
theorem dX3_acresOfNights_50 : decode cX3_acresOfNights 50 = .ok (.lload 5, 2) := by decide +kernel
theorem dX3_acresOfNights_52 : decode cX3_acresOfNights 52 = .ok (.ldc2_w 128, 3) := by decide +kernel
theorem dX3_acresOfNights_55 : decode cX3_acresOfNights 55 = .ok (.ldiv, 1) := by decide +kernel
theorem dX3_acresOfNights_56 : decode cX3_acresOfNights 56 = .ok (.ldc2_w 130, 3) := by decide +kernel
theorem dX3_acresOfNights_59 : decode cX3_acresOfNights 59 = .ok (.lrem, 1) := by decide +kernel
theorem dX3_acresOfNights_60 : decode cX3_acresOfNights 60 = .ok (.iload 4, 2) := by decide +kernel
theorem dX3_acresOfNights_62 : decode cX3_acresOfNights 62 = .ok (.i2l, 1) := by decide +kernel
theorem dX3_acresOfNights_63 : decode cX3_acresOfNights 63 = .ok (.lcmp, 1) := by decide +kernel
theorem dX3_acresOfNights_64 : decode cX3_acresOfNights 64 = .ok (.ifCond .ge 12, 3) := by decide +kernel
theorem dX3_acresOfNights_67 : decode cX3_acresOfNights 67 = .ok (.iload 9, 2) := by decide +kernel
theorem dX3_acresOfNights_69 : decode cX3_acresOfNights 69 = .ok (.iconst 1, 1) := by decide +kernel
theorem dX3_acresOfNights_70 : decode cX3_acresOfNights 70 = .ok (.iload 10, 2) := by decide +kernel
theorem dX3_acresOfNights_72 : decode cX3_acresOfNights 72 = .ok (.ishl, 1) := by decide +kernel
theorem dX3_acresOfNights_73 : decode cX3_acresOfNights 73 = .ok (.ior, 1) := by decide +kernel
theorem dX3_acresOfNights_74 : decode cX3_acresOfNights 74 = .ok (.istore 9, 2) := by decide +kernel
theorem dX3_acresOfNights_76 : decode cX3_acresOfNights 76 = .ok (.iinc 10 1, 3) := by decide +kernel
theorem dX3_acresOfNights_79 : decode cX3_acresOfNights 79 = .ok (.goto (-57), 3) := by decide +kernel
theorem dX3_acresOfNights_82 : decode cX3_acresOfNights 82 = .ok (.iload 7, 2) := by decide +kernel
theorem dX3_acresOfNights_84 : decode cX3_acresOfNights 84 = .ok (.aload_n 0, 1) := by decide +kernel
theorem dX3_acresOfNights_85 : decode cX3_acresOfNights 85 = .ok (.iload_n 1, 1) := by decide +kernel
theorem dX3_acresOfNights_86 : decode cX3_acresOfNights 86 = .ok (.iload 9, 2) := by decide +kernel
theorem dX3_acresOfNights_88 : decode cX3_acresOfNights 88 = .ok (.aload_n 0, 1) := by decide +kernel
theorem dX3_acresOfNights_89 : decode cX3_acresOfNights 89 = .ok (.getfield 55, 3) := by decide +kernel
theorem dX3_acresOfNights_92 : decode cX3_acresOfNights 92 = .ok (.getfield 104, 3) := by decide +kernel
theorem dX3_acresOfNights_95 : decode cX3_acresOfNights 95 = .ok (.invokevirtual 111, 3) := by decide +kernel
theorem dX3_acresOfNights_98 : decode cX3_acresOfNights 98 = .ok (.iadd, 1) := by decide +kernel
theorem dX3_acresOfNights_99 : decode cX3_acresOfNights 99 = .ok (.istore 7, 2) := by decide +kernel
theorem dX3_acresOfNights_101 : decode cX3_acresOfNights 101 = .ok (.iinc 8 1, 3) := by decide +kernel
theorem dX3_acresOfNights_104 : decode cX3_acresOfNights 104 = .ok (.goto (-94), 3) := by decide +kernel
theorem dX3_acresOfNights_107 : decode cX3_acresOfNights 107 = .ok (.iload 7, 2) := by decide +kernel
theorem dX3_acresOfNights_109 : decode cX3_acresOfNights 109 = .ok (.ireturn, 1) := by decide +kernel
theorem dX3_bestPlace_0 : decode cX3_bestPlace 0 = .ok (.aload_n 0, 1) := by decide +kernel
theorem dX3_bestPlace_1 : decode cX3_bestPlace 1 = .ok (.getfield 55, 3) := by decide +kernel
theorem dX3_bestPlace_4 : decode cX3_bestPlace 4 = .ok (.iload_n 1, 1) := by decide +kernel
theorem dX3_bestPlace_5 : decode cX3_bestPlace 5 = .ok (.invokevirtual 132, 3) := by decide +kernel
theorem dX3_bestPlace_8 : decode cX3_bestPlace 8 = .ok (.ifCond .ne 5, 3) := by decide +kernel
theorem dX3_bestPlace_11 : decode cX3_bestPlace 11 = .ok (.iconst 0, 1) := by decide +kernel
theorem dX3_bestPlace_12 : decode cX3_bestPlace 12 = .ok (.ireturn, 1) := by decide +kernel
theorem dX3_bestPlace_13 : decode cX3_bestPlace 13 = .ok (.aload_n 0, 1) := by decide +kernel
theorem dX3_bestPlace_14 : decode cX3_bestPlace 14 = .ok (.aload_n 0, 1) := by decide +kernel
theorem dX3_bestPlace_15 : decode cX3_bestPlace 15 = .ok (.getfield 55, 3) := by decide +kernel
theorem dX3_bestPlace_18 : decode cX3_bestPlace 18 = .ok (.getfield 104, 3) := by decide +kernel
theorem dX3_bestPlace_21 : decode cX3_bestPlace 21 = .ok (.iload_n 1, 1) := by decide +kernel
theorem dX3_bestPlace_22 : decode cX3_bestPlace 22 = .ok (.iaload, 1) := by decide +kernel
theorem dX3_bestPlace_23 : decode cX3_bestPlace 23 = .ok (.invokevirtual 114, 3) := by decide +kernel
theorem dX3_bestPlace_26 : decode cX3_bestPlace 26 = .ok (.istore_n 3, 1) := by decide +kernel
theorem dX3_bestPlace_27 : decode cX3_bestPlace 27 = .ok (.aload_n 0, 1) := by decide +kernel
theorem dX3_bestPlace_28 : decode cX3_bestPlace 28 = .ok (.getfield 55, 3) := by decide +kernel
theorem dX3_bestPlace_31 : decode cX3_bestPlace 31 = .ok (.getfield 101, 3) := by decide +kernel
theorem dX3_bestPlace_34 : decode cX3_bestPlace 34 = .ok (.iconst 1, 1) := by decide +kernel
theorem dX3_bestPlace_35 : decode cX3_bestPlace 35 = .ok (.iload_n 1, 1) := by decide +kernel
theorem dX3_bestPlace_36 : decode cX3_bestPlace 36 = .ok (.ishl, 1) := by decide +kernel
theorem dX3_bestPlace_37 : decode cX3_bestPlace 37 = .ok (.iconst (-1), 1) := by decide +kernel
theorem dX3_bestPlace_38 : decode cX3_bestPlace 38 = .ok (.ixor, 1) := by decide +kernel
theorem dX3_bestPlace_39 : decode cX3_bestPlace 39 = .ok (.iand, 1) := by decide +kernel
theorem dX3_bestPlace_40 : decode cX3_bestPlace 40 = .ok (.istore 4, 2) := by decide +kernel
theorem dX3_bestPlace_42 : decode cX3_bestPlace 42 = .ok (.iconst 0, 1) := by decide +kernel
theorem dX3_bestPlace_43 : decode cX3_bestPlace 43 = .ok (.istore 5, 2) := by decide +kernel
theorem dX3_bestPlace_45 : decode cX3_bestPlace 45 = .ok (.iload 5, 2) := by decide +kernel
theorem dX3_bestPlace_47 : decode cX3_bestPlace 47 = .ok (.bipush 64, 2) := by decide +kernel
theorem dX3_bestPlace_49 : decode cX3_bestPlace 49 = .ok (.if_icmp .ge 45, 3) := by decide +kernel
theorem dX3_bestPlace_52 : decode cX3_bestPlace 52 = .ok (.aload_n 0, 1) := by decide +kernel
theorem dX3_bestPlace_53 : decode cX3_bestPlace 53 = .ok (.getfield 40, 3) := by decide +kernel
theorem dX3_bestPlace_56 : decode cX3_bestPlace 56 = .ok (.iload 5, 2) := by decide +kernel
theorem dX3_bestPlace_58 : decode cX3_bestPlace 58 = .ok (.aload_n 0, 1) := by decide +kernel
theorem dX3_bestPlace_59 : decode cX3_bestPlace 59 = .ok (.iload 5, 2) := by decide +kernel
theorem dX3_bestPlace_61 : decode cX3_bestPlace 61 = .ok (.iload 4, 2) := by decide +kernel
theorem dX3_bestPlace_63 : decode cX3_bestPlace 63 = .ok (.iload_n 3, 1) := by decide +kernel
theorem dX3_bestPlace_64 : decode cX3_bestPlace 64 = .ok (.iand, 1) := by decide +kernel
theorem dX3_bestPlace_65 : decode cX3_bestPlace 65 = .ok (.invokevirtual 135, 3) := by decide +kernel
theorem dX3_bestPlace_68 : decode cX3_bestPlace 68 = .ok (.iastore, 1) := by decide +kernel
theorem dX3_bestPlace_69 : decode cX3_bestPlace 69 = .ok (.aload_n 0, 1) := by decide +kernel
theorem dX3_bestPlace_70 : decode cX3_bestPlace 70 = .ok (.getfield 43, 3) := by decide +kernel
theorem dX3_bestPlace_73 : decode cX3_bestPlace 73 = .ok (.iload 5, 2) := by decide +kernel
theorem dX3_bestPlace_75 : decode cX3_bestPlace 75 = .ok (.aload_n 0, 1) := by decide +kernel
theorem dX3_bestPlace_76 : decode cX3_bestPlace 76 = .ok (.iload 5, 2) := by decide +kernel
theorem dX3_bestPlace_78 : decode cX3_bestPlace 78 = .ok (.iload 4, 2) := by decide +kernel
theorem dX3_bestPlace_80 : decode cX3_bestPlace 80 = .ok (.iload_n 3, 1) := by decide +kernel
theorem dX3_bestPlace_81 : decode cX3_bestPlace 81 = .ok (.iconst (-1), 1) := by decide +kernel
theorem dX3_bestPlace_82 : decode cX3_bestPlace 82 = .ok (.ixor, 1) := by decide +kernel
theorem dX3_bestPlace_83 : decode cX3_bestPlace 83 = .ok (.iand, 1) := by decide +kernel
theorem dX3_bestPlace_84 : decode cX3_bestPlace 84 = .ok (.invokevirtual 135, 3) := by decide +kernel
theorem dX3_bestPlace_87 : decode cX3_bestPlace 87 = .ok (.iastore, 1) := by decide +kernel
theorem dX3_bestPlace_88 : decode cX3_bestPlace 88 = .ok (.iinc 5 1, 3) := by decide +kernel
theorem dX3_bestPlace_91 : decode cX3_bestPlace 91 = .ok (.goto (-46), 3) := by decide +kernel
theorem dX3_bestPlace_94 : decode cX3_bestPlace 94 = .ok (.aload_n 0, 1) := by decide +kernel
theorem dX3_bestPlace_95 : decode cX3_bestPlace 95 = .ok (.iload_n 1, 1) := by decide +kernel
theorem dX3_bestPlace_96 : decode cX3_bestPlace 96 = .ok (.iload_n 2, 1) := by decide +kernel
theorem dX3_bestPlace_97 : decode cX3_bestPlace 97 = .ok (.invokevirtual 97, 3) := by decide +kernel
theorem dX3_bestPlace_100 : decode cX3_bestPlace 100 = .ok (.iconst 0, 1) := by decide +kernel
theorem dX3_bestPlace_101 : decode cX3_bestPlace 101 = .ok (.istore 5, 2) := by decide +kernel
theorem dX3_bestPlace_103 : decode cX3_bestPlace 103 = .ok (.iconst (-1), 1) := by decide +kernel
theorem dX3_bestPlace_104 : decode cX3_bestPlace 104 = .ok (.istore 6, 2) := by decide +kernel
theorem dX3_bestPlace_106 : decode cX3_bestPlace 106 = .ok (.iconst 0, 1) := by decide +kernel
theorem dX3_bestPlace_107 : decode cX3_bestPlace 107 = .ok (.istore 7, 2) := by decide +kernel
theorem dX3_bestPlace_109 : decode cX3_bestPlace 109 = .ok (.iload 7, 2) := by decide +kernel
theorem dX3_bestPlace_111 : decode cX3_bestPlace 111 = .ok (.bipush 64, 2) := by decide +kernel
theorem dX3_bestPlace_113 : decode cX3_bestPlace 113 = .ok (.if_icmp .ge 32, 3) := by decide +kernel
theorem dX3_bestPlace_116 : decode cX3_bestPlace 116 = .ok (.aload_n 0, 1) := by decide +kernel
theorem dX3_bestPlace_117 : decode cX3_bestPlace 117 = .ok (.iload 7, 2) := by decide +kernel
theorem dX3_bestPlace_119 : decode cX3_bestPlace 119 = .ok (.invokevirtual 138, 3) := by decide +kernel
theorem dX3_bestPlace_122 : decode cX3_bestPlace 122 = .ok (.istore 8, 2) := by decide +kernel
theorem dX3_bestPlace_124 : decode cX3_bestPlace 124 = .ok (.iload 8, 2) := by decide +kernel
theorem dX3_bestPlace_126 : decode cX3_bestPlace 126 = .ok (.iload 6, 2) := by decide +kernel
theorem dX3_bestPlace_128 : decode cX3_bestPlace 128 = .ok (.if_icmp .le 11, 3) := by decide +kernel
theorem dX3_bestPlace_131 : decode cX3_bestPlace 131 = .ok (.iload 8, 2) := by decide +kernel
theorem dX3_bestPlace_133 : decode cX3_bestPlace 133 = .ok (.istore 6, 2) := by decide +kernel
theorem dX3_bestPlace_135 : decode cX3_bestPlace 135 = .ok (.iload 7, 2) := by decide +kernel
theorem dX3_bestPlace_137 : decode cX3_bestPlace 137 = .ok (.istore 5, 2) := by decide +kernel
theorem dX3_bestPlace_139 : decode cX3_bestPlace 139 = .ok (.iinc 7 1, 3) := by decide +kernel
theorem dX3_bestPlace_142 : decode cX3_bestPlace 142 = .ok (.goto (-33), 3) := by decide +kernel
theorem dX3_bestPlace_145 : decode cX3_bestPlace 145 = .ok (.iload 5, 2) := by decide +kernel
theorem dX3_bestPlace_147 : decode cX3_bestPlace 147 = .ok (.ireturn, 1) := by decide +kernel
theorem dX3_acresFrom_0 : decode cX3_acresFrom 0 = .ok (.iconst 0, 1) := by decide +kernel
theorem dX3_acresFrom_1 : decode cX3_acresFrom 1 = .ok (.istore_n 2, 1) := by decide +kernel
theorem dX3_acresFrom_2 : decode cX3_acresFrom 2 = .ok (.iconst 0, 1) := by decide +kernel
theorem dX3_acresFrom_3 : decode cX3_acresFrom 3 = .ok (.istore_n 3, 1) := by decide +kernel
theorem dX3_acresFrom_4 : decode cX3_acresFrom 4 = .ok (.iload_n 3, 1) := by decide +kernel
theorem dX3_acresFrom_5 : decode cX3_acresFrom 5 = .ok (.bipush 64, 2) := by decide +kernel
theorem dX3_acresFrom_7 : decode cX3_acresFrom 7 = .ok (.if_icmp .ge 40, 3) := by decide +kernel
theorem dX3_acresFrom_10 : decode cX3_acresFrom 10 = .ok (.aload_n 0, 1) := by decide +kernel
theorem dX3_acresFrom_11 : decode cX3_acresFrom 11 = .ok (.getfield 40, 3) := by decide +kernel
theorem dX3_acresFrom_14 : decode cX3_acresFrom 14 = .ok (.iload_n 3, 1) := by decide +kernel
theorem dX3_acresFrom_15 : decode cX3_acresFrom 15 = .ok (.iaload, 1) := by decide +kernel
theorem dX3_acresFrom_16 : decode cX3_acresFrom 16 = .ok (.aload_n 0, 1) := by decide +kernel
theorem dX3_acresFrom_17 : decode cX3_acresFrom 17 = .ok (.getfield 46, 3) := by decide +kernel
theorem dX3_acresFrom_20 : decode cX3_acresFrom 20 = .ok (.iload_n 1, 1) := by decide +kernel
theorem dX3_acresFrom_21 : decode cX3_acresFrom 21 = .ok (.iload_n 3, 1) := by decide +kernel
theorem dX3_acresFrom_22 : decode cX3_acresFrom 22 = .ok (.invokestatic 141, 3) := by decide +kernel
theorem dX3_acresFrom_25 : decode cX3_acresFrom 25 = .ok (.iaload, 1) := by decide +kernel
theorem dX3_acresFrom_26 : decode cX3_acresFrom 26 = .ok (.invokestatic 82, 3) := by decide +kernel
theorem dX3_acresFrom_29 : decode cX3_acresFrom 29 = .ok (.aload_n 0, 1) := by decide +kernel
theorem dX3_acresFrom_30 : decode cX3_acresFrom 30 = .ok (.getfield 43, 3) := by decide +kernel
theorem dX3_acresFrom_33 : decode cX3_acresFrom 33 = .ok (.iload_n 3, 1) := by decide +kernel
theorem dX3_acresFrom_34 : decode cX3_acresFrom 34 = .ok (.iaload, 1) := by decide +kernel
theorem dX3_acresFrom_35 : decode cX3_acresFrom 35 = .ok (.if_icmp .le 6, 3) := by decide +kernel
theorem dX3_acresFrom_38 : decode cX3_acresFrom 38 = .ok (.iinc 2 1, 3) := by decide +kernel
theorem dX3_acresFrom_41 : decode cX3_acresFrom 41 = .ok (.iinc 3 1, 3) := by decide +kernel
theorem dX3_acresFrom_44 : decode cX3_acresFrom 44 = .ok (.goto (-40), 3) := by decide +kernel
theorem dX3_acresFrom_47 : decode cX3_acresFrom 47 = .ok (.iload_n 2, 1) := by decide +kernel
theorem dX3_acresFrom_48 : decode cX3_acresFrom 48 = .ok (.ireturn, 1) := by decide +kernel
theorem dX4_init_0 : decode cX4_init 0 = .ok (.aload_n 0, 1) := by decide +kernel
theorem dX4_init_1 : decode cX4_init 1 = .ok (.invokespecial 1, 3) := by decide +kernel
theorem dX4_init_4 : decode cX4_init 4 = .ok (.return_, 1) := by decide +kernel
theorem dX4_strength_0 : decode cX4_strength 0 = .ok (.iload_n 1, 1) := by decide +kernel
theorem dX4_strength_1 : decode cX4_strength 1 = .ok (.iload_n 2, 1) := by decide +kernel
theorem dX4_strength_2 : decode cX4_strength 2 = .ok (.if_icmp .le 9, 3) := by decide +kernel
theorem dX4_strength_5 : decode cX4_strength 5 = .ok (.iload_n 1, 1) := by decide +kernel
theorem dX4_strength_6 : decode cX4_strength 6 = .ok (.iload_n 2, 1) := by decide +kernel
theorem dX4_strength_7 : decode cX4_strength 7 = .ok (.isub, 1) := by decide +kernel
theorem dX4_strength_8 : decode cX4_strength 8 = .ok (.goto 4, 3) := by decide +kernel
theorem dX4_strength_11 : decode cX4_strength 11 = .ok (.iconst 0, 1) := by decide +kernel
theorem dX4_strength_12 : decode cX4_strength 12 = .ok (.ireturn, 1) := by decide +kernel
theorem dX4_hours_0 : decode cX4_hours 0 = .ok (.iload_n 1, 1) := by decide +kernel
theorem dX4_hours_1 : decode cX4_hours 1 = .ok (.ireturn, 1) := by decide +kernel
theorem dX5_init_0 : decode cX5_init 0 = .ok (.aload_n 0, 1) := by decide +kernel
theorem dX5_init_1 : decode cX5_init 1 = .ok (.invokespecial 3, 3) := by decide +kernel
theorem dX5_init_4 : decode cX5_init 4 = .ok (.aload_n 0, 1) := by decide +kernel
theorem dX5_init_5 : decode cX5_init 5 = .ok (.new 9, 3) := by decide +kernel
theorem dX5_init_8 : decode cX5_init 8 = .ok (.dup, 1) := by decide +kernel
theorem dX5_init_9 : decode cX5_init 9 = .ok (.invokespecial 11, 3) := by decide +kernel
theorem dX5_init_12 : decode cX5_init 12 = .ok (.putfield 12, 3) := by decide +kernel
theorem dX5_init_15 : decode cX5_init 15 = .ok (.aload_n 0, 1) := by decide +kernel
theorem dX5_init_16 : decode cX5_init 16 = .ok (.iconst 0, 1) := by decide +kernel
theorem dX5_init_17 : decode cX5_init 17 = .ok (.putfield 18, 3) := by decide +kernel
theorem dX5_init_20 : decode cX5_init 20 = .ok (.aload_n 0, 1) := by decide +kernel
theorem dX5_init_21 : decode cX5_init 21 = .ok (.sipush 150, 3) := by decide +kernel
theorem dX5_init_24 : decode cX5_init 24 = .ok (.newarray .byte, 2) := by decide +kernel
theorem dX5_init_26 : decode cX5_init 26 = .ok (.putfield 22, 3) := by decide +kernel
theorem dX5_init_29 : decode cX5_init 29 = .ok (.aload_n 0, 1) := by decide +kernel
theorem dX5_init_30 : decode cX5_init 30 = .ok (.iconst 0, 1) := by decide +kernel
theorem dX5_init_31 : decode cX5_init 31 = .ok (.putfield 26, 3) := by decide +kernel
theorem dX5_init_34 : decode cX5_init 34 = .ok (.aload_n 0, 1) := by decide +kernel
theorem dX5_init_35 : decode cX5_init 35 = .ok (.iconst 0, 1) := by decide +kernel
theorem dX5_init_36 : decode cX5_init 36 = .ok (.putfield 29, 3) := by decide +kernel
theorem dX5_init_39 : decode cX5_init 39 = .ok (.aload_n 0, 1) := by decide +kernel
theorem dX5_init_40 : decode cX5_init 40 = .ok (.iconst 0, 1) := by decide +kernel
theorem dX5_init_41 : decode cX5_init 41 = .ok (.putfield 32, 3) := by decide +kernel
theorem dX5_init_44 : decode cX5_init 44 = .ok (.aload_n 0, 1) := by decide +kernel
theorem dX5_init_45 : decode cX5_init 45 = .ok (.iconst 0, 1) := by decide +kernel
theorem dX5_init_46 : decode cX5_init 46 = .ok (.putfield 35, 3) := by decide +kernel
theorem dX5_init_49 : decode cX5_init 49 = .ok (.return_, 1) := by decide +kernel
theorem dX5_append_0 : decode cX5_append 0 = .ok (.aload_n 0, 1) := by decide +kernel
theorem dX5_append_1 : decode cX5_append 1 = .ok (.getfield 18, 3) := by decide +kernel
theorem dX5_append_4 : decode cX5_append 4 = .ok (.sipush 150, 3) := by decide +kernel
theorem dX5_append_7 : decode cX5_append 7 = .ok (.if_icmp .ge 24, 3) := by decide +kernel
theorem dX5_append_10 : decode cX5_append 10 = .ok (.aload_n 0, 1) := by decide +kernel
theorem dX5_append_11 : decode cX5_append 11 = .ok (.getfield 22, 3) := by decide +kernel
theorem dX5_append_14 : decode cX5_append 14 = .ok (.aload_n 0, 1) := by decide +kernel
theorem dX5_append_15 : decode cX5_append 15 = .ok (.getfield 18, 3) := by decide +kernel
theorem dX5_append_18 : decode cX5_append 18 = .ok (.iload_n 1, 1) := by decide +kernel
theorem dX5_append_19 : decode cX5_append 19 = .ok (.i2b, 1) := by decide +kernel
theorem dX5_append_20 : decode cX5_append 20 = .ok (.bastore, 1) := by decide +kernel
theorem dX5_append_21 : decode cX5_append 21 = .ok (.aload_n 0, 1) := by decide +kernel
theorem dX5_append_22 : decode cX5_append 22 = .ok (.dup, 1) := by decide +kernel
theorem dX5_append_23 : decode cX5_append 23 = .ok (.getfield 18, 3) := by decide +kernel
theorem dX5_append_26 : decode cX5_append 26 = .ok (.iconst 1, 1) := by decide +kernel
theorem dX5_append_27 : decode cX5_append 27 = .ok (.iadd, 1) := by decide +kernel
theorem dX5_append_28 : decode cX5_append 28 = .ok (.putfield 18, 3) := by decide +kernel
theorem dX5_append_31 : decode cX5_append 31 = .ok (.aload_n 0, 1) := by decide +kernel
theorem dX5_append_32 : decode cX5_append 32 = .ok (.getfield 18, 3) := by decide +kernel
theorem dX5_append_35 : decode cX5_append 35 = .ok (.ireturn, 1) := by decide +kernel
theorem dX5_parse_0 : decode cX5_parse 0 = .ok (.aload_n 0, 1) := by decide +kernel
theorem dX5_parse_1 : decode cX5_parse 1 = .ok (.iconst 0, 1) := by decide +kernel
theorem dX5_parse_2 : decode cX5_parse 2 = .ok (.putfield 26, 3) := by decide +kernel
theorem dX5_parse_5 : decode cX5_parse 5 = .ok (.aload_n 0, 1) := by decide +kernel
theorem dX5_parse_6 : decode cX5_parse 6 = .ok (.getfield 12, 3) := by decide +kernel
theorem dX5_parse_9 : decode cX5_parse 9 = .ok (.iconst 0, 1) := by decide +kernel
theorem dX5_parse_10 : decode cX5_parse 10 = .ok (.invokevirtual 38, 3) := by decide +kernel
theorem dX5_parse_13 : decode cX5_parse 13 = .ok (.iconst 0, 1) := by decide +kernel
theorem dX5_parse_14 : decode cX5_parse 14 = .ok (.istore_n 1, 1) := by decide +kernel
theorem dX5_parse_15 : decode cX5_parse 15 = .ok (.iload_n 1, 1) := by decide +kernel
theorem dX5_parse_16 : decode cX5_parse 16 = .ok (.sipush 150, 3) := by decide +kernel
theorem dX5_parse_19 : decode cX5_parse 19 = .ok (.if_icmp .gt 45, 3) := by decide +kernel
theorem dX5_parse_22 : decode cX5_parse 22 = .ok (.aload_n 0, 1) := by decide +kernel
theorem dX5_parse_23 : decode cX5_parse 23 = .ok (.invokevirtual 42, 3) := by decide +kernel
theorem dX5_parse_26 : decode cX5_parse 26 = .ok (.aload_n 0, 1) := by decide +kernel
theorem dX5_parse_27 : decode cX5_parse 27 = .ok (.getfield 29, 3) := by decide +kernel
theorem dX5_parse_30 : decode cX5_parse 30 = .ok (.ifCond .ne 9, 3) := by decide +kernel
theorem dX5_parse_33 : decode cX5_parse 33 = .ok (.iload_n 1, 1) := by decide +kernel
theorem dX5_parse_34 : decode cX5_parse 34 = .ok (.ifCond .le 5, 3) := by decide +kernel
theorem dX5_parse_37 : decode cX5_parse 37 = .ok (.iload_n 1, 1) := by decide +kernel
theorem dX5_parse_38 : decode cX5_parse 38 = .ok (.ireturn, 1) := by decide +kernel
theorem dX5_parse_39 : decode cX5_parse 39 = .ok (.aload_n 0, 1) := by decide +kernel
theorem dX5_parse_40 : decode cX5_parse 40 = .ok (.iload_n 1, 1) := by decide +kernel
theorem dX5_parse_41 : decode cX5_parse 41 = .ok (.ifCond .ne 7, 3) := by decide +kernel
theorem dX5_parse_44 : decode cX5_parse 44 = .ok (.iconst 1, 1) := by decide +kernel
theorem dX5_parse_45 : decode cX5_parse 45 = .ok (.goto 4, 3) := by decide +kernel
theorem dX5_parse_48 : decode cX5_parse 48 = .ok (.iconst 0, 1) := by decide +kernel
theorem dX5_parse_49 : decode cX5_parse 49 = .ok (.invokevirtual 45, 3) := by decide +kernel
theorem dX5_parse_52 : decode cX5_parse 52 = .ok (.ifCond .ne 6, 3) := by decide +kernel
theorem dX5_parse_55 : decode cX5_parse 55 = .ok (.goto 9, 3) := by decide +kernel
theorem dX5_parse_58 : decode cX5_parse 58 = .ok (.iinc 1 1, 3) := by decide +kernel
theorem dX5_parse_61 : decode cX5_parse 61 = .ok (.goto (-46), 3) := by decide +kernel
theorem dX5_parse_64 : decode cX5_parse 64 = .ok (.bipush (-10), 2) := by decide +kernel
theorem dX5_parse_66 : decode cX5_parse 66 = .ok (.aload_n 0, 1) := by decide +kernel
theorem dX5_parse_67 : decode cX5_parse 67 = .ok (.getfield 32, 3) := by decide +kernel
theorem dX5_parse_70 : decode cX5_parse 70 = .ok (.isub, 1) := by decide +kernel
theorem dX5_parse_71 : decode cX5_parse 71 = .ok (.ireturn, 1) := by decide +kernel
end
section
theorem dX5_takeItem_0 : decode cX5_takeItem 0 = .ok (.aload_n 0, 1) := by decide +kernel
theorem dX5_takeItem_1 : decode cX5_takeItem 1 = .ok (.getfield 29, 3) := by decide +kernel
theorem dX5_takeItem_4 : decode cX5_takeItem 4 = .ok (.iconst 1, 1) := by decide +kernel
theorem dX5_takeItem_5 : decode cX5_takeItem 5 = .ok (.if_icmp .eq 5, 3) := by decide +kernel
theorem dX5_takeItem_8 : decode cX5_takeItem 8 = .ok (.iconst 0, 1) := by decide +kernel
theorem dX5_takeItem_9 : decode cX5_takeItem 9 = .ok (.ireturn, 1) := by decide +kernel
theorem dX5_takeItem_10 : decode cX5_takeItem 10 = .ok (.iload_n 1, 1) := by decide +kernel
theorem dX5_takeItem_11 : decode cX5_takeItem 11 = .ok (.ifCond .eq 25, 3) := by decide +kernel
theorem dX5_takeItem_14 : decode cX5_takeItem 14 = .ok (.aload_n 0, 1) := by decide +kernel
theorem dX5_takeItem_15 : decode cX5_takeItem 15 = .ok (.ldc 49, 2) := by decide +kernel
theorem dX5_takeItem_17 : decode cX5_takeItem 17 = .ok (.invokevirtual 51, 3) := by decide +kernel
theorem dX5_takeItem_20 : decode cX5_takeItem 20 = .ok (.ifCond .eq 14, 3) := by decide +kernel
theorem dX5_takeItem_23 : decode cX5_takeItem 23 = .ok (.aload_n 0, 1) := by decide +kernel
theorem dX5_takeItem_24 : decode cX5_takeItem 24 = .ok (.invokevirtual 55, 3) := by decide +kernel
theorem dX5_takeItem_27 : decode cX5_takeItem 27 = .ok (.ifCond .eq 7, 3) := by decide +kernel
theorem dX5_takeItem_30 : decode cX5_takeItem 30 = .ok (.iconst 1, 1) := by decide +kernel
theorem dX5_takeItem_31 : decode cX5_takeItem 31 = .ok (.goto 4, 3) := by decide +kernel
theorem dX5_takeItem_34 : decode cX5_takeItem 34 = .ok (.iconst 0, 1) := by decide +kernel
theorem dX5_takeItem_35 : decode cX5_takeItem 35 = .ok (.ireturn, 1) := by decide +kernel
theorem dX5_takeItem_36 : decode cX5_takeItem 36 = .ok (.aload_n 0, 1) := by decide +kernel
theorem dX5_takeItem_37 : decode cX5_takeItem 37 = .ok (.ldc 59, 2) := by decide +kernel
theorem dX5_takeItem_39 : decode cX5_takeItem 39 = .ok (.invokevirtual 51, 3) := by decide +kernel
theorem dX5_takeItem_42 : decode cX5_takeItem 42 = .ok (.ifCond .eq 8, 3) := by decide +kernel
theorem dX5_takeItem_45 : decode cX5_takeItem 45 = .ok (.aload_n 0, 1) := by decide +kernel
theorem dX5_takeItem_46 : decode cX5_takeItem 46 = .ok (.invokevirtual 61, 3) := by decide +kernel
theorem dX5_takeItem_49 : decode cX5_takeItem 49 = .ok (.ireturn, 1) := by decide +kernel
theorem dX5_takeItem_50 : decode cX5_takeItem 50 = .ok (.aload_n 0, 1) := by decide +kernel
theorem dX5_takeItem_51 : decode cX5_takeItem 51 = .ok (.ldc 64, 2) := by decide +kernel
theorem dX5_takeItem_53 : decode cX5_takeItem 53 = .ok (.invokevirtual 51, 3) := by decide +kernel
theorem dX5_takeItem_56 : decode cX5_takeItem 56 = .ok (.ifCond .eq 14, 3) := by decide +kernel
theorem dX5_takeItem_59 : decode cX5_takeItem 59 = .ok (.aload_n 0, 1) := by decide +kernel
theorem dX5_takeItem_60 : decode cX5_takeItem 60 = .ok (.invokevirtual 66, 3) := by decide +kernel
theorem dX5_takeItem_63 : decode cX5_takeItem 63 = .ok (.ifCond .eq 7, 3) := by decide +kernel
theorem dX5_takeItem_66 : decode cX5_takeItem 66 = .ok (.iconst 1, 1) := by decide +kernel
theorem dX5_takeItem_67 : decode cX5_takeItem 67 = .ok (.goto 4, 3) := by decide +kernel
theorem dX5_takeItem_70 : decode cX5_takeItem 70 = .ok (.iconst 0, 1) := by decide +kernel
theorem dX5_takeItem_71 : decode cX5_takeItem 71 = .ok (.ireturn, 1) := by decide +kernel
theorem dX5_takeFog_0 : decode cX5_takeFog 0 = .ok (.aload_n 0, 1) := by decide +kernel
theorem dX5_takeFog_1 : decode cX5_takeFog 1 = .ok (.iconst 0, 1) := by decide +kernel
theorem dX5_takeFog_2 : decode cX5_takeFog 2 = .ok (.bipush 9, 2) := by decide +kernel
theorem dX5_takeFog_4 : decode cX5_takeFog 4 = .ok (.invokevirtual 69, 3) := by decide +kernel
theorem dX5_takeFog_7 : decode cX5_takeFog 7 = .ok (.ifCond .ne 5, 3) := by decide +kernel
theorem dX5_takeFog_10 : decode cX5_takeFog 10 = .ok (.iconst 0, 1) := by decide +kernel
theorem dX5_takeFog_11 : decode cX5_takeFog 11 = .ok (.ireturn, 1) := by decide +kernel
theorem dX5_takeFog_12 : decode cX5_takeFog 12 = .ok (.aload_n 0, 1) := by decide +kernel
theorem dX5_takeFog_13 : decode cX5_takeFog 13 = .ok (.getfield 12, 3) := by decide +kernel
theorem dX5_takeFog_16 : decode cX5_takeFog 16 = .ok (.aload_n 0, 1) := by decide +kernel
theorem dX5_takeFog_17 : decode cX5_takeFog 17 = .ok (.getfield 35, 3) := by decide +kernel
theorem dX5_takeFog_20 : decode cX5_takeFog 20 = .ok (.putfield 73, 3) := by decide +kernel
theorem dX5_takeFog_23 : decode cX5_takeFog 23 = .ok (.aload_n 0, 1) := by decide +kernel
theorem dX5_takeFog_24 : decode cX5_takeFog 24 = .ok (.invokevirtual 76, 3) := by decide +kernel
theorem dX5_takeFog_27 : decode cX5_takeFog 27 = .ok (.ireturn, 1) := by decide +kernel
theorem dX5_takeCandle_0 : decode cX5_takeCandle 0 = .ok (.aload_n 0, 1) := by decide +kernel
theorem dX5_takeCandle_1 : decode cX5_takeCandle 1 = .ok (.getfield 12, 3) := by decide +kernel
theorem dX5_takeCandle_4 : decode cX5_takeCandle 4 = .ok (.getfield 79, 3) := by decide +kernel
theorem dX5_takeCandle_7 : decode cX5_takeCandle 7 = .ok (.bipush 7, 2) := by decide +kernel
theorem dX5_takeCandle_9 : decode cX5_takeCandle 9 = .ok (.if_icmp .ge 12, 3) := by decide +kernel
theorem dX5_takeCandle_12 : decode cX5_takeCandle 12 = .ok (.aload_n 0, 1) := by decide +kernel
theorem dX5_takeCandle_13 : decode cX5_takeCandle 13 = .ok (.iconst 0, 1) := by decide +kernel
theorem dX5_takeCandle_14 : decode cX5_takeCandle 14 = .ok (.iconst 5, 1) := by decide +kernel
theorem dX5_takeCandle_15 : decode cX5_takeCandle 15 = .ok (.invokevirtual 69, 3) := by decide +kernel
theorem dX5_takeCandle_18 : decode cX5_takeCandle 18 = .ok (.ifCond .ne 5, 3) := by decide +kernel
theorem dX5_takeCandle_21 : decode cX5_takeCandle 21 = .ok (.iconst 0, 1) := by decide +kernel
theorem dX5_takeCandle_22 : decode cX5_takeCandle 22 = .ok (.ireturn, 1) := by decide +kernel
theorem dX5_takeCandle_23 : decode cX5_takeCandle 23 = .ok (.aload_n 0, 1) := by decide +kernel
theorem dX5_takeCandle_24 : decode cX5_takeCandle 24 = .ok (.getfield 35, 3) := by decide +kernel
theorem dX5_takeCandle_27 : decode cX5_takeCandle 27 = .ok (.istore_n 1, 1) := by decide +kernel
theorem dX5_takeCandle_28 : decode cX5_takeCandle 28 = .ok (.aload_n 0, 1) := by decide +kernel
theorem dX5_takeCandle_29 : decode cX5_takeCandle 29 = .ok (.iconst 0, 1) := by decide +kernel
theorem dX5_takeCandle_30 : decode cX5_takeCandle 30 = .ok (.bipush 63, 2) := by decide +kernel
theorem dX5_takeCandle_32 : decode cX5_takeCandle 32 = .ok (.invokevirtual 69, 3) := by decide +kernel
theorem dX5_takeCandle_35 : decode cX5_takeCandle 35 = .ok (.ifCond .ne 5, 3) := by decide +kernel
theorem dX5_takeCandle_38 : decode cX5_takeCandle 38 = .ok (.iconst 0, 1) := by decide +kernel
theorem dX5_takeCandle_39 : decode cX5_takeCandle 39 = .ok (.ireturn, 1) := by decide +kernel
theorem dX5_takeCandle_40 : decode cX5_takeCandle 40 = .ok (.aload_n 0, 1) := by decide +kernel
theorem dX5_takeCandle_41 : decode cX5_takeCandle 41 = .ok (.getfield 35, 3) := by decide +kernel
theorem dX5_takeCandle_44 : decode cX5_takeCandle 44 = .ok (.istore_n 2, 1) := by decide +kernel
theorem dX5_takeCandle_45 : decode cX5_takeCandle 45 = .ok (.aload_n 0, 1) := by decide +kernel
theorem dX5_takeCandle_46 : decode cX5_takeCandle 46 = .ok (.iconst 1, 1) := by decide +kernel
theorem dX5_takeCandle_47 : decode cX5_takeCandle 47 = .ok (.bipush 20, 2) := by decide +kernel
theorem dX5_takeCandle_49 : decode cX5_takeCandle 49 = .ok (.invokevirtual 69, 3) := by decide +kernel
theorem dX5_takeCandle_52 : decode cX5_takeCandle 52 = .ok (.ifCond .ne 5, 3) := by decide +kernel
theorem dX5_takeCandle_55 : decode cX5_takeCandle 55 = .ok (.iconst 0, 1) := by decide +kernel
theorem dX5_takeCandle_56 : decode cX5_takeCandle 56 = .ok (.ireturn, 1) := by decide +kernel
theorem dX5_takeCandle_57 : decode cX5_takeCandle 57 = .ok (.aload_n 0, 1) := by decide +kernel
theorem dX5_takeCandle_58 : decode cX5_takeCandle 58 = .ok (.getfield 35, 3) := by decide +kernel
theorem dX5_takeCandle_61 : decode cX5_takeCandle 61 = .ok (.istore_n 3, 1) := by decide +kernel
theorem dX5_takeCandle_62 : decode cX5_takeCandle 62 = .ok (.aload_n 0, 1) := by decide +kernel
theorem dX5_takeCandle_63 : decode cX5_takeCandle 63 = .ok (.iconst 0, 1) := by decide +kernel
theorem dX5_takeCandle_64 : decode cX5_takeCandle 64 = .ok (.iconst 3, 1) := by decide +kernel
theorem dX5_takeCandle_65 : decode cX5_takeCandle 65 = .ok (.invokevirtual 69, 3) := by decide +kernel
theorem dX5_takeCandle_68 : decode cX5_takeCandle 68 = .ok (.ifCond .ne 5, 3) := by decide +kernel
theorem dX5_takeCandle_71 : decode cX5_takeCandle 71 = .ok (.iconst 0, 1) := by decide +kernel
theorem dX5_takeCandle_72 : decode cX5_takeCandle 72 = .ok (.ireturn, 1) := by decide +kernel
theorem dX5_takeCandle_73 : decode cX5_takeCandle 73 = .ok (.aload_n 0, 1) := by decide +kernel
theorem dX5_takeCandle_74 : decode cX5_takeCandle 74 = .ok (.getfield 35, 3) := by decide +kernel
theorem dX5_takeCandle_77 : decode cX5_takeCandle 77 = .ok (.istore 4, 2) := by decide +kernel
theorem dX5_takeCandle_79 : decode cX5_takeCandle 79 = .ok (.aload_n 0, 1) := by decide +kernel
theorem dX5_takeCandle_80 : decode cX5_takeCandle 80 = .ok (.iconst 0, 1) := by decide +kernel
theorem dX5_takeCandle_81 : decode cX5_takeCandle 81 = .ok (.bipush 12, 2) := by decide +kernel
theorem dX5_takeCandle_83 : decode cX5_takeCandle 83 = .ok (.invokevirtual 69, 3) := by decide +kernel
theorem dX5_takeCandle_86 : decode cX5_takeCandle 86 = .ok (.ifCond .ne 5, 3) := by decide +kernel
theorem dX5_takeCandle_89 : decode cX5_takeCandle 89 = .ok (.iconst 0, 1) := by decide +kernel
theorem dX5_takeCandle_90 : decode cX5_takeCandle 90 = .ok (.ireturn, 1) := by decide +kernel
theorem dX5_takeCandle_91 : decode cX5_takeCandle 91 = .ok (.aload_n 0, 1) := by decide +kernel
theorem dX5_takeCandle_92 : decode cX5_takeCandle 92 = .ok (.getfield 12, 3) := by decide +kernel
theorem dX5_takeCandle_95 : decode cX5_takeCandle 95 = .ok (.iload_n 1, 1) := by decide +kernel
theorem dX5_takeCandle_96 : decode cX5_takeCandle 96 = .ok (.iload_n 2, 1) := by decide +kernel
theorem dX5_takeCandle_97 : decode cX5_takeCandle 97 = .ok (.iload_n 3, 1) := by decide +kernel
theorem dX5_takeCandle_98 : decode cX5_takeCandle 98 = .ok (.iload 4, 2) := by decide +kernel
theorem dX5_takeCandle_100 : decode cX5_takeCandle 100 = .ok (.aload_n 0, 1) := by decide +kernel
theorem dX5_takeCandle_101 : decode cX5_takeCandle 101 = .ok (.getfield 35, 3) := by decide +kernel
theorem dX5_takeCandle_104 : decode cX5_takeCandle 104 = .ok (.invokevirtual 82, 3) := by decide +kernel
theorem dX5_takeCandle_107 : decode cX5_takeCandle 107 = .ok (.pop, 1) := by decide +kernel
theorem dX5_takeCandle_108 : decode cX5_takeCandle 108 = .ok (.aload_n 0, 1) := by decide +kernel
theorem dX5_takeCandle_109 : decode cX5_takeCandle 109 = .ok (.invokevirtual 76, 3) := by decide +kernel
theorem dX5_takeCandle_112 : decode cX5_takeCandle 112 = .ok (.ireturn, 1) := by decide +kernel
theorem dX5_takeOut_0 : decode cX5_takeOut 0 = .ok (.aload_n 0, 1) := by decide +kernel
theorem dX5_takeOut_1 : decode cX5_takeOut 1 = .ok (.iconst 0, 1) := by decide +kernel
theorem dX5_takeOut_2 : decode cX5_takeOut 2 = .ok (.aload_n 0, 1) := by decide +kernel
theorem dX5_takeOut_3 : decode cX5_takeOut 3 = .ok (.getfield 12, 3) := by decide +kernel
theorem dX5_takeOut_6 : decode cX5_takeOut 6 = .ok (.getfield 79, 3) := by decide +kernel
theorem dX5_takeOut_9 : decode cX5_takeOut 9 = .ok (.iconst 1, 1) := by decide +kernel
theorem dX5_takeOut_10 : decode cX5_takeOut 10 = .ok (.isub, 1) := by decide +kernel
theorem dX5_takeOut_11 : decode cX5_takeOut 11 = .ok (.invokevirtual 69, 3) := by decide +kernel
theorem dX5_takeOut_14 : decode cX5_takeOut 14 = .ok (.ifCond .ne 5, 3) := by decide +kernel
theorem dX5_takeOut_17 : decode cX5_takeOut 17 = .ok (.iconst 0, 1) := by decide +kernel
theorem dX5_takeOut_18 : decode cX5_takeOut 18 = .ok (.ireturn, 1) := by decide +kernel
theorem dX5_takeOut_19 : decode cX5_takeOut 19 = .ok (.aload_n 0, 1) := by decide +kernel
theorem dX5_takeOut_20 : decode cX5_takeOut 20 = .ok (.getfield 12, 3) := by decide +kernel
theorem dX5_takeOut_23 : decode cX5_takeOut 23 = .ok (.aload_n 0, 1) := by decide +kernel
theorem dX5_takeOut_24 : decode cX5_takeOut 24 = .ok (.getfield 12, 3) := by decide +kernel
theorem dX5_takeOut_27 : decode cX5_takeOut 27 = .ok (.getfield 86, 3) := by decide +kernel
theorem dX5_takeOut_30 : decode cX5_takeOut 30 = .ok (.iconst 1, 1) := by decide +kernel
theorem dX5_takeOut_31 : decode cX5_takeOut 31 = .ok (.aload_n 0, 1) := by decide +kernel
theorem dX5_takeOut_32 : decode cX5_takeOut 32 = .ok (.getfield 35, 3) := by decide +kernel
theorem dX5_takeOut_35 : decode cX5_takeOut 35 = .ok (.ishl, 1) := by decide +kernel
theorem dX5_takeOut_36 : decode cX5_takeOut 36 = .ok (.iconst (-1), 1) := by decide +kernel
theorem dX5_takeOut_37 : decode cX5_takeOut 37 = .ok (.ixor, 1) := by decide +kernel
theorem dX5_takeOut_38 : decode cX5_takeOut 38 = .ok (.iand, 1) := by decide +kernel
theorem dX5_takeOut_39 : decode cX5_takeOut 39 = .ok (.putfield 86, 3) := by decide +kernel
theorem dX5_takeOut_42 : decode cX5_takeOut 42 = .ok (.aload_n 0, 1) := by decide +kernel
theorem dX5_takeOut_43 : decode cX5_takeOut 43 = .ok (.invokevirtual 76, 3) := by decide +kernel
theorem dX5_takeOut_46 : decode cX5_takeOut 46 = .ok (.ireturn, 1) := by decide +kernel
theorem dX5_takeNumber_0 : decode cX5_takeNumber 0 = .ok (.aload_n 0, 1) := by decide +kernel
theorem dX5_takeNumber_1 : decode cX5_takeNumber 1 = .ok (.invokevirtual 42, 3) := by decide +kernel
theorem dX5_takeNumber_4 : decode cX5_takeNumber 4 = .ok (.aload_n 0, 1) := by decide +kernel
theorem dX5_takeNumber_5 : decode cX5_takeNumber 5 = .ok (.getfield 29, 3) := by decide +kernel
theorem dX5_takeNumber_8 : decode cX5_takeNumber 8 = .ok (.iconst 2, 1) := by decide +kernel
theorem dX5_takeNumber_9 : decode cX5_takeNumber 9 = .ok (.if_icmp .ne 19, 3) := by decide +kernel
theorem dX5_takeNumber_12 : decode cX5_takeNumber 12 = .ok (.aload_n 0, 1) := by decide +kernel
theorem dX5_takeNumber_13 : decode cX5_takeNumber 13 = .ok (.getfield 35, 3) := by decide +kernel
theorem dX5_takeNumber_16 : decode cX5_takeNumber 16 = .ok (.iload_n 1, 1) := by decide +kernel
theorem dX5_takeNumber_17 : decode cX5_takeNumber 17 = .ok (.iload_n 2, 1) := by decide +kernel
theorem dX5_takeNumber_18 : decode cX5_takeNumber 18 = .ok (.invokestatic 89, 3) := by decide +kernel
theorem dX5_takeNumber_21 : decode cX5_takeNumber 21 = .ok (.ifCond .eq 7, 3) := by decide +kernel
theorem dX5_takeNumber_24 : decode cX5_takeNumber 24 = .ok (.iconst 1, 1) := by decide +kernel
theorem dX5_takeNumber_25 : decode cX5_takeNumber 25 = .ok (.goto 4, 3) := by decide +kernel
theorem dX5_takeNumber_28 : decode cX5_takeNumber 28 = .ok (.iconst 0, 1) := by decide +kernel
theorem dX5_takeNumber_29 : decode cX5_takeNumber 29 = .ok (.ireturn, 1) := by decide +kernel
theorem dX5_takeStop_0 : decode cX5_takeStop 0 = .ok (.aload_n 0, 1) := by decide +kernel
theorem dX5_takeStop_1 : decode cX5_takeStop 1 = .ok (.invokevirtual 42, 3) := by decide +kernel
theorem dX5_takeStop_4 : decode cX5_takeStop 4 = .ok (.aload_n 0, 1) := by decide +kernel
theorem dX5_takeStop_5 : decode cX5_takeStop 5 = .ok (.getfield 29, 3) := by decide +kernel
theorem dX5_takeStop_8 : decode cX5_takeStop 8 = .ok (.iconst 3, 1) := by decide +kernel
theorem dX5_takeStop_9 : decode cX5_takeStop 9 = .ok (.if_icmp .ne 7, 3) := by decide +kernel
theorem dX5_takeStop_12 : decode cX5_takeStop 12 = .ok (.iconst 1, 1) := by decide +kernel
theorem dX5_takeStop_13 : decode cX5_takeStop 13 = .ok (.goto 4, 3) := by decide +kernel
theorem dX5_takeStop_16 : decode cX5_takeStop 16 = .ok (.iconst 0, 1) := by decide +kernel
theorem dX5_takeStop_17 : decode cX5_takeStop 17 = .ok (.ireturn, 1) := by decide +kernel
theorem dX5_advance_0 : decode cX5_advance 0 = .ok (.aload_n 0, 1) := by decide +kernel
theorem dX5_advance_1 : decode cX5_advance 1 = .ok (.getfield 26, 3) := by decide +kernel
theorem dX5_advance_4 : decode cX5_advance 4 = .ok (.aload_n 0, 1) := by decide +kernel
theorem dX5_advance_5 : decode cX5_advance 5 = .ok (.getfield 18, 3) := by decide +kernel
theorem dX5_advance_8 : decode cX5_advance 8 = .ok (.if_icmp .ge 30, 3) := by decide +kernel
theorem dX5_advance_11 : decode cX5_advance 11 = .ok (.aload_n 0, 1) := by decide +kernel
theorem dX5_advance_12 : decode cX5_advance 12 = .ok (.getfield 22, 3) := by decide +kernel
theorem dX5_advance_15 : decode cX5_advance 15 = .ok (.aload_n 0, 1) := by decide +kernel
theorem dX5_advance_16 : decode cX5_advance 16 = .ok (.getfield 26, 3) := by decide +kernel
theorem dX5_advance_19 : decode cX5_advance 19 = .ok (.baload, 1) := by decide +kernel
theorem dX5_advance_20 : decode cX5_advance 20 = .ok (.bipush 32, 2) := by decide +kernel
theorem dX5_advance_22 : decode cX5_advance 22 = .ok (.if_icmp .ne 16, 3) := by decide +kernel
theorem dX5_advance_25 : decode cX5_advance 25 = .ok (.aload_n 0, 1) := by decide +kernel
theorem dX5_advance_26 : decode cX5_advance 26 = .ok (.dup, 1) := by decide +kernel
theorem dX5_advance_27 : decode cX5_advance 27 = .ok (.getfield 26, 3) := by decide +kernel
theorem dX5_advance_30 : decode cX5_advance 30 = .ok (.iconst 1, 1) := by decide +kernel
theorem dX5_advance_31 : decode cX5_advance 31 = .ok (.iadd, 1) := by decide +kernel
theorem dX5_advance_32 : decode cX5_advance 32 = .ok (.putfield 26, 3) := by decide +kernel
theorem dX5_advance_35 : decode cX5_advance 35 = .ok (.goto (-35), 3) := by decide +kernel
theorem dX5_advance_38 : decode cX5_advance 38 = .ok (.aload_n 0, 1) := by decide +kernel
theorem dX5_advance_39 : decode cX5_advance 39 = .ok (.aload_n 0, 1) := by decide +kernel
theorem dX5_advance_40 : decode cX5_advance 40 = .ok (.getfield 26, 3) := by decide +kernel
theorem dX5_advance_43 : decode cX5_advance 43 = .ok (.putfield 32, 3) := by decide +kernel
theorem dX5_advance_46 : decode cX5_advance 46 = .ok (.aload_n 0, 1) := by decide +kernel
theorem dX5_advance_47 : decode cX5_advance 47 = .ok (.getfield 26, 3) := by decide +kernel
theorem dX5_advance_50 : decode cX5_advance 50 = .ok (.aload_n 0, 1) := by decide +kernel
theorem dX5_advance_51 : decode cX5_advance 51 = .ok (.getfield 18, 3) := by decide +kernel
theorem dX5_advance_54 : decode cX5_advance 54 = .ok (.if_icmp .lt 11, 3) := by decide +kernel
theorem dX5_advance_57 : decode cX5_advance 57 = .ok (.aload_n 0, 1) := by decide +kernel
theorem dX5_advance_58 : decode cX5_advance 58 = .ok (.iconst 0, 1) := by decide +kernel
theorem dX5_advance_59 : decode cX5_advance 59 = .ok (.putfield 29, 3) := by decide +kernel
theorem dX5_advance_62 : decode cX5_advance 62 = .ok (.goto 200, 3) := by decide +kernel
theorem dX5_advance_65 : decode cX5_advance 65 = .ok (.aload_n 0, 1) := by decide +kernel
theorem dX5_advance_66 : decode cX5_advance 66 = .ok (.getfield 22, 3) := by decide +kernel
theorem dX5_advance_69 : decode cX5_advance 69 = .ok (.aload_n 0, 1) := by decide +kernel
theorem dX5_advance_70 : decode cX5_advance 70 = .ok (.getfield 26, 3) := by decide +kernel
theorem dX5_advance_73 : decode cX5_advance 73 = .ok (.baload, 1) := by decide +kernel
theorem dX5_advance_74 : decode cX5_advance 74 = .ok (.invokestatic 93, 3) := by decide +kernel
theorem dX5_advance_77 : decode cX5_advance 77 = .ok (.ifCond .eq 47, 3) := by decide +kernel
theorem dX5_advance_80 : decode cX5_advance 80 = .ok (.aload_n 0, 1) := by decide +kernel
theorem dX5_advance_81 : decode cX5_advance 81 = .ok (.iconst 1, 1) := by decide +kernel
theorem dX5_advance_82 : decode cX5_advance 82 = .ok (.putfield 29, 3) := by decide +kernel
theorem dX5_advance_85 : decode cX5_advance 85 = .ok (.aload_n 0, 1) := by decide +kernel
theorem dX5_advance_86 : decode cX5_advance 86 = .ok (.getfield 26, 3) := by decide +kernel
theorem dX5_advance_89 : decode cX5_advance 89 = .ok (.aload_n 0, 1) := by decide +kernel
theorem dX5_advance_90 : decode cX5_advance 90 = .ok (.getfield 18, 3) := by decide +kernel
theorem dX5_advance_93 : decode cX5_advance 93 = .ok (.if_icmp .ge 169, 3) := by decide +kernel
theorem dX5_advance_96 : decode cX5_advance 96 = .ok (.aload_n 0, 1) := by decide +kernel
theorem dX5_advance_97 : decode cX5_advance 97 = .ok (.getfield 22, 3) := by decide +kernel
theorem dX5_advance_100 : decode cX5_advance 100 = .ok (.aload_n 0, 1) := by decide +kernel
theorem dX5_advance_101 : decode cX5_advance 101 = .ok (.getfield 26, 3) := by decide +kernel
theorem dX5_advance_104 : decode cX5_advance 104 = .ok (.baload, 1) := by decide +kernel
theorem dX5_advance_105 : decode cX5_advance 105 = .ok (.invokestatic 93, 3) := by decide +kernel
theorem dX5_advance_108 : decode cX5_advance 108 = .ok (.ifCond .eq 154, 3) := by decide +kernel
theorem dX5_advance_111 : decode cX5_advance 111 = .ok (.aload_n 0, 1) := by decide +kernel
theorem dX5_advance_112 : decode cX5_advance 112 = .ok (.dup, 1) := by decide +kernel
theorem dX5_advance_113 : decode cX5_advance 113 = .ok (.getfield 26, 3) := by decide +kernel
theorem dX5_advance_116 : decode cX5_advance 116 = .ok (.iconst 1, 1) := by decide +kernel
theorem dX5_advance_117 : decode cX5_advance 117 = .ok (.iadd, 1) := by decide +kernel
theorem dX5_advance_118 : decode cX5_advance 118 = .ok (.putfield 26, 3) := by decide +kernel
theorem dX5_advance_121 : decode cX5_advance 121 = .ok (.goto (-36), 3) := by decide +kernel
theorem dX5_advance_124 : decode cX5_advance 124 = .ok (.aload_n 0, 1) := by decide +kernel
theorem dX5_advance_125 : decode cX5_advance 125 = .ok (.getfield 22, 3) := by decide +kernel
theorem dX5_advance_128 : decode cX5_advance 128 = .ok (.aload_n 0, 1) := by decide +kernel
theorem dX5_advance_129 : decode cX5_advance 129 = .ok (.getfield 26, 3) := by decide +kernel
theorem dX5_advance_132 : decode cX5_advance 132 = .ok (.baload, 1) := by decide +kernel
theorem dX5_advance_133 : decode cX5_advance 133 = .ok (.invokestatic 97, 3) := by decide +kernel
theorem dX5_advance_136 : decode cX5_advance 136 = .ok (.ifCond .eq 93, 3) := by decide +kernel
theorem dX5_advance_139 : decode cX5_advance 139 = .ok (.aload_n 0, 1) := by decide +kernel
theorem dX5_advance_140 : decode cX5_advance 140 = .ok (.iconst 2, 1) := by decide +kernel
theorem dX5_advance_141 : decode cX5_advance 141 = .ok (.putfield 29, 3) := by decide +kernel
theorem dX5_advance_144 : decode cX5_advance 144 = .ok (.aload_n 0, 1) := by decide +kernel
theorem dX5_advance_145 : decode cX5_advance 145 = .ok (.iconst 0, 1) := by decide +kernel
theorem dX5_advance_146 : decode cX5_advance 146 = .ok (.putfield 35, 3) := by decide +kernel
theorem dX5_advance_149 : decode cX5_advance 149 = .ok (.aload_n 0, 1) := by decide +kernel
theorem dX5_advance_150 : decode cX5_advance 150 = .ok (.getfield 26, 3) := by decide +kernel
theorem dX5_advance_153 : decode cX5_advance 153 = .ok (.aload_n 0, 1) := by decide +kernel
theorem dX5_advance_154 : decode cX5_advance 154 = .ok (.getfield 18, 3) := by decide +kernel
theorem dX5_advance_157 : decode cX5_advance 157 = .ok (.if_icmp .ge 105, 3) := by decide +kernel
theorem dX5_advance_160 : decode cX5_advance 160 = .ok (.aload_n 0, 1) := by decide +kernel
theorem dX5_advance_161 : decode cX5_advance 161 = .ok (.getfield 22, 3) := by decide +kernel
theorem dX5_advance_164 : decode cX5_advance 164 = .ok (.aload_n 0, 1) := by decide +kernel
theorem dX5_advance_165 : decode cX5_advance 165 = .ok (.getfield 26, 3) := by decide +kernel
theorem dX5_advance_168 : decode cX5_advance 168 = .ok (.baload, 1) := by decide +kernel
theorem dX5_advance_169 : decode cX5_advance 169 = .ok (.invokestatic 97, 3) := by decide +kernel
theorem dX5_advance_172 : decode cX5_advance 172 = .ok (.ifCond .eq 90, 3) := by decide +kernel
theorem dX5_advance_175 : decode cX5_advance 175 = .ok (.aload_n 0, 1) := by decide +kernel
theorem dX5_advance_176 : decode cX5_advance 176 = .ok (.aload_n 0, 1) := by decide +kernel
theorem dX5_advance_177 : decode cX5_advance 177 = .ok (.getfield 26, 3) := by decide +kernel
theorem dX5_advance_180 : decode cX5_advance 180 = .ok (.aload_n 0, 1) := by decide +kernel
theorem dX5_advance_181 : decode cX5_advance 181 = .ok (.getfield 32, 3) := by decide +kernel
theorem dX5_advance_184 : decode cX5_advance 184 = .ok (.isub, 1) := by decide +kernel
theorem dX5_advance_185 : decode cX5_advance 185 = .ok (.iconst 2, 1) := by decide +kernel
theorem dX5_advance_186 : decode cX5_advance 186 = .ok (.if_icmp .ge 26, 3) := by decide +kernel
theorem dX5_advance_189 : decode cX5_advance 189 = .ok (.bipush 10, 2) := by decide +kernel
theorem dX5_advance_191 : decode cX5_advance 191 = .ok (.aload_n 0, 1) := by decide +kernel
theorem dX5_advance_192 : decode cX5_advance 192 = .ok (.getfield 35, 3) := by decide +kernel
theorem dX5_advance_195 : decode cX5_advance 195 = .ok (.imul, 1) := by decide +kernel
theorem dX5_advance_196 : decode cX5_advance 196 = .ok (.aload_n 0, 1) := by decide +kernel
theorem dX5_advance_197 : decode cX5_advance 197 = .ok (.getfield 22, 3) := by decide +kernel
theorem dX5_advance_200 : decode cX5_advance 200 = .ok (.aload_n 0, 1) := by decide +kernel
theorem dX5_advance_201 : decode cX5_advance 201 = .ok (.getfield 26, 3) := by decide +kernel
theorem dX5_advance_204 : decode cX5_advance 204 = .ok (.baload, 1) := by decide +kernel
theorem dX5_advance_205 : decode cX5_advance 205 = .ok (.iadd, 1) := by decide +kernel
theorem dX5_advance_206 : decode cX5_advance 206 = .ok (.bipush 48, 2) := by decide +kernel
theorem dX5_advance_208 : decode cX5_advance 208 = .ok (.isub, 1) := by decide +kernel
theorem dX5_advance_209 : decode cX5_advance 209 = .ok (.goto 4, 3) := by decide +kernel
theorem dX5_advance_212 : decode cX5_advance 212 = .ok (.iconst (-1), 1) := by decide +kernel
theorem dX5_advance_213 : decode cX5_advance 213 = .ok (.putfield 35, 3) := by decide +kernel
theorem dX5_advance_216 : decode cX5_advance 216 = .ok (.aload_n 0, 1) := by decide +kernel
theorem dX5_advance_217 : decode cX5_advance 217 = .ok (.dup, 1) := by decide +kernel
theorem dX5_advance_218 : decode cX5_advance 218 = .ok (.getfield 26, 3) := by decide +kernel
theorem dX5_advance_221 : decode cX5_advance 221 = .ok (.iconst 1, 1) := by decide +kernel
theorem dX5_advance_222 : decode cX5_advance 222 = .ok (.iadd, 1) := by decide +kernel
theorem dX5_advance_223 : decode cX5_advance 223 = .ok (.putfield 26, 3) := by decide +kernel
theorem dX5_advance_226 : decode cX5_advance 226 = .ok (.goto (-77), 3) := by decide +kernel
theorem dX5_advance_229 : decode cX5_advance 229 = .ok (.aload_n 0, 1) := by decide +kernel
theorem dX5_advance_230 : decode cX5_advance 230 = .ok (.aload_n 0, 1) := by decide +kernel
theorem dX5_advance_231 : decode cX5_advance 231 = .ok (.getfield 22, 3) := by decide +kernel
theorem dX5_advance_234 : decode cX5_advance 234 = .ok (.aload_n 0, 1) := by decide +kernel
theorem dX5_advance_235 : decode cX5_advance 235 = .ok (.getfield 26, 3) := by decide +kernel
theorem dX5_advance_238 : decode cX5_advance 238 = .ok (.baload, 1) := by decide +kernel
theorem dX5_advance_239 : decode cX5_advance 239 = .ok (.bipush 59, 2) := by decide +kernel
theorem dX5_advance_241 : decode cX5_advance 241 = .ok (.if_icmp .ne 7, 3) := by decide +kernel
theorem dX5_advance_244 : decode cX5_advance 244 = .ok (.iconst 3, 1) := by decide +kernel
theorem dX5_advance_245 : decode cX5_advance 245 = .ok (.goto 4, 3) := by decide +kernel
theorem dX5_advance_248 : decode cX5_advance 248 = .ok (.iconst 4, 1) := by decide +kernel
theorem dX5_advance_249 : decode cX5_advance 249 = .ok (.putfield 29, 3) := by decide +kernel
theorem dX5_advance_252 : decode cX5_advance 252 = .ok (.aload_n 0, 1) := by decide +kernel
theorem dX5_advance_253 : decode cX5_advance 253 = .ok (.dup, 1) := by decide +kernel
theorem dX5_advance_254 : decode cX5_advance 254 = .ok (.getfield 26, 3) := by decide +kernel
theorem dX5_advance_257 : decode cX5_advance 257 = .ok (.iconst 1, 1) := by decide +kernel
theorem dX5_advance_258 : decode cX5_advance 258 = .ok (.iadd, 1) := by decide +kernel
theorem dX5_advance_259 : decode cX5_advance 259 = .ok (.putfield 26, 3) := by decide +kernel
theorem dX5_advance_262 : decode cX5_advance 262 = .ok (.return_, 1) := by decide +kernel
theorem dX5_spells_0 : decode cX5_spells 0 = .ok (.aload_n 0, 1) := by decide +kernel
theorem dX5_spells_1 : decode cX5_spells 1 = .ok (.getfield 26, 3) := by decide +kernel
theorem dX5_spells_4 : decode cX5_spells 4 = .ok (.aload_n 0, 1) := by decide +kernel
theorem dX5_spells_5 : decode cX5_spells 5 = .ok (.getfield 32, 3) := by decide +kernel
theorem dX5_spells_8 : decode cX5_spells 8 = .ok (.isub, 1) := by decide +kernel
theorem dX5_spells_9 : decode cX5_spells 9 = .ok (.aload_n 1, 1) := by decide +kernel
theorem dX5_spells_10 : decode cX5_spells 10 = .ok (.invokevirtual 100, 3) := by decide +kernel
theorem dX5_spells_13 : decode cX5_spells 13 = .ok (.if_icmp .eq 5, 3) := by decide +kernel
theorem dX5_spells_16 : decode cX5_spells 16 = .ok (.iconst 0, 1) := by decide +kernel
theorem dX5_spells_17 : decode cX5_spells 17 = .ok (.ireturn, 1) := by decide +kernel
theorem dX5_spells_18 : decode cX5_spells 18 = .ok (.iconst 0, 1) := by decide +kernel
theorem dX5_spells_19 : decode cX5_spells 19 = .ok (.istore_n 2, 1) := by decide +kernel
theorem dX5_spells_20 : decode cX5_spells 20 = .ok (.iload_n 2, 1) := by decide +kernel
theorem dX5_spells_21 : decode cX5_spells 21 = .ok (.aload_n 1, 1) := by decide +kernel
theorem dX5_spells_22 : decode cX5_spells 22 = .ok (.invokevirtual 100, 3) := by decide +kernel
theorem dX5_spells_25 : decode cX5_spells 25 = .ok (.if_icmp .ge 30, 3) := by decide +kernel
theorem dX5_spells_28 : decode cX5_spells 28 = .ok (.aload_n 0, 1) := by decide +kernel
theorem dX5_spells_29 : decode cX5_spells 29 = .ok (.getfield 22, 3) := by decide +kernel
theorem dX5_spells_32 : decode cX5_spells 32 = .ok (.aload_n 0, 1) := by decide +kernel
theorem dX5_spells_33 : decode cX5_spells 33 = .ok (.getfield 32, 3) := by decide +kernel
theorem dX5_spells_36 : decode cX5_spells 36 = .ok (.iload_n 2, 1) := by decide +kernel
theorem dX5_spells_37 : decode cX5_spells 37 = .ok (.iadd, 1) := by decide +kernel
theorem dX5_spells_38 : decode cX5_spells 38 = .ok (.baload, 1) := by decide +kernel
theorem dX5_spells_39 : decode cX5_spells 39 = .ok (.aload_n 1, 1) := by decide +kernel
theorem dX5_spells_40 : decode cX5_spells 40 = .ok (.iload_n 2, 1) := by decide +kernel
theorem dX5_spells_41 : decode cX5_spells 41 = .ok (.invokevirtual 105, 3) := by decide +kernel
theorem dX5_spells_44 : decode cX5_spells 44 = .ok (.if_icmp .eq 5, 3) := by decide +kernel
theorem dX5_spells_47 : decode cX5_spells 47 = .ok (.iconst 0, 1) := by decide +kernel
theorem dX5_spells_48 : decode cX5_spells 48 = .ok (.ireturn, 1) := by decide +kernel
theorem dX5_spells_49 : decode cX5_spells 49 = .ok (.iinc 2 1, 3) := by decide +kernel
theorem dX5_spells_52 : decode cX5_spells 52 = .ok (.goto (-32), 3) := by decide +kernel
theorem dX5_spells_55 : decode cX5_spells 55 = .ok (.iconst 1, 1) := by decide +kernel
theorem dX5_spells_56 : decode cX5_spells 56 = .ok (.ireturn, 1) := by decide +kernel
theorem dX5_isLetter_0 : decode cX5_isLetter 0 = .ok (.iload_n 0, 1) := by decide +kernel
theorem dX5_isLetter_1 : decode cX5_isLetter 1 = .ok (.bipush 97, 2) := by decide +kernel
theorem dX5_isLetter_3 : decode cX5_isLetter 3 = .ok (.if_icmp .lt 13, 3) := by decide +kernel
theorem dX5_isLetter_6 : decode cX5_isLetter 6 = .ok (.iload_n 0, 1) := by decide +kernel
theorem dX5_isLetter_7 : decode cX5_isLetter 7 = .ok (.bipush 122, 2) := by decide +kernel
theorem dX5_isLetter_9 : decode cX5_isLetter 9 = .ok (.if_icmp .gt 7, 3) := by decide +kernel
theorem dX5_isLetter_12 : decode cX5_isLetter 12 = .ok (.iconst 1, 1) := by decide +kernel
theorem dX5_isLetter_13 : decode cX5_isLetter 13 = .ok (.goto 4, 3) := by decide +kernel
theorem dX5_isLetter_16 : decode cX5_isLetter 16 = .ok (.iconst 0, 1) := by decide +kernel
theorem dX5_isLetter_17 : decode cX5_isLetter 17 = .ok (.ireturn, 1) := by decide +kernel
theorem dX5_isFigure_0 : decode cX5_isFigure 0 = .ok (.iload_n 0, 1) := by decide +kernel
theorem dX5_isFigure_1 : decode cX5_isFigure 1 = .ok (.bipush 48, 2) := by decide +kernel
theorem dX5_isFigure_3 : decode cX5_isFigure 3 = .ok (.if_icmp .lt 13, 3) := by decide +kernel
theorem dX5_isFigure_6 : decode cX5_isFigure 6 = .ok (.iload_n 0, 1) := by decide +kernel
theorem dX5_isFigure_7 : decode cX5_isFigure 7 = .ok (.bipush 57, 2) := by decide +kernel
theorem dX5_isFigure_9 : decode cX5_isFigure 9 = .ok (.if_icmp .gt 7, 3) := by decide +kernel
theorem dX5_isFigure_12 : decode cX5_isFigure 12 = .ok (.iconst 1, 1) := by decide +kernel
theorem dX5_isFigure_13 : decode cX5_isFigure 13 = .ok (.goto 4, 3) := by decide +kernel
theorem dX5_isFigure_16 : decode cX5_isFigure 16 = .ok (.iconst 0, 1) := by decide +kernel
theorem dX5_isFigure_17 : decode cX5_isFigure 17 = .ok (.ireturn, 1) := by decide +kernel
theorem dX6_init_0 : decode cX6_init 0 = .ok (.aload_n 0, 1) := by decide +kernel
theorem dX6_init_1 : decode cX6_init 1 = .ok (.invokespecial 3, 3) := by decide +kernel
theorem dX6_init_4 : decode cX6_init 4 = .ok (.aload_n 0, 1) := by decide +kernel
theorem dX6_init_5 : decode cX6_init 5 = .ok (.bipush 6, 2) := by decide +kernel
theorem dX6_init_7 : decode cX6_init 7 = .ok (.newarray .int, 2) := by decide +kernel
theorem dX6_init_9 : decode cX6_init 9 = .ok (.putfield 9, 3) := by decide +kernel
theorem dX6_init_12 : decode cX6_init 12 = .ok (.aload_n 0, 1) := by decide +kernel
theorem dX6_init_13 : decode cX6_init 13 = .ok (.sipush 128, 3) := by decide +kernel
theorem dX6_init_16 : decode cX6_init 16 = .ok (.newarray .boolean, 2) := by decide +kernel
theorem dX6_init_18 : decode cX6_init 18 = .ok (.putfield 15, 3) := by decide +kernel
theorem dX6_init_21 : decode cX6_init 21 = .ok (.aload_n 0, 1) := by decide +kernel
theorem dX6_init_22 : decode cX6_init 22 = .ok (.iconst 0, 1) := by decide +kernel
theorem dX6_init_23 : decode cX6_init 23 = .ok (.putfield 19, 3) := by decide +kernel
theorem dX6_init_26 : decode cX6_init 26 = .ok (.aload_n 0, 1) := by decide +kernel
theorem dX6_init_27 : decode cX6_init 27 = .ok (.sipush 128, 3) := by decide +kernel
theorem dX6_init_30 : decode cX6_init 30 = .ok (.newarray .int, 2) := by decide +kernel
theorem dX6_init_32 : decode cX6_init 32 = .ok (.putfield 23, 3) := by decide +kernel
theorem dX6_init_35 : decode cX6_init 35 = .ok (.aload_n 0, 1) := by decide +kernel
theorem dX6_init_36 : decode cX6_init 36 = .ok (.bipush 24, 2) := by decide +kernel
theorem dX6_init_38 : decode cX6_init 38 = .ok (.newarray .int, 2) := by decide +kernel
theorem dX6_init_40 : decode cX6_init 40 = .ok (.putfield 26, 3) := by decide +kernel
theorem dX6_init_43 : decode cX6_init 43 = .ok (.aload_n 0, 1) := by decide +kernel
theorem dX6_init_44 : decode cX6_init 44 = .ok (.aload_n 1, 1) := by decide +kernel
theorem dX6_init_45 : decode cX6_init 45 = .ok (.putfield 29, 3) := by decide +kernel
theorem dX6_init_48 : decode cX6_init 48 = .ok (.aload_n 0, 1) := by decide +kernel
theorem dX6_init_49 : decode cX6_init 49 = .ok (.aload_n 2, 1) := by decide +kernel
theorem dX6_init_50 : decode cX6_init 50 = .ok (.putfield 33, 3) := by decide +kernel
theorem dX6_init_53 : decode cX6_init 53 = .ok (.return_, 1) := by decide +kernel
theorem dX6_howManySets_0 : decode cX6_howManySets 0 = .ok (.iconst 1, 1) := by decide +kernel
theorem dX6_howManySets_1 : decode cX6_howManySets 1 = .ok (.aload_n 0, 1) := by decide +kernel
theorem dX6_howManySets_2 : decode cX6_howManySets 2 = .ok (.getfield 29, 3) := by decide +kernel
theorem dX6_howManySets_5 : decode cX6_howManySets 5 = .ok (.getfield 37, 3) := by decide +kernel
theorem dX6_howManySets_8 : decode cX6_howManySets 8 = .ok (.ishl, 1) := by decide +kernel
theorem dX6_howManySets_9 : decode cX6_howManySets 9 = .ok (.ireturn, 1) := by decide +kernel
theorem dX6_layWanted_0 : decode cX6_layWanted 0 = .ok (.iconst 0, 1) := by decide +kernel
theorem dX6_layWanted_1 : decode cX6_layWanted 1 = .ok (.istore_n 3, 1) := by decide +kernel
theorem dX6_layWanted_2 : decode cX6_layWanted 2 = .ok (.iload_n 3, 1) := by decide +kernel
theorem dX6_layWanted_3 : decode cX6_layWanted 3 = .ok (.aload_n 0, 1) := by decide +kernel
theorem dX6_layWanted_4 : decode cX6_layWanted 4 = .ok (.getfield 29, 3) := by decide +kernel
theorem dX6_layWanted_7 : decode cX6_layWanted 7 = .ok (.getfield 42, 3) := by decide +kernel
theorem dX6_layWanted_10 : decode cX6_layWanted 10 = .ok (.if_icmp .ge 33, 3) := by decide +kernel
theorem dX6_layWanted_13 : decode cX6_layWanted 13 = .ok (.aload_n 0, 1) := by decide +kernel
theorem dX6_layWanted_14 : decode cX6_layWanted 14 = .ok (.getfield 9, 3) := by decide +kernel
theorem dX6_layWanted_17 : decode cX6_layWanted 17 = .ok (.iload_n 3, 1) := by decide +kernel
theorem dX6_layWanted_18 : decode cX6_layWanted 18 = .ok (.aload_n 0, 1) := by decide +kernel
theorem dX6_layWanted_19 : decode cX6_layWanted 19 = .ok (.getfield 33, 3) := by decide +kernel
theorem dX6_layWanted_22 : decode cX6_layWanted 22 = .ok (.aload_n 0, 1) := by decide +kernel
theorem dX6_layWanted_23 : decode cX6_layWanted 23 = .ok (.getfield 29, 3) := by decide +kernel
theorem dX6_layWanted_26 : decode cX6_layWanted 26 = .ok (.getfield 45, 3) := by decide +kernel
theorem dX6_layWanted_29 : decode cX6_layWanted 29 = .ok (.iload_n 3, 1) := by decide +kernel
theorem dX6_layWanted_30 : decode cX6_layWanted 30 = .ok (.iaload, 1) := by decide +kernel
theorem dX6_layWanted_31 : decode cX6_layWanted 31 = .ok (.iload_n 1, 1) := by decide +kernel
theorem dX6_layWanted_32 : decode cX6_layWanted 32 = .ok (.iload_n 2, 1) := by decide +kernel
theorem dX6_layWanted_33 : decode cX6_layWanted 33 = .ok (.invokevirtual 48, 3) := by decide +kernel
theorem dX6_layWanted_36 : decode cX6_layWanted 36 = .ok (.iastore, 1) := by decide +kernel
theorem dX6_layWanted_37 : decode cX6_layWanted 37 = .ok (.iinc 3 1, 3) := by decide +kernel
theorem dX6_layWanted_40 : decode cX6_layWanted 40 = .ok (.goto (-38), 3) := by decide +kernel
theorem dX6_layWanted_43 : decode cX6_layWanted 43 = .ok (.return_, 1) := by decide +kernel
theorem dX6_lightsWanted_0 : decode cX6_lightsWanted 0 = .ok (.iconst 0, 1) := by decide +kernel
theorem dX6_lightsWanted_1 : decode cX6_lightsWanted 1 = .ok (.istore_n 2, 1) := by decide +kernel
theorem dX6_lightsWanted_2 : decode cX6_lightsWanted 2 = .ok (.iload_n 2, 1) := by decide +kernel
theorem dX6_lightsWanted_3 : decode cX6_lightsWanted 3 = .ok (.aload_n 0, 1) := by decide +kernel
theorem dX6_lightsWanted_4 : decode cX6_lightsWanted 4 = .ok (.getfield 29, 3) := by decide +kernel
theorem dX6_lightsWanted_7 : decode cX6_lightsWanted 7 = .ok (.getfield 42, 3) := by decide +kernel
theorem dX6_lightsWanted_10 : decode cX6_lightsWanted 10 = .ok (.if_icmp .ge 22, 3) := by decide +kernel
theorem dX6_lightsWanted_13 : decode cX6_lightsWanted 13 = .ok (.iload_n 1, 1) := by decide +kernel
theorem dX6_lightsWanted_14 : decode cX6_lightsWanted 14 = .ok (.aload_n 0, 1) := by decide +kernel
theorem dX6_lightsWanted_15 : decode cX6_lightsWanted 15 = .ok (.getfield 9, 3) := by decide +kernel
theorem dX6_lightsWanted_18 : decode cX6_lightsWanted 18 = .ok (.iload_n 2, 1) := by decide +kernel
theorem dX6_lightsWanted_19 : decode cX6_lightsWanted 19 = .ok (.iaload, 1) := by decide +kernel
theorem dX6_lightsWanted_20 : decode cX6_lightsWanted 20 = .ok (.iand, 1) := by decide +kernel
theorem dX6_lightsWanted_21 : decode cX6_lightsWanted 21 = .ok (.ifCond .ne 5, 3) := by decide +kernel
theorem dX6_lightsWanted_24 : decode cX6_lightsWanted 24 = .ok (.iconst 0, 1) := by decide +kernel
theorem dX6_lightsWanted_25 : decode cX6_lightsWanted 25 = .ok (.ireturn, 1) := by decide +kernel
theorem dX6_lightsWanted_26 : decode cX6_lightsWanted 26 = .ok (.iinc 2 1, 3) := by decide +kernel
theorem dX6_lightsWanted_29 : decode cX6_lightsWanted 29 = .ok (.goto (-27), 3) := by decide +kernel
theorem dX6_lightsWanted_32 : decode cX6_lightsWanted 32 = .ok (.iconst 1, 1) := by decide +kernel
theorem dX6_lightsWanted_33 : decode cX6_lightsWanted 33 = .ok (.ireturn, 1) := by decide +kernel
theorem dX6_fewest_0 : decode cX6_fewest 0 = .ok (.iconst (-1), 1) := by decide +kernel
theorem dX6_fewest_1 : decode cX6_fewest 1 = .ok (.istore_n 1, 1) := by decide +kernel
theorem dX6_fewest_2 : decode cX6_fewest 2 = .ok (.iconst 0, 1) := by decide +kernel
theorem dX6_fewest_3 : decode cX6_fewest 3 = .ok (.istore_n 2, 1) := by decide +kernel
theorem dX6_fewest_4 : decode cX6_fewest 4 = .ok (.iload_n 2, 1) := by decide +kernel
theorem dX6_fewest_5 : decode cX6_fewest 5 = .ok (.aload_n 0, 1) := by decide +kernel
theorem dX6_fewest_6 : decode cX6_fewest 6 = .ok (.invokevirtual 54, 3) := by decide +kernel
theorem dX6_fewest_9 : decode cX6_fewest 9 = .ok (.if_icmp .ge 35, 3) := by decide +kernel
theorem dX6_fewest_12 : decode cX6_fewest 12 = .ok (.aload_n 0, 1) := by decide +kernel
theorem dX6_fewest_13 : decode cX6_fewest 13 = .ok (.iload_n 2, 1) := by decide +kernel
theorem dX6_fewest_14 : decode cX6_fewest 14 = .ok (.invokevirtual 58, 3) := by decide +kernel
theorem dX6_fewest_17 : decode cX6_fewest 17 = .ok (.ifCond .eq 21, 3) := by decide +kernel
theorem dX6_fewest_20 : decode cX6_fewest 20 = .ok (.iload_n 1, 1) := by decide +kernel
theorem dX6_fewest_21 : decode cX6_fewest 21 = .ok (.iconst (-1), 1) := by decide +kernel
theorem dX6_fewest_22 : decode cX6_fewest 22 = .ok (.if_icmp .eq 14, 3) := by decide +kernel
theorem dX6_fewest_25 : decode cX6_fewest 25 = .ok (.iload_n 2, 1) := by decide +kernel
theorem dX6_fewest_26 : decode cX6_fewest 26 = .ok (.invokestatic 62, 3) := by decide +kernel
theorem dX6_fewest_29 : decode cX6_fewest 29 = .ok (.iload_n 1, 1) := by decide +kernel
theorem dX6_fewest_30 : decode cX6_fewest 30 = .ok (.invokestatic 62, 3) := by decide +kernel
theorem dX6_fewest_33 : decode cX6_fewest 33 = .ok (.if_icmp .ge 5, 3) := by decide +kernel
theorem dX6_fewest_36 : decode cX6_fewest 36 = .ok (.iload_n 2, 1) := by decide +kernel
theorem dX6_fewest_37 : decode cX6_fewest 37 = .ok (.istore_n 1, 1) := by decide +kernel
theorem dX6_fewest_38 : decode cX6_fewest 38 = .ok (.iinc 2 1, 3) := by decide +kernel
theorem dX6_fewest_41 : decode cX6_fewest 41 = .ok (.goto (-37), 3) := by decide +kernel
theorem dX6_fewest_44 : decode cX6_fewest 44 = .ok (.iload_n 1, 1) := by decide +kernel
theorem dX6_fewest_45 : decode cX6_fewest 45 = .ok (.ireturn, 1) := by decide +kernel
theorem dX6_leastTallow_0 : decode cX6_leastTallow 0 = .ok (.iconst (-1), 1) := by decide +kernel
theorem dX6_leastTallow_1 : decode cX6_leastTallow 1 = .ok (.istore_n 1, 1) := by decide +kernel
theorem dX6_leastTallow_2 : decode cX6_leastTallow 2 = .ok (.iconst 0, 1) := by decide +kernel
theorem dX6_leastTallow_3 : decode cX6_leastTallow 3 = .ok (.istore_n 2, 1) := by decide +kernel
theorem dX6_leastTallow_4 : decode cX6_leastTallow 4 = .ok (.iload_n 2, 1) := by decide +kernel
theorem dX6_leastTallow_5 : decode cX6_leastTallow 5 = .ok (.aload_n 0, 1) := by decide +kernel
theorem dX6_leastTallow_6 : decode cX6_leastTallow 6 = .ok (.invokevirtual 54, 3) := by decide +kernel
theorem dX6_leastTallow_9 : decode cX6_leastTallow 9 = .ok (.if_icmp .ge 37, 3) := by decide +kernel
theorem dX6_leastTallow_12 : decode cX6_leastTallow 12 = .ok (.aload_n 0, 1) := by decide +kernel
theorem dX6_leastTallow_13 : decode cX6_leastTallow 13 = .ok (.iload_n 2, 1) := by decide +kernel
theorem dX6_leastTallow_14 : decode cX6_leastTallow 14 = .ok (.invokevirtual 58, 3) := by decide +kernel
theorem dX6_leastTallow_17 : decode cX6_leastTallow 17 = .ok (.ifCond .eq 23, 3) := by decide +kernel
theorem dX6_leastTallow_20 : decode cX6_leastTallow 20 = .ok (.iload_n 1, 1) := by decide +kernel
theorem dX6_leastTallow_21 : decode cX6_leastTallow 21 = .ok (.iconst (-1), 1) := by decide +kernel
theorem dX6_leastTallow_22 : decode cX6_leastTallow 22 = .ok (.if_icmp .eq 12, 3) := by decide +kernel
theorem dX6_leastTallow_25 : decode cX6_leastTallow 25 = .ok (.aload_n 0, 1) := by decide +kernel
theorem dX6_leastTallow_26 : decode cX6_leastTallow 26 = .ok (.iload_n 2, 1) := by decide +kernel
theorem dX6_leastTallow_27 : decode cX6_leastTallow 27 = .ok (.invokevirtual 68, 3) := by decide +kernel
theorem dX6_leastTallow_30 : decode cX6_leastTallow 30 = .ok (.iload_n 1, 1) := by decide +kernel
theorem dX6_leastTallow_31 : decode cX6_leastTallow 31 = .ok (.if_icmp .ge 9, 3) := by decide +kernel
theorem dX6_leastTallow_34 : decode cX6_leastTallow 34 = .ok (.aload_n 0, 1) := by decide +kernel
theorem dX6_leastTallow_35 : decode cX6_leastTallow 35 = .ok (.iload_n 2, 1) := by decide +kernel
theorem dX6_leastTallow_36 : decode cX6_leastTallow 36 = .ok (.invokevirtual 68, 3) := by decide +kernel
theorem dX6_leastTallow_39 : decode cX6_leastTallow 39 = .ok (.istore_n 1, 1) := by decide +kernel
theorem dX6_leastTallow_40 : decode cX6_leastTallow 40 = .ok (.iinc 2 1, 3) := by decide +kernel
theorem dX6_leastTallow_43 : decode cX6_leastTallow 43 = .ok (.goto (-39), 3) := by decide +kernel
theorem dX6_leastTallow_46 : decode cX6_leastTallow 46 = .ok (.iload_n 1, 1) := by decide +kernel
theorem dX6_leastTallow_47 : decode cX6_leastTallow 47 = .ok (.ireturn, 1) := by decide +kernel
theorem dX6_tallowOf_0 : decode cX6_tallowOf 0 = .ok (.iconst 0, 1) := by decide +kernel
theorem dX6_tallowOf_1 : decode cX6_tallowOf 1 = .ok (.istore_n 2, 1) := by decide +kernel
theorem dX6_tallowOf_2 : decode cX6_tallowOf 2 = .ok (.iconst 0, 1) := by decide +kernel
theorem dX6_tallowOf_3 : decode cX6_tallowOf 3 = .ok (.istore_n 3, 1) := by decide +kernel
theorem dX6_tallowOf_4 : decode cX6_tallowOf 4 = .ok (.iload_n 3, 1) := by decide +kernel
theorem dX6_tallowOf_5 : decode cX6_tallowOf 5 = .ok (.aload_n 0, 1) := by decide +kernel
theorem dX6_tallowOf_6 : decode cX6_tallowOf 6 = .ok (.getfield 29, 3) := by decide +kernel
theorem dX6_tallowOf_9 : decode cX6_tallowOf 9 = .ok (.getfield 37, 3) := by decide +kernel
theorem dX6_tallowOf_12 : decode cX6_tallowOf 12 = .ok (.if_icmp .ge 34, 3) := by decide +kernel
theorem dX6_tallowOf_15 : decode cX6_tallowOf 15 = .ok (.iload_n 2, 1) := by decide +kernel
theorem dX6_tallowOf_16 : decode cX6_tallowOf 16 = .ok (.iload_n 1, 1) := by decide +kernel
theorem dX6_tallowOf_17 : decode cX6_tallowOf 17 = .ok (.iload_n 3, 1) := by decide +kernel
theorem dX6_tallowOf_18 : decode cX6_tallowOf 18 = .ok (.ishr, 1) := by decide +kernel
theorem dX6_tallowOf_19 : decode cX6_tallowOf 19 = .ok (.iconst 1, 1) := by decide +kernel
theorem dX6_tallowOf_20 : decode cX6_tallowOf 20 = .ok (.iand, 1) := by decide +kernel
theorem dX6_tallowOf_21 : decode cX6_tallowOf 21 = .ok (.iconst 1, 1) := by decide +kernel
theorem dX6_tallowOf_22 : decode cX6_tallowOf 22 = .ok (.if_icmp .ne 15, 3) := by decide +kernel
theorem dX6_tallowOf_25 : decode cX6_tallowOf 25 = .ok (.aload_n 0, 1) := by decide +kernel
theorem dX6_tallowOf_26 : decode cX6_tallowOf 26 = .ok (.getfield 29, 3) := by decide +kernel
theorem dX6_tallowOf_29 : decode cX6_tallowOf 29 = .ok (.getfield 71, 3) := by decide +kernel
theorem dX6_tallowOf_32 : decode cX6_tallowOf 32 = .ok (.iload_n 3, 1) := by decide +kernel
theorem dX6_tallowOf_33 : decode cX6_tallowOf 33 = .ok (.iaload, 1) := by decide +kernel
theorem dX6_tallowOf_34 : decode cX6_tallowOf 34 = .ok (.goto 4, 3) := by decide +kernel
theorem dX6_tallowOf_37 : decode cX6_tallowOf 37 = .ok (.iconst 0, 1) := by decide +kernel
theorem dX6_tallowOf_38 : decode cX6_tallowOf 38 = .ok (.iadd, 1) := by decide +kernel
theorem dX6_tallowOf_39 : decode cX6_tallowOf 39 = .ok (.istore_n 2, 1) := by decide +kernel
theorem dX6_tallowOf_40 : decode cX6_tallowOf 40 = .ok (.iinc 3 1, 3) := by decide +kernel
theorem dX6_tallowOf_43 : decode cX6_tallowOf 43 = .ok (.goto (-39), 3) := by decide +kernel
theorem dX6_tallowOf_46 : decode cX6_tallowOf 46 = .ok (.iload_n 2, 1) := by decide +kernel
theorem dX6_tallowOf_47 : decode cX6_tallowOf 47 = .ok (.ireturn, 1) := by decide +kernel
theorem dX6_layFitting_0 : decode cX6_layFitting 0 = .ok (.iconst 0, 1) := by decide +kernel
theorem dX6_layFitting_1 : decode cX6_layFitting 1 = .ok (.istore_n 1, 1) := by decide +kernel
theorem dX6_layFitting_2 : decode cX6_layFitting 2 = .ok (.iload_n 1, 1) := by decide +kernel
theorem dX6_layFitting_3 : decode cX6_layFitting 3 = .ok (.aload_n 0, 1) := by decide +kernel
theorem dX6_layFitting_4 : decode cX6_layFitting 4 = .ok (.invokevirtual 54, 3) := by decide +kernel
theorem dX6_layFitting_7 : decode cX6_layFitting 7 = .ok (.if_icmp .ge 16, 3) := by decide +kernel
theorem dX6_layFitting_10 : decode cX6_layFitting 10 = .ok (.aload_n 0, 1) := by decide +kernel
theorem dX6_layFitting_11 : decode cX6_layFitting 11 = .ok (.getfield 15, 3) := by decide +kernel
theorem dX6_layFitting_14 : decode cX6_layFitting 14 = .ok (.iload_n 1, 1) := by decide +kernel
theorem dX6_layFitting_15 : decode cX6_layFitting 15 = .ok (.iconst 1, 1) := by decide +kernel
theorem dX6_layFitting_16 : decode cX6_layFitting 16 = .ok (.bastore, 1) := by decide +kernel
theorem dX6_layFitting_17 : decode cX6_layFitting 17 = .ok (.iinc 1 1, 3) := by decide +kernel
theorem dX6_layFitting_20 : decode cX6_layFitting 20 = .ok (.goto (-18), 3) := by decide +kernel
theorem dX6_layFitting_23 : decode cX6_layFitting 23 = .ok (.iconst 0, 1) := by decide +kernel
theorem dX6_layFitting_24 : decode cX6_layFitting 24 = .ok (.istore_n 1, 1) := by decide +kernel
theorem dX6_layFitting_25 : decode cX6_layFitting 25 = .ok (.iload_n 1, 1) := by decide +kernel
theorem dX6_layFitting_26 : decode cX6_layFitting 26 = .ok (.aload_n 0, 1) := by decide +kernel
theorem dX6_layFitting_27 : decode cX6_layFitting 27 = .ok (.getfield 29, 3) := by decide +kernel
theorem dX6_layFitting_30 : decode cX6_layFitting 30 = .ok (.getfield 74, 3) := by decide +kernel
theorem dX6_layFitting_33 : decode cX6_layFitting 33 = .ok (.if_icmp .ge 147, 3) := by decide +kernel
theorem dX6_layFitting_36 : decode cX6_layFitting 36 = .ok (.aload_n 0, 1) := by decide +kernel
theorem dX6_layFitting_37 : decode cX6_layFitting 37 = .ok (.getfield 29, 3) := by decide +kernel
theorem dX6_layFitting_40 : decode cX6_layFitting 40 = .ok (.getfield 77, 3) := by decide +kernel
theorem dX6_layFitting_43 : decode cX6_layFitting 43 = .ok (.iload_n 1, 1) := by decide +kernel
theorem dX6_layFitting_44 : decode cX6_layFitting 44 = .ok (.iaload, 1) := by decide +kernel
theorem dX6_layFitting_45 : decode cX6_layFitting 45 = .ok (.istore_n 2, 1) := by decide +kernel
theorem dX6_layFitting_46 : decode cX6_layFitting 46 = .ok (.aload_n 0, 1) := by decide +kernel
theorem dX6_layFitting_47 : decode cX6_layFitting 47 = .ok (.getfield 33, 3) := by decide +kernel
theorem dX6_layFitting_50 : decode cX6_layFitting 50 = .ok (.aload_n 0, 1) := by decide +kernel
theorem dX6_layFitting_51 : decode cX6_layFitting 51 = .ok (.getfield 29, 3) := by decide +kernel
theorem dX6_layFitting_54 : decode cX6_layFitting 54 = .ok (.getfield 80, 3) := by decide +kernel
theorem dX6_layFitting_57 : decode cX6_layFitting 57 = .ok (.iload_n 1, 1) := by decide +kernel
theorem dX6_layFitting_58 : decode cX6_layFitting 58 = .ok (.iaload, 1) := by decide +kernel
theorem dX6_layFitting_59 : decode cX6_layFitting 59 = .ok (.aload_n 0, 1) := by decide +kernel
theorem dX6_layFitting_60 : decode cX6_layFitting 60 = .ok (.getfield 29, 3) := by decide +kernel
theorem dX6_layFitting_63 : decode cX6_layFitting 63 = .ok (.getfield 83, 3) := by decide +kernel
theorem dX6_layFitting_66 : decode cX6_layFitting 66 = .ok (.iload_n 1, 1) := by decide +kernel
theorem dX6_layFitting_67 : decode cX6_layFitting 67 = .ok (.iaload, 1) := by decide +kernel
theorem dX6_layFitting_68 : decode cX6_layFitting 68 = .ok (.iload_n 2, 1) := by decide +kernel
theorem dX6_layFitting_69 : decode cX6_layFitting 69 = .ok (.invokevirtual 48, 3) := by decide +kernel
theorem dX6_layFitting_72 : decode cX6_layFitting 72 = .ok (.istore_n 3, 1) := by decide +kernel
theorem dX6_layFitting_73 : decode cX6_layFitting 73 = .ok (.aload_n 0, 1) := by decide +kernel
theorem dX6_layFitting_74 : decode cX6_layFitting 74 = .ok (.getfield 33, 3) := by decide +kernel
theorem dX6_layFitting_77 : decode cX6_layFitting 77 = .ok (.aload_n 0, 1) := by decide +kernel
theorem dX6_layFitting_78 : decode cX6_layFitting 78 = .ok (.getfield 29, 3) := by decide +kernel
theorem dX6_layFitting_81 : decode cX6_layFitting 81 = .ok (.getfield 80, 3) := by decide +kernel
theorem dX6_layFitting_84 : decode cX6_layFitting 84 = .ok (.iload_n 1, 1) := by decide +kernel
theorem dX6_layFitting_85 : decode cX6_layFitting 85 = .ok (.iaload, 1) := by decide +kernel
theorem dX6_layFitting_86 : decode cX6_layFitting 86 = .ok (.aload_n 0, 1) := by decide +kernel
theorem dX6_layFitting_87 : decode cX6_layFitting 87 = .ok (.getfield 29, 3) := by decide +kernel
theorem dX6_layFitting_90 : decode cX6_layFitting 90 = .ok (.getfield 83, 3) := by decide +kernel
theorem dX6_layFitting_93 : decode cX6_layFitting 93 = .ok (.iload_n 1, 1) := by decide +kernel
theorem dX6_layFitting_94 : decode cX6_layFitting 94 = .ok (.iaload, 1) := by decide +kernel
theorem dX6_layFitting_95 : decode cX6_layFitting 95 = .ok (.iload_n 2, 1) := by decide +kernel
theorem dX6_layFitting_96 : decode cX6_layFitting 96 = .ok (.iconst 1, 1) := by decide +kernel
theorem dX6_layFitting_97 : decode cX6_layFitting 97 = .ok (.iadd, 1) := by decide +kernel
theorem dX6_layFitting_98 : decode cX6_layFitting 98 = .ok (.invokevirtual 48, 3) := by decide +kernel
theorem dX6_layFitting_101 : decode cX6_layFitting 101 = .ok (.istore 4, 2) := by decide +kernel
theorem dX6_layFitting_103 : decode cX6_layFitting 103 = .ok (.iconst 0, 1) := by decide +kernel
theorem dX6_layFitting_104 : decode cX6_layFitting 104 = .ok (.istore 5, 2) := by decide +kernel
theorem dX6_layFitting_106 : decode cX6_layFitting 106 = .ok (.iload 5, 2) := by decide +kernel
theorem dX6_layFitting_108 : decode cX6_layFitting 108 = .ok (.aload_n 0, 1) := by decide +kernel
theorem dX6_layFitting_109 : decode cX6_layFitting 109 = .ok (.invokevirtual 54, 3) := by decide +kernel
theorem dX6_layFitting_112 : decode cX6_layFitting 112 = .ok (.if_icmp .ge 62, 3) := by decide +kernel
theorem dX6_layFitting_115 : decode cX6_layFitting 115 = .ok (.iload_n 2, 1) := by decide +kernel
theorem dX6_layFitting_116 : decode cX6_layFitting 116 = .ok (.ifCond .eq 10, 3) := by decide +kernel
theorem dX6_layFitting_119 : decode cX6_layFitting 119 = .ok (.iload 5, 2) := by decide +kernel
theorem dX6_layFitting_121 : decode cX6_layFitting 121 = .ok (.iload_n 3, 1) := by decide +kernel
theorem dX6_layFitting_122 : decode cX6_layFitting 122 = .ok (.iand, 1) := by decide +kernel
theorem dX6_layFitting_123 : decode cX6_layFitting 123 = .ok (.ifCond .eq 7, 3) := by decide +kernel
theorem dX6_layFitting_126 : decode cX6_layFitting 126 = .ok (.iconst 1, 1) := by decide +kernel
theorem dX6_layFitting_127 : decode cX6_layFitting 127 = .ok (.goto 4, 3) := by decide +kernel
theorem dX6_layFitting_130 : decode cX6_layFitting 130 = .ok (.iconst 0, 1) := by decide +kernel
theorem dX6_layFitting_131 : decode cX6_layFitting 131 = .ok (.istore 6, 2) := by decide +kernel
theorem dX6_layFitting_133 : decode cX6_layFitting 133 = .ok (.aload_n 0, 1) := by decide +kernel
theorem dX6_layFitting_134 : decode cX6_layFitting 134 = .ok (.getfield 15, 3) := by decide +kernel
theorem dX6_layFitting_137 : decode cX6_layFitting 137 = .ok (.iload 5, 2) := by decide +kernel
theorem dX6_layFitting_139 : decode cX6_layFitting 139 = .ok (.aload_n 0, 1) := by decide +kernel
theorem dX6_layFitting_140 : decode cX6_layFitting 140 = .ok (.getfield 15, 3) := by decide +kernel
theorem dX6_layFitting_143 : decode cX6_layFitting 143 = .ok (.iload 5, 2) := by decide +kernel
theorem dX6_layFitting_145 : decode cX6_layFitting 145 = .ok (.baload, 1) := by decide +kernel
theorem dX6_layFitting_146 : decode cX6_layFitting 146 = .ok (.ifCond .eq 20, 3) := by decide +kernel
theorem dX6_layFitting_149 : decode cX6_layFitting 149 = .ok (.iload 6, 2) := by decide +kernel
theorem dX6_layFitting_151 : decode cX6_layFitting 151 = .ok (.ifCond .eq 15, 3) := by decide +kernel
theorem dX6_layFitting_154 : decode cX6_layFitting 154 = .ok (.iload 5, 2) := by decide +kernel
theorem dX6_layFitting_156 : decode cX6_layFitting 156 = .ok (.iload 4, 2) := by decide +kernel
theorem dX6_layFitting_158 : decode cX6_layFitting 158 = .ok (.iand, 1) := by decide +kernel
theorem dX6_layFitting_159 : decode cX6_layFitting 159 = .ok (.ifCond .ne 7, 3) := by decide +kernel
theorem dX6_layFitting_162 : decode cX6_layFitting 162 = .ok (.iconst 1, 1) := by decide +kernel
theorem dX6_layFitting_163 : decode cX6_layFitting 163 = .ok (.goto 4, 3) := by decide +kernel
theorem dX6_layFitting_166 : decode cX6_layFitting 166 = .ok (.iconst 0, 1) := by decide +kernel
theorem dX6_layFitting_167 : decode cX6_layFitting 167 = .ok (.bastore, 1) := by decide +kernel
theorem dX6_layFitting_168 : decode cX6_layFitting 168 = .ok (.iinc 5 1, 3) := by decide +kernel
theorem dX6_layFitting_171 : decode cX6_layFitting 171 = .ok (.goto (-65), 3) := by decide +kernel
theorem dX6_layFitting_174 : decode cX6_layFitting 174 = .ok (.iinc 1 1, 3) := by decide +kernel
theorem dX6_layFitting_177 : decode cX6_layFitting 177 = .ok (.goto (-152), 3) := by decide +kernel
theorem dX6_layFitting_180 : decode cX6_layFitting 180 = .ok (.aload_n 0, 1) := by decide +kernel
theorem dX6_layFitting_181 : decode cX6_layFitting 181 = .ok (.iconst 0, 1) := by decide +kernel
theorem dX6_layFitting_182 : decode cX6_layFitting 182 = .ok (.putfield 19, 3) := by decide +kernel
theorem dX6_layFitting_185 : decode cX6_layFitting 185 = .ok (.iconst 0, 1) := by decide +kernel
theorem dX6_layFitting_186 : decode cX6_layFitting 186 = .ok (.istore_n 1, 1) := by decide +kernel
theorem dX6_layFitting_187 : decode cX6_layFitting 187 = .ok (.iload_n 1, 1) := by decide +kernel
theorem dX6_layFitting_188 : decode cX6_layFitting 188 = .ok (.aload_n 0, 1) := by decide +kernel
theorem dX6_layFitting_189 : decode cX6_layFitting 189 = .ok (.invokevirtual 54, 3) := by decide +kernel
theorem dX6_layFitting_192 : decode cX6_layFitting 192 = .ok (.if_icmp .ge 32, 3) := by decide +kernel
theorem dX6_layFitting_195 : decode cX6_layFitting 195 = .ok (.aload_n 0, 1) := by decide +kernel
theorem dX6_layFitting_196 : decode cX6_layFitting 196 = .ok (.dup, 1) := by decide +kernel
theorem dX6_layFitting_197 : decode cX6_layFitting 197 = .ok (.getfield 19, 3) := by decide +kernel
theorem dX6_layFitting_200 : decode cX6_layFitting 200 = .ok (.aload_n 0, 1) := by decide +kernel
theorem dX6_layFitting_201 : decode cX6_layFitting 201 = .ok (.getfield 15, 3) := by decide +kernel
theorem dX6_layFitting_204 : decode cX6_layFitting 204 = .ok (.iload_n 1, 1) := by decide +kernel
theorem dX6_layFitting_205 : decode cX6_layFitting 205 = .ok (.baload, 1) := by decide +kernel
theorem dX6_layFitting_206 : decode cX6_layFitting 206 = .ok (.ifCond .eq 7, 3) := by decide +kernel
theorem dX6_layFitting_209 : decode cX6_layFitting 209 = .ok (.iconst 1, 1) := by decide +kernel
theorem dX6_layFitting_210 : decode cX6_layFitting 210 = .ok (.goto 4, 3) := by decide +kernel
theorem dX6_layFitting_213 : decode cX6_layFitting 213 = .ok (.iconst 0, 1) := by decide +kernel
theorem dX6_layFitting_214 : decode cX6_layFitting 214 = .ok (.iadd, 1) := by decide +kernel
theorem dX6_layFitting_215 : decode cX6_layFitting 215 = .ok (.putfield 19, 3) := by decide +kernel
theorem dX6_layFitting_218 : decode cX6_layFitting 218 = .ok (.iinc 1 1, 3) := by decide +kernel
theorem dX6_layFitting_221 : decode cX6_layFitting 221 = .ok (.goto (-34), 3) := by decide +kernel
theorem dX6_layFitting_224 : decode cX6_layFitting 224 = .ok (.return_, 1) := by decide +kernel
theorem dX6_inAll_0 : decode cX6_inAll 0 = .ok (.aload_n 0, 1) := by decide +kernel
theorem dX6_inAll_1 : decode cX6_inAll 1 = .ok (.getfield 19, 3) := by decide +kernel
theorem dX6_inAll_4 : decode cX6_inAll 4 = .ok (.ifCond .ne 5, 3) := by decide +kernel
theorem dX6_inAll_7 : decode cX6_inAll 7 = .ok (.iconst (-1), 1) := by decide +kernel
theorem dX6_inAll_8 : decode cX6_inAll 8 = .ok (.ireturn, 1) := by decide +kernel
theorem dX6_inAll_9 : decode cX6_inAll 9 = .ok (.aload_n 0, 1) := by decide +kernel
theorem dX6_inAll_10 : decode cX6_inAll 10 = .ok (.invokevirtual 54, 3) := by decide +kernel
theorem dX6_inAll_13 : decode cX6_inAll 13 = .ok (.iconst 1, 1) := by decide +kernel
theorem dX6_inAll_14 : decode cX6_inAll 14 = .ok (.isub, 1) := by decide +kernel
theorem dX6_inAll_15 : decode cX6_inAll 15 = .ok (.istore_n 1, 1) := by decide +kernel
theorem dX6_inAll_16 : decode cX6_inAll 16 = .ok (.iconst 0, 1) := by decide +kernel
theorem dX6_inAll_17 : decode cX6_inAll 17 = .ok (.istore_n 2, 1) := by decide +kernel
theorem dX6_inAll_18 : decode cX6_inAll 18 = .ok (.iload_n 2, 1) := by decide +kernel
theorem dX6_inAll_19 : decode cX6_inAll 19 = .ok (.aload_n 0, 1) := by decide +kernel
theorem dX6_inAll_20 : decode cX6_inAll 20 = .ok (.invokevirtual 54, 3) := by decide +kernel
theorem dX6_inAll_23 : decode cX6_inAll 23 = .ok (.if_icmp .ge 22, 3) := by decide +kernel
theorem dX6_inAll_26 : decode cX6_inAll 26 = .ok (.aload_n 0, 1) := by decide +kernel
theorem dX6_inAll_27 : decode cX6_inAll 27 = .ok (.getfield 15, 3) := by decide +kernel
theorem dX6_inAll_30 : decode cX6_inAll 30 = .ok (.iload_n 2, 1) := by decide +kernel
theorem dX6_inAll_31 : decode cX6_inAll 31 = .ok (.baload, 1) := by decide +kernel
theorem dX6_inAll_32 : decode cX6_inAll 32 = .ok (.ifCond .eq 7, 3) := by decide +kernel
theorem dX6_inAll_35 : decode cX6_inAll 35 = .ok (.iload_n 1, 1) := by decide +kernel
theorem dX6_inAll_36 : decode cX6_inAll 36 = .ok (.iload_n 2, 1) := by decide +kernel
theorem dX6_inAll_37 : decode cX6_inAll 37 = .ok (.iand, 1) := by decide +kernel
theorem dX6_inAll_38 : decode cX6_inAll 38 = .ok (.istore_n 1, 1) := by decide +kernel
theorem dX6_inAll_39 : decode cX6_inAll 39 = .ok (.iinc 2 1, 3) := by decide +kernel
theorem dX6_inAll_42 : decode cX6_inAll 42 = .ok (.goto (-24), 3) := by decide +kernel
theorem dX6_inAll_45 : decode cX6_inAll 45 = .ok (.iload_n 1, 1) := by decide +kernel
theorem dX6_inAll_46 : decode cX6_inAll 46 = .ok (.ireturn, 1) := by decide +kernel
theorem dX6_bestCell_0 : decode cX6_bestCell 0 = .ok (.iconst (-1), 1) := by decide +kernel
theorem dX6_bestCell_1 : decode cX6_bestCell 1 = .ok (.istore_n 1, 1) := by decide +kernel
theorem dX6_bestCell_2 : decode cX6_bestCell 2 = .ok (.sipush 129, 3) := by decide +kernel
theorem dX6_bestCell_5 : decode cX6_bestCell 5 = .ok (.istore_n 2, 1) := by decide +kernel
theorem dX6_bestCell_6 : decode cX6_bestCell 6 = .ok (.iconst 0, 1) := by decide +kernel
theorem dX6_bestCell_7 : decode cX6_bestCell 7 = .ok (.istore_n 3, 1) := by decide +kernel
theorem dX6_bestCell_8 : decode cX6_bestCell 8 = .ok (.aload_n 0, 1) := by decide +kernel
theorem dX6_bestCell_9 : decode cX6_bestCell 9 = .ok (.getfield 19, 3) := by decide +kernel
theorem dX6_bestCell_12 : decode cX6_bestCell 12 = .ok (.ifCond .le 33, 3) := by decide +kernel
theorem dX6_bestCell_15 : decode cX6_bestCell 15 = .ok (.iload_n 3, 1) := by decide +kernel
theorem dX6_bestCell_16 : decode cX6_bestCell 16 = .ok (.bipush 64, 2) := by decide +kernel
theorem dX6_bestCell_18 : decode cX6_bestCell 18 = .ok (.if_icmp .ge 27, 3) := by decide +kernel
theorem dX6_bestCell_21 : decode cX6_bestCell 21 = .ok (.aload_n 0, 1) := by decide +kernel
theorem dX6_bestCell_22 : decode cX6_bestCell 22 = .ok (.iload_n 3, 1) := by decide +kernel
theorem dX6_bestCell_23 : decode cX6_bestCell 23 = .ok (.invokevirtual 86, 3) := by decide +kernel
theorem dX6_bestCell_26 : decode cX6_bestCell 26 = .ok (.istore 4, 2) := by decide +kernel
theorem dX6_bestCell_28 : decode cX6_bestCell 28 = .ok (.iload 4, 2) := by decide +kernel
theorem dX6_bestCell_30 : decode cX6_bestCell 30 = .ok (.iload_n 2, 1) := by decide +kernel
theorem dX6_bestCell_31 : decode cX6_bestCell 31 = .ok (.if_icmp .ge 8, 3) := by decide +kernel
theorem dX6_bestCell_34 : decode cX6_bestCell 34 = .ok (.iload 4, 2) := by decide +kernel
theorem dX6_bestCell_36 : decode cX6_bestCell 36 = .ok (.istore_n 2, 1) := by decide +kernel
theorem dX6_bestCell_37 : decode cX6_bestCell 37 = .ok (.iload_n 3, 1) := by decide +kernel
theorem dX6_bestCell_38 : decode cX6_bestCell 38 = .ok (.istore_n 1, 1) := by decide +kernel
theorem dX6_bestCell_39 : decode cX6_bestCell 39 = .ok (.iinc 3 1, 3) := by decide +kernel
theorem dX6_bestCell_42 : decode cX6_bestCell 42 = .ok (.goto (-34), 3) := by decide +kernel
theorem dX6_bestCell_45 : decode cX6_bestCell 45 = .ok (.iload_n 1, 1) := by decide +kernel
theorem dX6_bestCell_46 : decode cX6_bestCell 46 = .ok (.ireturn, 1) := by decide +kernel
theorem dX6_mostAlike_0 : decode cX6_mostAlike 0 = .ok (.aload_n 0, 1) := by decide +kernel
theorem dX6_mostAlike_1 : decode cX6_mostAlike 1 = .ok (.iload_n 1, 1) := by decide +kernel
theorem dX6_mostAlike_2 : decode cX6_mostAlike 2 = .ok (.invokevirtual 89, 3) := by decide +kernel
theorem dX6_mostAlike_5 : decode cX6_mostAlike 5 = .ok (.iconst 0, 1) := by decide +kernel
theorem dX6_mostAlike_6 : decode cX6_mostAlike 6 = .ok (.istore_n 2, 1) := by decide +kernel
theorem dX6_mostAlike_7 : decode cX6_mostAlike 7 = .ok (.iload_n 2, 1) := by decide +kernel
theorem dX6_mostAlike_8 : decode cX6_mostAlike 8 = .ok (.bipush 23, 2) := by decide +kernel
theorem dX6_mostAlike_10 : decode cX6_mostAlike 10 = .ok (.if_icmp .gt 16, 3) := by decide +kernel
theorem dX6_mostAlike_13 : decode cX6_mostAlike 13 = .ok (.aload_n 0, 1) := by decide +kernel
theorem dX6_mostAlike_14 : decode cX6_mostAlike 14 = .ok (.getfield 26, 3) := by decide +kernel
theorem dX6_mostAlike_17 : decode cX6_mostAlike 17 = .ok (.iload_n 2, 1) := by decide +kernel
theorem dX6_mostAlike_18 : decode cX6_mostAlike 18 = .ok (.iconst 0, 1) := by decide +kernel
theorem dX6_mostAlike_19 : decode cX6_mostAlike 19 = .ok (.iastore, 1) := by decide +kernel
theorem dX6_mostAlike_20 : decode cX6_mostAlike 20 = .ok (.iinc 2 1, 3) := by decide +kernel
theorem dX6_mostAlike_23 : decode cX6_mostAlike 23 = .ok (.goto (-16), 3) := by decide +kernel
theorem dX6_mostAlike_26 : decode cX6_mostAlike 26 = .ok (.iconst 0, 1) := by decide +kernel
theorem dX6_mostAlike_27 : decode cX6_mostAlike 27 = .ok (.istore_n 2, 1) := by decide +kernel
theorem dX6_mostAlike_28 : decode cX6_mostAlike 28 = .ok (.iconst 0, 1) := by decide +kernel
theorem dX6_mostAlike_29 : decode cX6_mostAlike 29 = .ok (.istore_n 3, 1) := by decide +kernel
theorem dX6_mostAlike_30 : decode cX6_mostAlike 30 = .ok (.iload_n 3, 1) := by decide +kernel
theorem dX6_mostAlike_31 : decode cX6_mostAlike 31 = .ok (.aload_n 0, 1) := by decide +kernel
theorem dX6_mostAlike_32 : decode cX6_mostAlike 32 = .ok (.invokevirtual 54, 3) := by decide +kernel
theorem dX6_mostAlike_35 : decode cX6_mostAlike 35 = .ok (.if_icmp .ge 61, 3) := by decide +kernel
theorem dX6_mostAlike_38 : decode cX6_mostAlike 38 = .ok (.aload_n 0, 1) := by decide +kernel
theorem dX6_mostAlike_39 : decode cX6_mostAlike 39 = .ok (.getfield 23, 3) := by decide +kernel
theorem dX6_mostAlike_42 : decode cX6_mostAlike 42 = .ok (.iload_n 3, 1) := by decide +kernel
theorem dX6_mostAlike_43 : decode cX6_mostAlike 43 = .ok (.iaload, 1) := by decide +kernel
theorem dX6_mostAlike_44 : decode cX6_mostAlike 44 = .ok (.istore 4, 2) := by decide +kernel
theorem dX6_mostAlike_46 : decode cX6_mostAlike 46 = .ok (.aload_n 0, 1) := by decide +kernel
theorem dX6_mostAlike_47 : decode cX6_mostAlike 47 = .ok (.getfield 15, 3) := by decide +kernel
theorem dX6_mostAlike_50 : decode cX6_mostAlike 50 = .ok (.iload_n 3, 1) := by decide +kernel
theorem dX6_mostAlike_51 : decode cX6_mostAlike 51 = .ok (.baload, 1) := by decide +kernel
theorem dX6_mostAlike_52 : decode cX6_mostAlike 52 = .ok (.ifCond .eq 38, 3) := by decide +kernel
theorem dX6_mostAlike_55 : decode cX6_mostAlike 55 = .ok (.iload 4, 2) := by decide +kernel
theorem dX6_mostAlike_57 : decode cX6_mostAlike 57 = .ok (.ifCond .lt 33, 3) := by decide +kernel
theorem dX6_mostAlike_60 : decode cX6_mostAlike 60 = .ok (.iload 4, 2) := by decide +kernel
theorem dX6_mostAlike_62 : decode cX6_mostAlike 62 = .ok (.bipush 23, 2) := by decide +kernel
theorem dX6_mostAlike_64 : decode cX6_mostAlike 64 = .ok (.if_icmp .gt 26, 3) := by decide +kernel
theorem dX6_mostAlike_67 : decode cX6_mostAlike 67 = .ok (.aload_n 0, 1) := by decide +kernel
theorem dX6_mostAlike_68 : decode cX6_mostAlike 68 = .ok (.getfield 26, 3) := by decide +kernel
theorem dX6_mostAlike_71 : decode cX6_mostAlike 71 = .ok (.iload 4, 2) := by decide +kernel
theorem dX6_mostAlike_73 : decode cX6_mostAlike 73 = .ok (.dup2, 1) := by decide +kernel
theorem dX6_mostAlike_74 : decode cX6_mostAlike 74 = .ok (.iaload, 1) := by decide +kernel
theorem dX6_mostAlike_75 : decode cX6_mostAlike 75 = .ok (.iconst 1, 1) := by decide +kernel
theorem dX6_mostAlike_76 : decode cX6_mostAlike 76 = .ok (.iadd, 1) := by decide +kernel
theorem dX6_mostAlike_77 : decode cX6_mostAlike 77 = .ok (.iastore, 1) := by decide +kernel
theorem dX6_mostAlike_78 : decode cX6_mostAlike 78 = .ok (.iload_n 2, 1) := by decide +kernel
theorem dX6_mostAlike_79 : decode cX6_mostAlike 79 = .ok (.aload_n 0, 1) := by decide +kernel
theorem dX6_mostAlike_80 : decode cX6_mostAlike 80 = .ok (.getfield 26, 3) := by decide +kernel
theorem dX6_mostAlike_83 : decode cX6_mostAlike 83 = .ok (.iload 4, 2) := by decide +kernel
theorem dX6_mostAlike_85 : decode cX6_mostAlike 85 = .ok (.iaload, 1) := by decide +kernel
theorem dX6_mostAlike_86 : decode cX6_mostAlike 86 = .ok (.invokestatic 93, 3) := by decide +kernel
theorem dX6_mostAlike_89 : decode cX6_mostAlike 89 = .ok (.istore_n 2, 1) := by decide +kernel
theorem dX6_mostAlike_90 : decode cX6_mostAlike 90 = .ok (.iinc 3 1, 3) := by decide +kernel
theorem dX6_mostAlike_93 : decode cX6_mostAlike 93 = .ok (.goto (-63), 3) := by decide +kernel
theorem dX6_mostAlike_96 : decode cX6_mostAlike 96 = .ok (.iload_n 2, 1) := by decide +kernel
theorem dX6_mostAlike_97 : decode cX6_mostAlike 97 = .ok (.ireturn, 1) := by decide +kernel
theorem dX6_layLight_0 : decode cX6_layLight 0 = .ok (.aload_n 0, 1) := by decide +kernel
theorem dX6_layLight_1 : decode cX6_layLight 1 = .ok (.getfield 23, 3) := by decide +kernel
theorem dX6_layLight_4 : decode cX6_layLight 4 = .ok (.iconst 0, 1) := by decide +kernel
theorem dX6_layLight_5 : decode cX6_layLight 5 = .ok (.iconst 0, 1) := by decide +kernel
theorem dX6_layLight_6 : decode cX6_layLight 6 = .ok (.iastore, 1) := by decide +kernel
theorem dX6_layLight_7 : decode cX6_layLight 7 = .ok (.iconst 0, 1) := by decide +kernel
theorem dX6_layLight_8 : decode cX6_layLight 8 = .ok (.istore_n 2, 1) := by decide +kernel
theorem dX6_layLight_9 : decode cX6_layLight 9 = .ok (.iload_n 2, 1) := by decide +kernel
theorem dX6_layLight_10 : decode cX6_layLight 10 = .ok (.aload_n 0, 1) := by decide +kernel
theorem dX6_layLight_11 : decode cX6_layLight 11 = .ok (.getfield 29, 3) := by decide +kernel
theorem dX6_layLight_14 : decode cX6_layLight 14 = .ok (.getfield 37, 3) := by decide +kernel
theorem dX6_layLight_17 : decode cX6_layLight 17 = .ok (.if_icmp .ge 67, 3) := by decide +kernel
theorem dX6_layLight_20 : decode cX6_layLight 20 = .ok (.iconst 1, 1) := by decide +kernel
theorem dX6_layLight_21 : decode cX6_layLight 21 = .ok (.iload_n 2, 1) := by decide +kernel
theorem dX6_layLight_22 : decode cX6_layLight 22 = .ok (.ishl, 1) := by decide +kernel
theorem dX6_layLight_23 : decode cX6_layLight 23 = .ok (.istore_n 3, 1) := by decide +kernel
theorem dX6_layLight_24 : decode cX6_layLight 24 = .ok (.aload_n 0, 1) := by decide +kernel
theorem dX6_layLight_25 : decode cX6_layLight 25 = .ok (.getfield 33, 3) := by decide +kernel
theorem dX6_layLight_28 : decode cX6_layLight 28 = .ok (.getfield 99, 3) := by decide +kernel
theorem dX6_layLight_31 : decode cX6_layLight 31 = .ok (.iload_n 1, 1) := by decide +kernel
theorem dX6_layLight_32 : decode cX6_layLight 32 = .ok (.bipush 7, 2) := by decide +kernel
theorem dX6_layLight_34 : decode cX6_layLight 34 = .ok (.imul, 1) := by decide +kernel
theorem dX6_layLight_35 : decode cX6_layLight 35 = .ok (.iload_n 2, 1) := by decide +kernel
theorem dX6_layLight_36 : decode cX6_layLight 36 = .ok (.iadd, 1) := by decide +kernel
theorem dX6_layLight_37 : decode cX6_layLight 37 = .ok (.iaload, 1) := by decide +kernel
theorem dX6_layLight_38 : decode cX6_layLight 38 = .ok (.istore 4, 2) := by decide +kernel
theorem dX6_layLight_40 : decode cX6_layLight 40 = .ok (.iload_n 3, 1) := by decide +kernel
theorem dX6_layLight_41 : decode cX6_layLight 41 = .ok (.istore 5, 2) := by decide +kernel
theorem dX6_layLight_43 : decode cX6_layLight 43 = .ok (.iload 5, 2) := by decide +kernel
theorem dX6_layLight_45 : decode cX6_layLight 45 = .ok (.iconst 2, 1) := by decide +kernel
theorem dX6_layLight_46 : decode cX6_layLight 46 = .ok (.iload_n 3, 1) := by decide +kernel
theorem dX6_layLight_47 : decode cX6_layLight 47 = .ok (.imul, 1) := by decide +kernel
theorem dX6_layLight_48 : decode cX6_layLight 48 = .ok (.if_icmp .ge 30, 3) := by decide +kernel
theorem dX6_layLight_51 : decode cX6_layLight 51 = .ok (.aload_n 0, 1) := by decide +kernel
theorem dX6_layLight_52 : decode cX6_layLight 52 = .ok (.getfield 23, 3) := by decide +kernel
theorem dX6_layLight_55 : decode cX6_layLight 55 = .ok (.iload 5, 2) := by decide +kernel
theorem dX6_layLight_57 : decode cX6_layLight 57 = .ok (.aload_n 0, 1) := by decide +kernel
theorem dX6_layLight_58 : decode cX6_layLight 58 = .ok (.getfield 23, 3) := by decide +kernel
theorem dX6_layLight_61 : decode cX6_layLight 61 = .ok (.iload 5, 2) := by decide +kernel
theorem dX6_layLight_63 : decode cX6_layLight 63 = .ok (.iload_n 3, 1) := by decide +kernel
theorem dX6_layLight_64 : decode cX6_layLight 64 = .ok (.isub, 1) := by decide +kernel
theorem dX6_layLight_65 : decode cX6_layLight 65 = .ok (.iaload, 1) := by decide +kernel
theorem dX6_layLight_66 : decode cX6_layLight 66 = .ok (.iload 4, 2) := by decide +kernel
theorem dX6_layLight_68 : decode cX6_layLight 68 = .ok (.invokestatic 93, 3) := by decide +kernel
theorem dX6_layLight_71 : decode cX6_layLight 71 = .ok (.iastore, 1) := by decide +kernel
theorem dX6_layLight_72 : decode cX6_layLight 72 = .ok (.iinc 5 1, 3) := by decide +kernel
theorem dX6_layLight_75 : decode cX6_layLight 75 = .ok (.goto (-32), 3) := by decide +kernel
theorem dX6_layLight_78 : decode cX6_layLight 78 = .ok (.iinc 2 1, 3) := by decide +kernel
theorem dX6_layLight_81 : decode cX6_layLight 81 = .ok (.goto (-72), 3) := by decide +kernel
theorem dX6_layLight_84 : decode cX6_layLight 84 = .ok (.return_, 1) := by decide +kernel
theorem dX7_init_0 : decode cX7_init 0 = .ok (.aload_n 0, 1) := by decide +kernel
theorem dX7_init_1 : decode cX7_init 1 = .ok (.invokespecial 3, 3) := by decide +kernel
theorem dX7_init_4 : decode cX7_init 4 = .ok (.return_, 1) := by decide +kernel
theorem dX7_strength_0 : decode cX7_strength 0 = .ok (.aload_n 0, 1) := by decide +kernel
theorem dX7_strength_1 : decode cX7_strength 1 = .ok (.iload_n 1, 1) := by decide +kernel
theorem dX7_strength_2 : decode cX7_strength 2 = .ok (.iload_n 2, 1) := by decide +kernel
theorem dX7_strength_3 : decode cX7_strength 3 = .ok (.invokespecial 9, 3) := by decide +kernel
theorem dX7_strength_6 : decode cX7_strength 6 = .ok (.ifCond .le 7, 3) := by decide +kernel
theorem dX7_strength_9 : decode cX7_strength 9 = .ok (.iconst 1, 1) := by decide +kernel
theorem dX7_strength_10 : decode cX7_strength 10 = .ok (.goto 4, 3) := by decide +kernel
theorem dX7_strength_13 : decode cX7_strength 13 = .ok (.iconst 0, 1) := by decide +kernel
theorem dX7_strength_14 : decode cX7_strength 14 = .ok (.ireturn, 1) := by decide +kernel
theorem dX7_hours_0 : decode cX7_hours 0 = .ok (.bipush 12, 2) := by decide +kernel
theorem dX7_hours_2 : decode cX7_hours 2 = .ok (.ireturn, 1) := by decide +kernel
theorem dX8_init_0 : decode cX8_init 0 = .ok (.aload_n 0, 1) := by decide +kernel
theorem dX8_init_1 : decode cX8_init 1 = .ok (.invokespecial 3, 3) := by decide +kernel
theorem dX8_init_4 : decode cX8_init 4 = .ok (.aload_n 0, 1) := by decide +kernel
theorem dX8_init_5 : decode cX8_init 5 = .ok (.iconst 0, 1) := by decide +kernel
theorem dX8_init_6 : decode cX8_init 6 = .ok (.putfield 9, 3) := by decide +kernel
theorem dX8_init_9 : decode cX8_init 9 = .ok (.aload_n 0, 1) := by decide +kernel
theorem dX8_init_10 : decode cX8_init 10 = .ok (.iconst 0, 1) := by decide +kernel
theorem dX8_init_11 : decode cX8_init 11 = .ok (.putfield 15, 3) := by decide +kernel
theorem dX8_init_14 : decode cX8_init 14 = .ok (.aload_n 0, 1) := by decide +kernel
theorem dX8_init_15 : decode cX8_init 15 = .ok (.iconst 0, 1) := by decide +kernel
theorem dX8_init_16 : decode cX8_init 16 = .ok (.putfield 18, 3) := by decide +kernel
theorem dX8_init_19 : decode cX8_init 19 = .ok (.aload_n 0, 1) := by decide +kernel
theorem dX8_init_20 : decode cX8_init 20 = .ok (.bipush 7, 2) := by decide +kernel
theorem dX8_init_22 : decode cX8_init 22 = .ok (.newarray .int, 2) := by decide +kernel
theorem dX8_init_24 : decode cX8_init 24 = .ok (.putfield 21, 3) := by decide +kernel
theorem dX8_init_27 : decode cX8_init 27 = .ok (.aload_n 0, 1) := by decide +kernel
theorem dX8_init_28 : decode cX8_init 28 = .ok (.bipush 7, 2) := by decide +kernel
theorem dX8_init_30 : decode cX8_init 30 = .ok (.newarray .int, 2) := by decide +kernel
theorem dX8_init_32 : decode cX8_init 32 = .ok (.putfield 25, 3) := by decide +kernel
theorem dX8_init_35 : decode cX8_init 35 = .ok (.aload_n 0, 1) := by decide +kernel
theorem dX8_init_36 : decode cX8_init 36 = .ok (.bipush 7, 2) := by decide +kernel
theorem dX8_init_38 : decode cX8_init 38 = .ok (.newarray .int, 2) := by decide +kernel
theorem dX8_init_40 : decode cX8_init 40 = .ok (.putfield 28, 3) := by decide +kernel
theorem dX8_init_43 : decode cX8_init 43 = .ok (.aload_n 0, 1) := by decide +kernel
theorem dX8_init_44 : decode cX8_init 44 = .ok (.bipush 7, 2) := by decide +kernel
theorem dX8_init_46 : decode cX8_init 46 = .ok (.newarray .int, 2) := by decide +kernel
theorem dX8_init_48 : decode cX8_init 48 = .ok (.putfield 31, 3) := by decide +kernel
theorem dX8_init_51 : decode cX8_init 51 = .ok (.aload_n 0, 1) := by decide +kernel
theorem dX8_init_52 : decode cX8_init 52 = .ok (.bipush 7, 2) := by decide +kernel
theorem dX8_init_54 : decode cX8_init 54 = .ok (.newarray .int, 2) := by decide +kernel
theorem dX8_init_56 : decode cX8_init 56 = .ok (.putfield 34, 3) := by decide +kernel
theorem dX8_init_59 : decode cX8_init 59 = .ok (.aload_n 0, 1) := by decide +kernel
theorem dX8_init_60 : decode cX8_init 60 = .ok (.iconst 0, 1) := by decide +kernel
theorem dX8_init_61 : decode cX8_init 61 = .ok (.putfield 37, 3) := by decide +kernel
theorem dX8_init_64 : decode cX8_init 64 = .ok (.aload_n 0, 1) := by decide +kernel
theorem dX8_init_65 : decode cX8_init 65 = .ok (.bipush 6, 2) := by decide +kernel
theorem dX8_init_67 : decode cX8_init 67 = .ok (.newarray .int, 2) := by decide +kernel
theorem dX8_init_69 : decode cX8_init 69 = .ok (.putfield 40, 3) := by decide +kernel
theorem dX8_init_72 : decode cX8_init 72 = .ok (.aload_n 0, 1) := by decide +kernel
theorem dX8_init_73 : decode cX8_init 73 = .ok (.iconst 0, 1) := by decide +kernel
theorem dX8_init_74 : decode cX8_init 74 = .ok (.putfield 43, 3) := by decide +kernel
theorem dX8_init_77 : decode cX8_init 77 = .ok (.aload_n 0, 1) := by decide +kernel
theorem dX8_init_78 : decode cX8_init 78 = .ok (.bipush 6, 2) := by decide +kernel
theorem dX8_init_80 : decode cX8_init 80 = .ok (.newarray .int, 2) := by decide +kernel
theorem dX8_init_82 : decode cX8_init 82 = .ok (.putfield 46, 3) := by decide +kernel
theorem dX8_init_85 : decode cX8_init 85 = .ok (.aload_n 0, 1) := by decide +kernel
theorem dX8_init_86 : decode cX8_init 86 = .ok (.bipush 6, 2) := by decide +kernel
theorem dX8_init_88 : decode cX8_init 88 = .ok (.newarray .int, 2) := by decide +kernel
theorem dX8_init_90 : decode cX8_init 90 = .ok (.putfield 49, 3) := by decide +kernel
theorem dX8_init_93 : decode cX8_init 93 = .ok (.aload_n 0, 1) := by decide +kernel
theorem dX8_init_94 : decode cX8_init 94 = .ok (.bipush 6, 2) := by decide +kernel
theorem dX8_init_96 : decode cX8_init 96 = .ok (.newarray .int, 2) := by decide +kernel
theorem dX8_init_98 : decode cX8_init 98 = .ok (.putfield 52, 3) := by decide +kernel
theorem dX8_init_101 : decode cX8_init 101 = .ok (.aload_n 0, 1) := by decide +kernel
theorem dX8_init_102 : decode cX8_init 102 = .ok (.iconst 0, 1) := by decide +kernel
theorem dX8_init_103 : decode cX8_init 103 = .ok (.putfield 55, 3) := by decide +kernel
theorem dX8_init_106 : decode cX8_init 106 = .ok (.aload_n 0, 1) := by decide +kernel
theorem dX8_init_107 : decode cX8_init 107 = .ok (.bipush 56, 2) := by decide +kernel
theorem dX8_init_109 : decode cX8_init 109 = .ok (.newarray .int, 2) := by decide +kernel
theorem dX8_init_111 : decode cX8_init 111 = .ok (.putfield 58, 3) := by decide +kernel
theorem dX8_init_114 : decode cX8_init 114 = .ok (.aload_n 0, 1) := by decide +kernel
theorem dX8_init_115 : decode cX8_init 115 = .ok (.bipush 8, 2) := by decide +kernel
theorem dX8_init_117 : decode cX8_init 117 = .ok (.newarray .int, 2) := by decide +kernel
theorem dX8_init_119 : decode cX8_init 119 = .ok (.putfield 61, 3) := by decide +kernel
theorem dX8_init_122 : decode cX8_init 122 = .ok (.return_, 1) := by decide +kernel
end
section
theorem dX8_startAnew_0 : decode cX8_startAnew 0 = .ok (.aload_n 0, 1) := by decide +kernel
theorem dX8_startAnew_1 : decode cX8_startAnew 1 = .ok (.iload_n 1, 1) := by decide +kernel
theorem dX8_startAnew_2 : decode cX8_startAnew 2 = .ok (.putfield 9, 3) := by decide +kernel
theorem dX8_startAnew_5 : decode cX8_startAnew 5 = .ok (.aload_n 0, 1) := by decide +kernel
theorem dX8_startAnew_6 : decode cX8_startAnew 6 = .ok (.iconst 0, 1) := by decide +kernel
theorem dX8_startAnew_7 : decode cX8_startAnew 7 = .ok (.putfield 15, 3) := by decide +kernel
theorem dX8_startAnew_10 : decode cX8_startAnew 10 = .ok (.aload_n 0, 1) := by decide +kernel
theorem dX8_startAnew_11 : decode cX8_startAnew 11 = .ok (.iconst 0, 1) := by decide +kernel
theorem dX8_startAnew_12 : decode cX8_startAnew 12 = .ok (.putfield 18, 3) := by decide +kernel
theorem dX8_startAnew_15 : decode cX8_startAnew 15 = .ok (.aload_n 0, 1) := by decide +kernel
theorem dX8_startAnew_16 : decode cX8_startAnew 16 = .ok (.iconst 0, 1) := by decide +kernel
theorem dX8_startAnew_17 : decode cX8_startAnew 17 = .ok (.putfield 37, 3) := by decide +kernel
theorem dX8_startAnew_20 : decode cX8_startAnew 20 = .ok (.aload_n 0, 1) := by decide +kernel
theorem dX8_startAnew_21 : decode cX8_startAnew 21 = .ok (.iconst 0, 1) := by decide +kernel
theorem dX8_startAnew_22 : decode cX8_startAnew 22 = .ok (.putfield 43, 3) := by decide +kernel
theorem dX8_startAnew_25 : decode cX8_startAnew 25 = .ok (.aload_n 0, 1) := by decide +kernel
theorem dX8_startAnew_26 : decode cX8_startAnew 26 = .ok (.iconst 0, 1) := by decide +kernel
theorem dX8_startAnew_27 : decode cX8_startAnew 27 = .ok (.putfield 55, 3) := by decide +kernel
theorem dX8_startAnew_30 : decode cX8_startAnew 30 = .ok (.return_, 1) := by decide +kernel
theorem dX8_has_0 : decode cX8_has 0 = .ok (.iload_n 1, 1) := by decide +kernel
theorem dX8_has_1 : decode cX8_has 1 = .ok (.ifCond .lt 15, 3) := by decide +kernel
theorem dX8_has_4 : decode cX8_has 4 = .ok (.iload_n 1, 1) := by decide +kernel
theorem dX8_has_5 : decode cX8_has 5 = .ok (.aload_n 0, 1) := by decide +kernel
theorem dX8_has_6 : decode cX8_has 6 = .ok (.getfield 15, 3) := by decide +kernel
theorem dX8_has_9 : decode cX8_has 9 = .ok (.if_icmp .ge 7, 3) := by decide +kernel
theorem dX8_has_12 : decode cX8_has 12 = .ok (.iconst 1, 1) := by decide +kernel
theorem dX8_has_13 : decode cX8_has 13 = .ok (.goto 4, 3) := by decide +kernel
theorem dX8_has_16 : decode cX8_has 16 = .ok (.iconst 0, 1) := by decide +kernel
theorem dX8_has_17 : decode cX8_has 17 = .ok (.ireturn, 1) := by decide +kernel
theorem dX8_litAt_0 : decode cX8_litAt 0 = .ok (.aload_n 0, 1) := by decide +kernel
theorem dX8_litAt_1 : decode cX8_litAt 1 = .ok (.getfield 18, 3) := by decide +kernel
theorem dX8_litAt_4 : decode cX8_litAt 4 = .ok (.iload_n 1, 1) := by decide +kernel
theorem dX8_litAt_5 : decode cX8_litAt 5 = .ok (.ishr, 1) := by decide +kernel
theorem dX8_litAt_6 : decode cX8_litAt 6 = .ok (.iconst 1, 1) := by decide +kernel
theorem dX8_litAt_7 : decode cX8_litAt 7 = .ok (.iand, 1) := by decide +kernel
theorem dX8_litAt_8 : decode cX8_litAt 8 = .ok (.ireturn, 1) := by decide +kernel
theorem dX8_farFrom_0 : decode cX8_farFrom 0 = .ok (.aload_n 0, 1) := by decide +kernel
theorem dX8_farFrom_1 : decode cX8_farFrom 1 = .ok (.getfield 25, 3) := by decide +kernel
theorem dX8_farFrom_4 : decode cX8_farFrom 4 = .ok (.iload_n 1, 1) := by decide +kernel
theorem dX8_farFrom_5 : decode cX8_farFrom 5 = .ok (.iaload, 1) := by decide +kernel
theorem dX8_farFrom_6 : decode cX8_farFrom 6 = .ok (.iload_n 2, 1) := by decide +kernel
theorem dX8_farFrom_7 : decode cX8_farFrom 7 = .ok (.invokestatic 64, 3) := by decide +kernel
theorem dX8_farFrom_10 : decode cX8_farFrom 10 = .ok (.ireturn, 1) := by decide +kernel
theorem dX8_add_0 : decode cX8_add 0 = .ok (.aload_n 0, 1) := by decide +kernel
theorem dX8_add_1 : decode cX8_add 1 = .ok (.getfield 15, 3) := by decide +kernel
theorem dX8_add_4 : decode cX8_add 4 = .ok (.istore 6, 2) := by decide +kernel
theorem dX8_add_6 : decode cX8_add 6 = .ok (.iload 6, 2) := by decide +kernel
theorem dX8_add_8 : decode cX8_add 8 = .ok (.bipush 7, 2) := by decide +kernel
theorem dX8_add_10 : decode cX8_add 10 = .ok (.if_icmp .lt 5, 3) := by decide +kernel
theorem dX8_add_13 : decode cX8_add 13 = .ok (.iconst (-1), 1) := by decide +kernel
theorem dX8_add_14 : decode cX8_add 14 = .ok (.ireturn, 1) := by decide +kernel
theorem dX8_add_15 : decode cX8_add 15 = .ok (.aload_n 0, 1) := by decide +kernel
theorem dX8_add_16 : decode cX8_add 16 = .ok (.getfield 21, 3) := by decide +kernel
theorem dX8_add_19 : decode cX8_add 19 = .ok (.iload 6, 2) := by decide +kernel
theorem dX8_add_21 : decode cX8_add 21 = .ok (.iload_n 1, 1) := by decide +kernel
theorem dX8_add_22 : decode cX8_add 22 = .ok (.iastore, 1) := by decide +kernel
theorem dX8_add_23 : decode cX8_add 23 = .ok (.aload_n 0, 1) := by decide +kernel
theorem dX8_add_24 : decode cX8_add 24 = .ok (.getfield 25, 3) := by decide +kernel
theorem dX8_add_27 : decode cX8_add 27 = .ok (.iload 6, 2) := by decide +kernel
theorem dX8_add_29 : decode cX8_add 29 = .ok (.iload_n 2, 1) := by decide +kernel
theorem dX8_add_30 : decode cX8_add 30 = .ok (.iastore, 1) := by decide +kernel
theorem dX8_add_31 : decode cX8_add 31 = .ok (.aload_n 0, 1) := by decide +kernel
theorem dX8_add_32 : decode cX8_add 32 = .ok (.getfield 28, 3) := by decide +kernel
theorem dX8_add_35 : decode cX8_add 35 = .ok (.iload 6, 2) := by decide +kernel
theorem dX8_add_37 : decode cX8_add 37 = .ok (.iload_n 3, 1) := by decide +kernel
theorem dX8_add_38 : decode cX8_add 38 = .ok (.iastore, 1) := by decide +kernel
theorem dX8_add_39 : decode cX8_add 39 = .ok (.aload_n 0, 1) := by decide +kernel
theorem dX8_add_40 : decode cX8_add 40 = .ok (.getfield 31, 3) := by decide +kernel
theorem dX8_add_43 : decode cX8_add 43 = .ok (.iload 6, 2) := by decide +kernel
theorem dX8_add_45 : decode cX8_add 45 = .ok (.iload 4, 2) := by decide +kernel
theorem dX8_add_47 : decode cX8_add 47 = .ok (.iastore, 1) := by decide +kernel
theorem dX8_add_48 : decode cX8_add 48 = .ok (.aload_n 0, 1) := by decide +kernel
theorem dX8_add_49 : decode cX8_add 49 = .ok (.getfield 34, 3) := by decide +kernel
theorem dX8_add_52 : decode cX8_add 52 = .ok (.iload 6, 2) := by decide +kernel
theorem dX8_add_54 : decode cX8_add 54 = .ok (.iload 5, 2) := by decide +kernel
theorem dX8_add_56 : decode cX8_add 56 = .ok (.iastore, 1) := by decide +kernel
theorem dX8_add_57 : decode cX8_add 57 = .ok (.aload_n 0, 1) := by decide +kernel
theorem dX8_add_58 : decode cX8_add 58 = .ok (.aload_n 0, 1) := by decide +kernel
theorem dX8_add_59 : decode cX8_add 59 = .ok (.getfield 18, 3) := by decide +kernel
theorem dX8_add_62 : decode cX8_add 62 = .ok (.iconst 1, 1) := by decide +kernel
theorem dX8_add_63 : decode cX8_add 63 = .ok (.iload 6, 2) := by decide +kernel
theorem dX8_add_65 : decode cX8_add 65 = .ok (.ishl, 1) := by decide +kernel
theorem dX8_add_66 : decode cX8_add 66 = .ok (.ior, 1) := by decide +kernel
theorem dX8_add_67 : decode cX8_add 67 = .ok (.putfield 18, 3) := by decide +kernel
theorem dX8_add_70 : decode cX8_add 70 = .ok (.aload_n 0, 1) := by decide +kernel
theorem dX8_add_71 : decode cX8_add 71 = .ok (.iload 6, 2) := by decide +kernel
theorem dX8_add_73 : decode cX8_add 73 = .ok (.iconst 1, 1) := by decide +kernel
theorem dX8_add_74 : decode cX8_add 74 = .ok (.iadd, 1) := by decide +kernel
theorem dX8_add_75 : decode cX8_add 75 = .ok (.putfield 15, 3) := by decide +kernel
theorem dX8_add_78 : decode cX8_add 78 = .ok (.aload_n 0, 1) := by decide +kernel
theorem dX8_add_79 : decode cX8_add 79 = .ok (.iconst 0, 1) := by decide +kernel
theorem dX8_add_80 : decode cX8_add 80 = .ok (.putfield 55, 3) := by decide +kernel
theorem dX8_add_83 : decode cX8_add 83 = .ok (.iload 6, 2) := by decide +kernel
theorem dX8_add_85 : decode cX8_add 85 = .ok (.ireturn, 1) := by decide +kernel
theorem dX8_addReading_0 : decode cX8_addReading 0 = .ok (.aload_n 0, 1) := by decide +kernel
theorem dX8_addReading_1 : decode cX8_addReading 1 = .ok (.getfield 43, 3) := by decide +kernel
theorem dX8_addReading_4 : decode cX8_addReading 4 = .ok (.bipush 6, 2) := by decide +kernel
theorem dX8_addReading_6 : decode cX8_addReading 6 = .ok (.if_icmp .ge 43, 3) := by decide +kernel
theorem dX8_addReading_9 : decode cX8_addReading 9 = .ok (.aload_n 0, 1) := by decide +kernel
theorem dX8_addReading_10 : decode cX8_addReading 10 = .ok (.getfield 46, 3) := by decide +kernel
theorem dX8_addReading_13 : decode cX8_addReading 13 = .ok (.aload_n 0, 1) := by decide +kernel
theorem dX8_addReading_14 : decode cX8_addReading 14 = .ok (.getfield 43, 3) := by decide +kernel
theorem dX8_addReading_17 : decode cX8_addReading 17 = .ok (.iload_n 1, 1) := by decide +kernel
theorem dX8_addReading_18 : decode cX8_addReading 18 = .ok (.iastore, 1) := by decide +kernel
theorem dX8_addReading_19 : decode cX8_addReading 19 = .ok (.aload_n 0, 1) := by decide +kernel
theorem dX8_addReading_20 : decode cX8_addReading 20 = .ok (.getfield 49, 3) := by decide +kernel
theorem dX8_addReading_23 : decode cX8_addReading 23 = .ok (.aload_n 0, 1) := by decide +kernel
theorem dX8_addReading_24 : decode cX8_addReading 24 = .ok (.getfield 43, 3) := by decide +kernel
theorem dX8_addReading_27 : decode cX8_addReading 27 = .ok (.iload_n 2, 1) := by decide +kernel
theorem dX8_addReading_28 : decode cX8_addReading 28 = .ok (.iastore, 1) := by decide +kernel
theorem dX8_addReading_29 : decode cX8_addReading 29 = .ok (.aload_n 0, 1) := by decide +kernel
theorem dX8_addReading_30 : decode cX8_addReading 30 = .ok (.getfield 52, 3) := by decide +kernel
theorem dX8_addReading_33 : decode cX8_addReading 33 = .ok (.aload_n 0, 1) := by decide +kernel
theorem dX8_addReading_34 : decode cX8_addReading 34 = .ok (.getfield 43, 3) := by decide +kernel
theorem dX8_addReading_37 : decode cX8_addReading 37 = .ok (.iload_n 3, 1) := by decide +kernel
theorem dX8_addReading_38 : decode cX8_addReading 38 = .ok (.iastore, 1) := by decide +kernel
theorem dX8_addReading_39 : decode cX8_addReading 39 = .ok (.aload_n 0, 1) := by decide +kernel
theorem dX8_addReading_40 : decode cX8_addReading 40 = .ok (.dup, 1) := by decide +kernel
theorem dX8_addReading_41 : decode cX8_addReading 41 = .ok (.getfield 43, 3) := by decide +kernel
theorem dX8_addReading_44 : decode cX8_addReading 44 = .ok (.iconst 1, 1) := by decide +kernel
theorem dX8_addReading_45 : decode cX8_addReading 45 = .ok (.iadd, 1) := by decide +kernel
theorem dX8_addReading_46 : decode cX8_addReading 46 = .ok (.putfield 43, 3) := by decide +kernel
theorem dX8_addReading_49 : decode cX8_addReading 49 = .ok (.aload_n 0, 1) := by decide +kernel
theorem dX8_addReading_50 : decode cX8_addReading 50 = .ok (.getfield 43, 3) := by decide +kernel
theorem dX8_addReading_53 : decode cX8_addReading 53 = .ok (.ireturn, 1) := by decide +kernel
theorem dX8_remember_0 : decode cX8_remember 0 = .ok (.aload_n 0, 1) := by decide +kernel
theorem dX8_remember_1 : decode cX8_remember 1 = .ok (.getfield 55, 3) := by decide +kernel
theorem dX8_remember_4 : decode cX8_remember 4 = .ok (.bipush 8, 2) := by decide +kernel
theorem dX8_remember_6 : decode cX8_remember 6 = .ok (.if_icmp .lt 40, 3) := by decide +kernel
theorem dX8_remember_9 : decode cX8_remember 9 = .ok (.aload_n 0, 1) := by decide +kernel
theorem dX8_remember_10 : decode cX8_remember 10 = .ok (.getfield 58, 3) := by decide +kernel
theorem dX8_remember_13 : decode cX8_remember 13 = .ok (.bipush 7, 2) := by decide +kernel
theorem dX8_remember_15 : decode cX8_remember 15 = .ok (.aload_n 0, 1) := by decide +kernel
theorem dX8_remember_16 : decode cX8_remember 16 = .ok (.getfield 58, 3) := by decide +kernel
theorem dX8_remember_19 : decode cX8_remember 19 = .ok (.iconst 0, 1) := by decide +kernel
theorem dX8_remember_20 : decode cX8_remember 20 = .ok (.bipush 49, 2) := by decide +kernel
theorem dX8_remember_22 : decode cX8_remember 22 = .ok (.invokestatic 68, 3) := by decide +kernel
theorem dX8_remember_25 : decode cX8_remember 25 = .ok (.aload_n 0, 1) := by decide +kernel
theorem dX8_remember_26 : decode cX8_remember 26 = .ok (.getfield 61, 3) := by decide +kernel
theorem dX8_remember_29 : decode cX8_remember 29 = .ok (.iconst 1, 1) := by decide +kernel
theorem dX8_remember_30 : decode cX8_remember 30 = .ok (.aload_n 0, 1) := by decide +kernel
theorem dX8_remember_31 : decode cX8_remember 31 = .ok (.getfield 61, 3) := by decide +kernel
theorem dX8_remember_34 : decode cX8_remember 34 = .ok (.iconst 0, 1) := by decide +kernel
theorem dX8_remember_35 : decode cX8_remember 35 = .ok (.bipush 7, 2) := by decide +kernel
theorem dX8_remember_37 : decode cX8_remember 37 = .ok (.invokestatic 68, 3) := by decide +kernel
theorem dX8_remember_40 : decode cX8_remember 40 = .ok (.aload_n 0, 1) := by decide +kernel
theorem dX8_remember_41 : decode cX8_remember 41 = .ok (.bipush 7, 2) := by decide +kernel
theorem dX8_remember_43 : decode cX8_remember 43 = .ok (.putfield 55, 3) := by decide +kernel
theorem dX8_remember_46 : decode cX8_remember 46 = .ok (.aload_n 0, 1) := by decide +kernel
theorem dX8_remember_47 : decode cX8_remember 47 = .ok (.getfield 25, 3) := by decide +kernel
theorem dX8_remember_50 : decode cX8_remember 50 = .ok (.iconst 0, 1) := by decide +kernel
theorem dX8_remember_51 : decode cX8_remember 51 = .ok (.aload_n 0, 1) := by decide +kernel
theorem dX8_remember_52 : decode cX8_remember 52 = .ok (.getfield 58, 3) := by decide +kernel
theorem dX8_remember_55 : decode cX8_remember 55 = .ok (.aload_n 0, 1) := by decide +kernel
theorem dX8_remember_56 : decode cX8_remember 56 = .ok (.getfield 55, 3) := by decide +kernel
theorem dX8_remember_59 : decode cX8_remember 59 = .ok (.bipush 7, 2) := by decide +kernel
theorem dX8_remember_61 : decode cX8_remember 61 = .ok (.imul, 1) := by decide +kernel
theorem dX8_remember_62 : decode cX8_remember 62 = .ok (.bipush 7, 2) := by decide +kernel
theorem dX8_remember_64 : decode cX8_remember 64 = .ok (.invokestatic 68, 3) := by decide +kernel
theorem dX8_remember_67 : decode cX8_remember 67 = .ok (.aload_n 0, 1) := by decide +kernel
theorem dX8_remember_68 : decode cX8_remember 68 = .ok (.getfield 61, 3) := by decide +kernel
theorem dX8_remember_71 : decode cX8_remember 71 = .ok (.aload_n 0, 1) := by decide +kernel
theorem dX8_remember_72 : decode cX8_remember 72 = .ok (.getfield 55, 3) := by decide +kernel
theorem dX8_remember_75 : decode cX8_remember 75 = .ok (.aload_n 0, 1) := by decide +kernel
theorem dX8_remember_76 : decode cX8_remember 76 = .ok (.getfield 18, 3) := by decide +kernel
theorem dX8_remember_79 : decode cX8_remember 79 = .ok (.iastore, 1) := by decide +kernel
theorem dX8_remember_80 : decode cX8_remember 80 = .ok (.aload_n 0, 1) := by decide +kernel
theorem dX8_remember_81 : decode cX8_remember 81 = .ok (.dup, 1) := by decide +kernel
theorem dX8_remember_82 : decode cX8_remember 82 = .ok (.getfield 55, 3) := by decide +kernel
theorem dX8_remember_85 : decode cX8_remember 85 = .ok (.iconst 1, 1) := by decide +kernel
theorem dX8_remember_86 : decode cX8_remember 86 = .ok (.iadd, 1) := by decide +kernel
theorem dX8_remember_87 : decode cX8_remember 87 = .ok (.putfield 55, 3) := by decide +kernel
theorem dX8_remember_90 : decode cX8_remember 90 = .ok (.return_, 1) := by decide +kernel
theorem dX8_goBack_0 : decode cX8_goBack 0 = .ok (.aload_n 0, 1) := by decide +kernel
theorem dX8_goBack_1 : decode cX8_goBack 1 = .ok (.getfield 55, 3) := by decide +kernel
theorem dX8_goBack_4 : decode cX8_goBack 4 = .ok (.ifCond .le 47, 3) := by decide +kernel
theorem dX8_goBack_7 : decode cX8_goBack 7 = .ok (.aload_n 0, 1) := by decide +kernel
theorem dX8_goBack_8 : decode cX8_goBack 8 = .ok (.dup, 1) := by decide +kernel
theorem dX8_goBack_9 : decode cX8_goBack 9 = .ok (.getfield 55, 3) := by decide +kernel
theorem dX8_goBack_12 : decode cX8_goBack 12 = .ok (.iconst 1, 1) := by decide +kernel
theorem dX8_goBack_13 : decode cX8_goBack 13 = .ok (.isub, 1) := by decide +kernel
theorem dX8_goBack_14 : decode cX8_goBack 14 = .ok (.putfield 55, 3) := by decide +kernel
theorem dX8_goBack_17 : decode cX8_goBack 17 = .ok (.aload_n 0, 1) := by decide +kernel
theorem dX8_goBack_18 : decode cX8_goBack 18 = .ok (.getfield 58, 3) := by decide +kernel
theorem dX8_goBack_21 : decode cX8_goBack 21 = .ok (.aload_n 0, 1) := by decide +kernel
theorem dX8_goBack_22 : decode cX8_goBack 22 = .ok (.getfield 55, 3) := by decide +kernel
theorem dX8_goBack_25 : decode cX8_goBack 25 = .ok (.bipush 7, 2) := by decide +kernel
theorem dX8_goBack_27 : decode cX8_goBack 27 = .ok (.imul, 1) := by decide +kernel
theorem dX8_goBack_28 : decode cX8_goBack 28 = .ok (.aload_n 0, 1) := by decide +kernel
theorem dX8_goBack_29 : decode cX8_goBack 29 = .ok (.getfield 25, 3) := by decide +kernel
theorem dX8_goBack_32 : decode cX8_goBack 32 = .ok (.iconst 0, 1) := by decide +kernel
theorem dX8_goBack_33 : decode cX8_goBack 33 = .ok (.bipush 7, 2) := by decide +kernel
theorem dX8_goBack_35 : decode cX8_goBack 35 = .ok (.invokestatic 68, 3) := by decide +kernel
theorem dX8_goBack_38 : decode cX8_goBack 38 = .ok (.aload_n 0, 1) := by decide +kernel
theorem dX8_goBack_39 : decode cX8_goBack 39 = .ok (.aload_n 0, 1) := by decide +kernel
theorem dX8_goBack_40 : decode cX8_goBack 40 = .ok (.getfield 61, 3) := by decide +kernel
theorem dX8_goBack_43 : decode cX8_goBack 43 = .ok (.aload_n 0, 1) := by decide +kernel
theorem dX8_goBack_44 : decode cX8_goBack 44 = .ok (.getfield 55, 3) := by decide +kernel
theorem dX8_goBack_47 : decode cX8_goBack 47 = .ok (.iaload, 1) := by decide +kernel
theorem dX8_goBack_48 : decode cX8_goBack 48 = .ok (.putfield 18, 3) := by decide +kernel
theorem dX8_goBack_51 : decode cX8_goBack 51 = .ok (.return_, 1) := by decide +kernel
theorem dX8_takeFrom_0 : decode cX8_takeFrom 0 = .ok (.aload_n 0, 1) := by decide +kernel
theorem dX8_takeFrom_1 : decode cX8_takeFrom 1 = .ok (.aload_n 1, 1) := by decide +kernel
theorem dX8_takeFrom_2 : decode cX8_takeFrom 2 = .ok (.getfield 9, 3) := by decide +kernel
theorem dX8_takeFrom_5 : decode cX8_takeFrom 5 = .ok (.putfield 9, 3) := by decide +kernel
theorem dX8_takeFrom_8 : decode cX8_takeFrom 8 = .ok (.aload_n 0, 1) := by decide +kernel
theorem dX8_takeFrom_9 : decode cX8_takeFrom 9 = .ok (.aload_n 1, 1) := by decide +kernel
theorem dX8_takeFrom_10 : decode cX8_takeFrom 10 = .ok (.getfield 15, 3) := by decide +kernel
theorem dX8_takeFrom_13 : decode cX8_takeFrom 13 = .ok (.putfield 15, 3) := by decide +kernel
theorem dX8_takeFrom_16 : decode cX8_takeFrom 16 = .ok (.aload_n 0, 1) := by decide +kernel
theorem dX8_takeFrom_17 : decode cX8_takeFrom 17 = .ok (.aload_n 1, 1) := by decide +kernel
theorem dX8_takeFrom_18 : decode cX8_takeFrom 18 = .ok (.getfield 18, 3) := by decide +kernel
theorem dX8_takeFrom_21 : decode cX8_takeFrom 21 = .ok (.putfield 18, 3) := by decide +kernel
theorem dX8_takeFrom_24 : decode cX8_takeFrom 24 = .ok (.aload_n 0, 1) := by decide +kernel
theorem dX8_takeFrom_25 : decode cX8_takeFrom 25 = .ok (.aload_n 1, 1) := by decide +kernel
theorem dX8_takeFrom_26 : decode cX8_takeFrom 26 = .ok (.getfield 37, 3) := by decide +kernel
theorem dX8_takeFrom_29 : decode cX8_takeFrom 29 = .ok (.putfield 37, 3) := by decide +kernel
theorem dX8_takeFrom_32 : decode cX8_takeFrom 32 = .ok (.aload_n 0, 1) := by decide +kernel
theorem dX8_takeFrom_33 : decode cX8_takeFrom 33 = .ok (.aload_n 1, 1) := by decide +kernel
theorem dX8_takeFrom_34 : decode cX8_takeFrom 34 = .ok (.getfield 43, 3) := by decide +kernel
theorem dX8_takeFrom_37 : decode cX8_takeFrom 37 = .ok (.putfield 43, 3) := by decide +kernel
theorem dX8_takeFrom_40 : decode cX8_takeFrom 40 = .ok (.aload_n 0, 1) := by decide +kernel
theorem dX8_takeFrom_41 : decode cX8_takeFrom 41 = .ok (.aload_n 1, 1) := by decide +kernel
theorem dX8_takeFrom_42 : decode cX8_takeFrom 42 = .ok (.getfield 55, 3) := by decide +kernel
theorem dX8_takeFrom_45 : decode cX8_takeFrom 45 = .ok (.putfield 55, 3) := by decide +kernel
theorem dX8_takeFrom_48 : decode cX8_takeFrom 48 = .ok (.aload_n 1, 1) := by decide +kernel
theorem dX8_takeFrom_49 : decode cX8_takeFrom 49 = .ok (.getfield 21, 3) := by decide +kernel
theorem dX8_takeFrom_52 : decode cX8_takeFrom 52 = .ok (.iconst 0, 1) := by decide +kernel
theorem dX8_takeFrom_53 : decode cX8_takeFrom 53 = .ok (.aload_n 0, 1) := by decide +kernel
theorem dX8_takeFrom_54 : decode cX8_takeFrom 54 = .ok (.getfield 21, 3) := by decide +kernel
theorem dX8_takeFrom_57 : decode cX8_takeFrom 57 = .ok (.iconst 0, 1) := by decide +kernel
theorem dX8_takeFrom_58 : decode cX8_takeFrom 58 = .ok (.bipush 7, 2) := by decide +kernel
theorem dX8_takeFrom_60 : decode cX8_takeFrom 60 = .ok (.invokestatic 68, 3) := by decide +kernel
theorem dX8_takeFrom_63 : decode cX8_takeFrom 63 = .ok (.aload_n 1, 1) := by decide +kernel
theorem dX8_takeFrom_64 : decode cX8_takeFrom 64 = .ok (.getfield 25, 3) := by decide +kernel
theorem dX8_takeFrom_67 : decode cX8_takeFrom 67 = .ok (.iconst 0, 1) := by decide +kernel
theorem dX8_takeFrom_68 : decode cX8_takeFrom 68 = .ok (.aload_n 0, 1) := by decide +kernel
theorem dX8_takeFrom_69 : decode cX8_takeFrom 69 = .ok (.getfield 25, 3) := by decide +kernel
theorem dX8_takeFrom_72 : decode cX8_takeFrom 72 = .ok (.iconst 0, 1) := by decide +kernel
theorem dX8_takeFrom_73 : decode cX8_takeFrom 73 = .ok (.bipush 7, 2) := by decide +kernel
theorem dX8_takeFrom_75 : decode cX8_takeFrom 75 = .ok (.invokestatic 68, 3) := by decide +kernel
theorem dX8_takeFrom_78 : decode cX8_takeFrom 78 = .ok (.aload_n 1, 1) := by decide +kernel
theorem dX8_takeFrom_79 : decode cX8_takeFrom 79 = .ok (.getfield 28, 3) := by decide +kernel
theorem dX8_takeFrom_82 : decode cX8_takeFrom 82 = .ok (.iconst 0, 1) := by decide +kernel
theorem dX8_takeFrom_83 : decode cX8_takeFrom 83 = .ok (.aload_n 0, 1) := by decide +kernel
theorem dX8_takeFrom_84 : decode cX8_takeFrom 84 = .ok (.getfield 28, 3) := by decide +kernel
theorem dX8_takeFrom_87 : decode cX8_takeFrom 87 = .ok (.iconst 0, 1) := by decide +kernel
theorem dX8_takeFrom_88 : decode cX8_takeFrom 88 = .ok (.bipush 7, 2) := by decide +kernel
theorem dX8_takeFrom_90 : decode cX8_takeFrom 90 = .ok (.invokestatic 68, 3) := by decide +kernel
theorem dX8_takeFrom_93 : decode cX8_takeFrom 93 = .ok (.aload_n 1, 1) := by decide +kernel
theorem dX8_takeFrom_94 : decode cX8_takeFrom 94 = .ok (.getfield 31, 3) := by decide +kernel
theorem dX8_takeFrom_97 : decode cX8_takeFrom 97 = .ok (.iconst 0, 1) := by decide +kernel
theorem dX8_takeFrom_98 : decode cX8_takeFrom 98 = .ok (.aload_n 0, 1) := by decide +kernel
theorem dX8_takeFrom_99 : decode cX8_takeFrom 99 = .ok (.getfield 31, 3) := by decide +kernel
theorem dX8_takeFrom_102 : decode cX8_takeFrom 102 = .ok (.iconst 0, 1) := by decide +kernel
theorem dX8_takeFrom_103 : decode cX8_takeFrom 103 = .ok (.bipush 7, 2) := by decide +kernel
theorem dX8_takeFrom_105 : decode cX8_takeFrom 105 = .ok (.invokestatic 68, 3) := by decide +kernel
theorem dX8_takeFrom_108 : decode cX8_takeFrom 108 = .ok (.aload_n 1, 1) := by decide +kernel
theorem dX8_takeFrom_109 : decode cX8_takeFrom 109 = .ok (.getfield 34, 3) := by decide +kernel
theorem dX8_takeFrom_112 : decode cX8_takeFrom 112 = .ok (.iconst 0, 1) := by decide +kernel
theorem dX8_takeFrom_113 : decode cX8_takeFrom 113 = .ok (.aload_n 0, 1) := by decide +kernel
theorem dX8_takeFrom_114 : decode cX8_takeFrom 114 = .ok (.getfield 34, 3) := by decide +kernel
theorem dX8_takeFrom_117 : decode cX8_takeFrom 117 = .ok (.iconst 0, 1) := by decide +kernel
theorem dX8_takeFrom_118 : decode cX8_takeFrom 118 = .ok (.bipush 7, 2) := by decide +kernel
theorem dX8_takeFrom_120 : decode cX8_takeFrom 120 = .ok (.invokestatic 68, 3) := by decide +kernel
theorem dX8_takeFrom_123 : decode cX8_takeFrom 123 = .ok (.aload_n 1, 1) := by decide +kernel
theorem dX8_takeFrom_124 : decode cX8_takeFrom 124 = .ok (.getfield 40, 3) := by decide +kernel
theorem dX8_takeFrom_127 : decode cX8_takeFrom 127 = .ok (.iconst 0, 1) := by decide +kernel
theorem dX8_takeFrom_128 : decode cX8_takeFrom 128 = .ok (.aload_n 0, 1) := by decide +kernel
theorem dX8_takeFrom_129 : decode cX8_takeFrom 129 = .ok (.getfield 40, 3) := by decide +kernel
theorem dX8_takeFrom_132 : decode cX8_takeFrom 132 = .ok (.iconst 0, 1) := by decide +kernel
theorem dX8_takeFrom_133 : decode cX8_takeFrom 133 = .ok (.bipush 6, 2) := by decide +kernel
theorem dX8_takeFrom_135 : decode cX8_takeFrom 135 = .ok (.invokestatic 68, 3) := by decide +kernel
theorem dX8_takeFrom_138 : decode cX8_takeFrom 138 = .ok (.aload_n 1, 1) := by decide +kernel
theorem dX8_takeFrom_139 : decode cX8_takeFrom 139 = .ok (.getfield 46, 3) := by decide +kernel
theorem dX8_takeFrom_142 : decode cX8_takeFrom 142 = .ok (.iconst 0, 1) := by decide +kernel
theorem dX8_takeFrom_143 : decode cX8_takeFrom 143 = .ok (.aload_n 0, 1) := by decide +kernel
theorem dX8_takeFrom_144 : decode cX8_takeFrom 144 = .ok (.getfield 46, 3) := by decide +kernel
theorem dX8_takeFrom_147 : decode cX8_takeFrom 147 = .ok (.iconst 0, 1) := by decide +kernel
theorem dX8_takeFrom_148 : decode cX8_takeFrom 148 = .ok (.bipush 6, 2) := by decide +kernel
theorem dX8_takeFrom_150 : decode cX8_takeFrom 150 = .ok (.invokestatic 68, 3) := by decide +kernel
theorem dX8_takeFrom_153 : decode cX8_takeFrom 153 = .ok (.aload_n 1, 1) := by decide +kernel
theorem dX8_takeFrom_154 : decode cX8_takeFrom 154 = .ok (.getfield 49, 3) := by decide +kernel
theorem dX8_takeFrom_157 : decode cX8_takeFrom 157 = .ok (.iconst 0, 1) := by decide +kernel
theorem dX8_takeFrom_158 : decode cX8_takeFrom 158 = .ok (.aload_n 0, 1) := by decide +kernel
theorem dX8_takeFrom_159 : decode cX8_takeFrom 159 = .ok (.getfield 49, 3) := by decide +kernel
theorem dX8_takeFrom_162 : decode cX8_takeFrom 162 = .ok (.iconst 0, 1) := by decide +kernel
theorem dX8_takeFrom_163 : decode cX8_takeFrom 163 = .ok (.bipush 6, 2) := by decide +kernel
theorem dX8_takeFrom_165 : decode cX8_takeFrom 165 = .ok (.invokestatic 68, 3) := by decide +kernel
theorem dX8_takeFrom_168 : decode cX8_takeFrom 168 = .ok (.aload_n 1, 1) := by decide +kernel
theorem dX8_takeFrom_169 : decode cX8_takeFrom 169 = .ok (.getfield 52, 3) := by decide +kernel
theorem dX8_takeFrom_172 : decode cX8_takeFrom 172 = .ok (.iconst 0, 1) := by decide +kernel
theorem dX8_takeFrom_173 : decode cX8_takeFrom 173 = .ok (.aload_n 0, 1) := by decide +kernel
theorem dX8_takeFrom_174 : decode cX8_takeFrom 174 = .ok (.getfield 52, 3) := by decide +kernel
theorem dX8_takeFrom_177 : decode cX8_takeFrom 177 = .ok (.iconst 0, 1) := by decide +kernel
theorem dX8_takeFrom_178 : decode cX8_takeFrom 178 = .ok (.bipush 6, 2) := by decide +kernel
theorem dX8_takeFrom_180 : decode cX8_takeFrom 180 = .ok (.invokestatic 68, 3) := by decide +kernel
theorem dX8_takeFrom_183 : decode cX8_takeFrom 183 = .ok (.aload_n 1, 1) := by decide +kernel
theorem dX8_takeFrom_184 : decode cX8_takeFrom 184 = .ok (.getfield 58, 3) := by decide +kernel
theorem dX8_takeFrom_187 : decode cX8_takeFrom 187 = .ok (.iconst 0, 1) := by decide +kernel
theorem dX8_takeFrom_188 : decode cX8_takeFrom 188 = .ok (.aload_n 0, 1) := by decide +kernel
theorem dX8_takeFrom_189 : decode cX8_takeFrom 189 = .ok (.getfield 58, 3) := by decide +kernel
theorem dX8_takeFrom_192 : decode cX8_takeFrom 192 = .ok (.iconst 0, 1) := by decide +kernel
theorem dX8_takeFrom_193 : decode cX8_takeFrom 193 = .ok (.bipush 56, 2) := by decide +kernel
theorem dX8_takeFrom_195 : decode cX8_takeFrom 195 = .ok (.invokestatic 68, 3) := by decide +kernel
theorem dX8_takeFrom_198 : decode cX8_takeFrom 198 = .ok (.aload_n 1, 1) := by decide +kernel
theorem dX8_takeFrom_199 : decode cX8_takeFrom 199 = .ok (.getfield 61, 3) := by decide +kernel
theorem dX8_takeFrom_202 : decode cX8_takeFrom 202 = .ok (.iconst 0, 1) := by decide +kernel
theorem dX8_takeFrom_203 : decode cX8_takeFrom 203 = .ok (.aload_n 0, 1) := by decide +kernel
theorem dX8_takeFrom_204 : decode cX8_takeFrom 204 = .ok (.getfield 61, 3) := by decide +kernel
theorem dX8_takeFrom_207 : decode cX8_takeFrom 207 = .ok (.iconst 0, 1) := by decide +kernel
theorem dX8_takeFrom_208 : decode cX8_takeFrom 208 = .ok (.bipush 8, 2) := by decide +kernel
theorem dX8_takeFrom_210 : decode cX8_takeFrom 210 = .ok (.invokestatic 68, 3) := by decide +kernel
theorem dX8_takeFrom_213 : decode cX8_takeFrom 213 = .ok (.return_, 1) := by decide +kernel
theorem dX8_mix_0 : decode cX8_mix 0 = .ok (.lload_n 1, 1) := by decide +kernel
theorem dX8_mix_1 : decode cX8_mix 1 = .ok (.lstore_n 3, 1) := by decide +kernel
theorem dX8_mix_2 : decode cX8_mix 2 = .ok (.iconst 0, 1) := by decide +kernel
theorem dX8_mix_3 : decode cX8_mix 3 = .ok (.istore 5, 2) := by decide +kernel
theorem dX8_mix_5 : decode cX8_mix 5 = .ok (.iload 5, 2) := by decide +kernel
theorem dX8_mix_7 : decode cX8_mix 7 = .ok (.aload_n 0, 1) := by decide +kernel
theorem dX8_mix_8 : decode cX8_mix 8 = .ok (.getfield 15, 3) := by decide +kernel
theorem dX8_mix_11 : decode cX8_mix 11 = .ok (.if_icmp .ge 84, 3) := by decide +kernel
theorem dX8_mix_14 : decode cX8_mix 14 = .ok (.ldc2_w 74, 3) := by decide +kernel
theorem dX8_mix_17 : decode cX8_mix 17 = .ok (.lload_n 3, 1) := by decide +kernel
theorem dX8_mix_18 : decode cX8_mix 18 = .ok (.lmul, 1) := by decide +kernel
theorem dX8_mix_19 : decode cX8_mix 19 = .ok (.aload_n 0, 1) := by decide +kernel
theorem dX8_mix_20 : decode cX8_mix 20 = .ok (.getfield 21, 3) := by decide +kernel
theorem dX8_mix_23 : decode cX8_mix 23 = .ok (.iload 5, 2) := by decide +kernel
theorem dX8_mix_25 : decode cX8_mix 25 = .ok (.iaload, 1) := by decide +kernel
theorem dX8_mix_26 : decode cX8_mix 26 = .ok (.i2l, 1) := by decide +kernel
theorem dX8_mix_27 : decode cX8_mix 27 = .ok (.ladd, 1) := by decide +kernel
theorem dX8_mix_28 : decode cX8_mix 28 = .ok (.lstore_n 3, 1) := by decide +kernel
theorem dX8_mix_29 : decode cX8_mix 29 = .ok (.ldc2_w 74, 3) := by decide +kernel
theorem dX8_mix_32 : decode cX8_mix 32 = .ok (.lload_n 3, 1) := by decide +kernel
theorem dX8_mix_33 : decode cX8_mix 33 = .ok (.lmul, 1) := by decide +kernel
theorem dX8_mix_34 : decode cX8_mix 34 = .ok (.aload_n 0, 1) := by decide +kernel
theorem dX8_mix_35 : decode cX8_mix 35 = .ok (.getfield 25, 3) := by decide +kernel
theorem dX8_mix_38 : decode cX8_mix 38 = .ok (.iload 5, 2) := by decide +kernel
theorem dX8_mix_40 : decode cX8_mix 40 = .ok (.iaload, 1) := by decide +kernel
theorem dX8_mix_41 : decode cX8_mix 41 = .ok (.i2l, 1) := by decide +kernel
theorem dX8_mix_42 : decode cX8_mix 42 = .ok (.ladd, 1) := by decide +kernel
theorem dX8_mix_43 : decode cX8_mix 43 = .ok (.lstore_n 3, 1) := by decide +kernel
theorem dX8_mix_44 : decode cX8_mix 44 = .ok (.ldc2_w 74, 3) := by decide +kernel
theorem dX8_mix_47 : decode cX8_mix 47 = .ok (.lload_n 3, 1) := by decide +kernel
theorem dX8_mix_48 : decode cX8_mix 48 = .ok (.lmul, 1) := by decide +kernel
theorem dX8_mix_49 : decode cX8_mix 49 = .ok (.aload_n 0, 1) := by decide +kernel
theorem dX8_mix_50 : decode cX8_mix 50 = .ok (.getfield 28, 3) := by decide +kernel
theorem dX8_mix_53 : decode cX8_mix 53 = .ok (.iload 5, 2) := by decide +kernel
theorem dX8_mix_55 : decode cX8_mix 55 = .ok (.iaload, 1) := by decide +kernel
theorem dX8_mix_56 : decode cX8_mix 56 = .ok (.i2l, 1) := by decide +kernel
theorem dX8_mix_57 : decode cX8_mix 57 = .ok (.ladd, 1) := by decide +kernel
theorem dX8_mix_58 : decode cX8_mix 58 = .ok (.lstore_n 3, 1) := by decide +kernel
theorem dX8_mix_59 : decode cX8_mix 59 = .ok (.ldc2_w 74, 3) := by decide +kernel
theorem dX8_mix_62 : decode cX8_mix 62 = .ok (.lload_n 3, 1) := by decide +kernel
theorem dX8_mix_63 : decode cX8_mix 63 = .ok (.lmul, 1) := by decide +kernel
theorem dX8_mix_64 : decode cX8_mix 64 = .ok (.aload_n 0, 1) := by decide +kernel
theorem dX8_mix_65 : decode cX8_mix 65 = .ok (.getfield 31, 3) := by decide +kernel
theorem dX8_mix_68 : decode cX8_mix 68 = .ok (.iload 5, 2) := by decide +kernel
theorem dX8_mix_70 : decode cX8_mix 70 = .ok (.iaload, 1) := by decide +kernel
theorem dX8_mix_71 : decode cX8_mix 71 = .ok (.i2l, 1) := by decide +kernel
theorem dX8_mix_72 : decode cX8_mix 72 = .ok (.ladd, 1) := by decide +kernel
theorem dX8_mix_73 : decode cX8_mix 73 = .ok (.lstore_n 3, 1) := by decide +kernel
theorem dX8_mix_74 : decode cX8_mix 74 = .ok (.ldc2_w 74, 3) := by decide +kernel
theorem dX8_mix_77 : decode cX8_mix 77 = .ok (.lload_n 3, 1) := by decide +kernel
theorem dX8_mix_78 : decode cX8_mix 78 = .ok (.lmul, 1) := by decide +kernel
theorem dX8_mix_79 : decode cX8_mix 79 = .ok (.aload_n 0, 1) := by decide +kernel
theorem dX8_mix_80 : decode cX8_mix 80 = .ok (.getfield 34, 3) := by decide +kernel
theorem dX8_mix_83 : decode cX8_mix 83 = .ok (.iload 5, 2) := by decide +kernel
theorem dX8_mix_85 : decode cX8_mix 85 = .ok (.iaload, 1) := by decide +kernel
theorem dX8_mix_86 : decode cX8_mix 86 = .ok (.i2l, 1) := by decide +kernel
theorem dX8_mix_87 : decode cX8_mix 87 = .ok (.ladd, 1) := by decide +kernel
theorem dX8_mix_88 : decode cX8_mix 88 = .ok (.lstore_n 3, 1) := by decide +kernel
theorem dX8_mix_89 : decode cX8_mix 89 = .ok (.iinc 5 1, 3) := by decide +kernel
theorem dX8_mix_92 : decode cX8_mix 92 = .ok (.goto (-87), 3) := by decide +kernel
theorem dX8_mix_95 : decode cX8_mix 95 = .ok (.iconst 0, 1) := by decide +kernel
theorem dX8_mix_96 : decode cX8_mix 96 = .ok (.istore 5, 2) := by decide +kernel
theorem dX8_mix_98 : decode cX8_mix 98 = .ok (.iload 5, 2) := by decide +kernel
theorem dX8_mix_100 : decode cX8_mix 100 = .ok (.aload_n 0, 1) := by decide +kernel
theorem dX8_mix_101 : decode cX8_mix 101 = .ok (.getfield 37, 3) := by decide +kernel
theorem dX8_mix_104 : decode cX8_mix 104 = .ok (.if_icmp .ge 24, 3) := by decide +kernel
theorem dX8_mix_107 : decode cX8_mix 107 = .ok (.ldc2_w 74, 3) := by decide +kernel
theorem dX8_mix_110 : decode cX8_mix 110 = .ok (.lload_n 3, 1) := by decide +kernel
theorem dX8_mix_111 : decode cX8_mix 111 = .ok (.lmul, 1) := by decide +kernel
theorem dX8_mix_112 : decode cX8_mix 112 = .ok (.aload_n 0, 1) := by decide +kernel
theorem dX8_mix_113 : decode cX8_mix 113 = .ok (.getfield 40, 3) := by decide +kernel
theorem dX8_mix_116 : decode cX8_mix 116 = .ok (.iload 5, 2) := by decide +kernel
theorem dX8_mix_118 : decode cX8_mix 118 = .ok (.iaload, 1) := by decide +kernel
theorem dX8_mix_119 : decode cX8_mix 119 = .ok (.i2l, 1) := by decide +kernel
theorem dX8_mix_120 : decode cX8_mix 120 = .ok (.ladd, 1) := by decide +kernel
theorem dX8_mix_121 : decode cX8_mix 121 = .ok (.lstore_n 3, 1) := by decide +kernel
theorem dX8_mix_122 : decode cX8_mix 122 = .ok (.iinc 5 1, 3) := by decide +kernel
theorem dX8_mix_125 : decode cX8_mix 125 = .ok (.goto (-27), 3) := by decide +kernel
theorem dX8_mix_128 : decode cX8_mix 128 = .ok (.iconst 0, 1) := by decide +kernel
theorem dX8_mix_129 : decode cX8_mix 129 = .ok (.istore 5, 2) := by decide +kernel
theorem dX8_mix_131 : decode cX8_mix 131 = .ok (.iload 5, 2) := by decide +kernel
theorem dX8_mix_133 : decode cX8_mix 133 = .ok (.aload_n 0, 1) := by decide +kernel
theorem dX8_mix_134 : decode cX8_mix 134 = .ok (.getfield 43, 3) := by decide +kernel
theorem dX8_mix_137 : decode cX8_mix 137 = .ok (.if_icmp .ge 54, 3) := by decide +kernel
theorem dX8_mix_140 : decode cX8_mix 140 = .ok (.ldc2_w 74, 3) := by decide +kernel
theorem dX8_mix_143 : decode cX8_mix 143 = .ok (.lload_n 3, 1) := by decide +kernel
theorem dX8_mix_144 : decode cX8_mix 144 = .ok (.lmul, 1) := by decide +kernel
theorem dX8_mix_145 : decode cX8_mix 145 = .ok (.aload_n 0, 1) := by decide +kernel
theorem dX8_mix_146 : decode cX8_mix 146 = .ok (.getfield 46, 3) := by decide +kernel
theorem dX8_mix_149 : decode cX8_mix 149 = .ok (.iload 5, 2) := by decide +kernel
theorem dX8_mix_151 : decode cX8_mix 151 = .ok (.iaload, 1) := by decide +kernel
theorem dX8_mix_152 : decode cX8_mix 152 = .ok (.i2l, 1) := by decide +kernel
theorem dX8_mix_153 : decode cX8_mix 153 = .ok (.ladd, 1) := by decide +kernel
theorem dX8_mix_154 : decode cX8_mix 154 = .ok (.lstore_n 3, 1) := by decide +kernel
theorem dX8_mix_155 : decode cX8_mix 155 = .ok (.ldc2_w 74, 3) := by decide +kernel
theorem dX8_mix_158 : decode cX8_mix 158 = .ok (.lload_n 3, 1) := by decide +kernel
theorem dX8_mix_159 : decode cX8_mix 159 = .ok (.lmul, 1) := by decide +kernel
theorem dX8_mix_160 : decode cX8_mix 160 = .ok (.aload_n 0, 1) := by decide +kernel
theorem dX8_mix_161 : decode cX8_mix 161 = .ok (.getfield 49, 3) := by decide +kernel
theorem dX8_mix_164 : decode cX8_mix 164 = .ok (.iload 5, 2) := by decide +kernel
theorem dX8_mix_166 : decode cX8_mix 166 = .ok (.iaload, 1) := by decide +kernel
theorem dX8_mix_167 : decode cX8_mix 167 = .ok (.i2l, 1) := by decide +kernel
theorem dX8_mix_168 : decode cX8_mix 168 = .ok (.ladd, 1) := by decide +kernel
theorem dX8_mix_169 : decode cX8_mix 169 = .ok (.lstore_n 3, 1) := by decide +kernel
theorem dX8_mix_170 : decode cX8_mix 170 = .ok (.ldc2_w 74, 3) := by decide +kernel
theorem dX8_mix_173 : decode cX8_mix 173 = .ok (.lload_n 3, 1) := by decide +kernel
theorem dX8_mix_174 : decode cX8_mix 174 = .ok (.lmul, 1) := by decide +kernel
theorem dX8_mix_175 : decode cX8_mix 175 = .ok (.aload_n 0, 1) := by decide +kernel
theorem dX8_mix_176 : decode cX8_mix 176 = .ok (.getfield 52, 3) := by decide +kernel
theorem dX8_mix_179 : decode cX8_mix 179 = .ok (.iload 5, 2) := by decide +kernel
theorem dX8_mix_181 : decode cX8_mix 181 = .ok (.iaload, 1) := by decide +kernel
theorem dX8_mix_182 : decode cX8_mix 182 = .ok (.i2l, 1) := by decide +kernel
theorem dX8_mix_183 : decode cX8_mix 183 = .ok (.ladd, 1) := by decide +kernel
theorem dX8_mix_184 : decode cX8_mix 184 = .ok (.lstore_n 3, 1) := by decide +kernel
theorem dX8_mix_185 : decode cX8_mix 185 = .ok (.iinc 5 1, 3) := by decide +kernel
theorem dX8_mix_188 : decode cX8_mix 188 = .ok (.goto (-57), 3) := by decide +kernel
theorem dX8_mix_191 : decode cX8_mix 191 = .ok (.lload_n 3, 1) := by decide +kernel
theorem dX8_mix_192 : decode cX8_mix 192 = .ok (.lreturn, 1) := by decide +kernel
theorem dX9_init_0 : decode cX9_init 0 = .ok (.aload_n 0, 1) := by decide +kernel
theorem dX9_init_1 : decode cX9_init 1 = .ok (.invokespecial 3, 3) := by decide +kernel
theorem dX9_init_4 : decode cX9_init 4 = .ok (.aload_n 0, 1) := by decide +kernel
theorem dX9_init_5 : decode cX9_init 5 = .ok (.bipush 64, 2) := by decide +kernel
theorem dX9_init_7 : decode cX9_init 7 = .ok (.newarray .int, 2) := by decide +kernel
theorem dX9_init_9 : decode cX9_init 9 = .ok (.putfield 9, 3) := by decide +kernel
theorem dX9_init_12 : decode cX9_init 12 = .ok (.aload_n 0, 1) := by decide +kernel
theorem dX9_init_13 : decode cX9_init 13 = .ok (.bipush 64, 2) := by decide +kernel
theorem dX9_init_15 : decode cX9_init 15 = .ok (.newarray .boolean, 2) := by decide +kernel
theorem dX9_init_17 : decode cX9_init 17 = .ok (.putfield 15, 3) := by decide +kernel
theorem dX9_init_20 : decode cX9_init 20 = .ok (.aload_n 0, 1) := by decide +kernel
theorem dX9_init_21 : decode cX9_init 21 = .ok (.bipush 64, 2) := by decide +kernel
theorem dX9_init_23 : decode cX9_init 23 = .ok (.newarray .int, 2) := by decide +kernel
theorem dX9_init_25 : decode cX9_init 25 = .ok (.putfield 19, 3) := by decide +kernel
theorem dX9_init_28 : decode cX9_init 28 = .ok (.aload_n 0, 1) := by decide +kernel
theorem dX9_init_29 : decode cX9_init 29 = .ok (.aload_n 1, 1) := by decide +kernel
theorem dX9_init_30 : decode cX9_init 30 = .ok (.putfield 22, 3) := by decide +kernel
theorem dX9_init_33 : decode cX9_init 33 = .ok (.aload_n 0, 1) := by decide +kernel
theorem dX9_init_34 : decode cX9_init 34 = .ok (.aload_n 2, 1) := by decide +kernel
theorem dX9_init_35 : decode cX9_init 35 = .ok (.putfield 26, 3) := by decide +kernel
theorem dX9_init_38 : decode cX9_init 38 = .ok (.return_, 1) := by decide +kernel
theorem dX9_spread_0 : decode cX9_spread 0 = .ok (.iconst 0, 1) := by decide +kernel
theorem dX9_spread_1 : decode cX9_spread 1 = .ok (.istore_n 3, 1) := by decide +kernel
theorem dX9_spread_2 : decode cX9_spread 2 = .ok (.iload_n 3, 1) := by decide +kernel
theorem dX9_spread_3 : decode cX9_spread 3 = .ok (.bipush 64, 2) := by decide +kernel
theorem dX9_spread_5 : decode cX9_spread 5 = .ok (.if_icmp .ge 46, 3) := by decide +kernel
theorem dX9_spread_8 : decode cX9_spread 8 = .ok (.aload_n 0, 1) := by decide +kernel
theorem dX9_spread_9 : decode cX9_spread 9 = .ok (.getfield 9, 3) := by decide +kernel
theorem dX9_spread_12 : decode cX9_spread 12 = .ok (.iload_n 3, 1) := by decide +kernel
theorem dX9_spread_13 : decode cX9_spread 13 = .ok (.iconst (-1), 1) := by decide +kernel
theorem dX9_spread_14 : decode cX9_spread 14 = .ok (.iastore, 1) := by decide +kernel
theorem dX9_spread_15 : decode cX9_spread 15 = .ok (.aload_n 0, 1) := by decide +kernel
theorem dX9_spread_16 : decode cX9_spread 16 = .ok (.getfield 15, 3) := by decide +kernel
theorem dX9_spread_19 : decode cX9_spread 19 = .ok (.iload_n 3, 1) := by decide +kernel
theorem dX9_spread_20 : decode cX9_spread 20 = .ok (.aload_n 0, 1) := by decide +kernel
theorem dX9_spread_21 : decode cX9_spread 21 = .ok (.getfield 26, 3) := by decide +kernel
theorem dX9_spread_24 : decode cX9_spread 24 = .ok (.iload_n 3, 1) := by decide +kernel
theorem dX9_spread_25 : decode cX9_spread 25 = .ok (.aload_n 0, 1) := by decide +kernel
theorem dX9_spread_26 : decode cX9_spread 26 = .ok (.getfield 22, 3) := by decide +kernel
theorem dX9_spread_29 : decode cX9_spread 29 = .ok (.getfield 30, 3) := by decide +kernel
theorem dX9_spread_32 : decode cX9_spread 32 = .ok (.invokevirtual 36, 3) := by decide +kernel
theorem dX9_spread_35 : decode cX9_spread 35 = .ok (.iload_n 2, 1) := by decide +kernel
theorem dX9_spread_36 : decode cX9_spread 36 = .ok (.if_icmp .ge 7, 3) := by decide +kernel
theorem dX9_spread_39 : decode cX9_spread 39 = .ok (.iconst 1, 1) := by decide +kernel
theorem dX9_spread_40 : decode cX9_spread 40 = .ok (.goto 4, 3) := by decide +kernel
theorem dX9_spread_43 : decode cX9_spread 43 = .ok (.iconst 0, 1) := by decide +kernel
theorem dX9_spread_44 : decode cX9_spread 44 = .ok (.bastore, 1) := by decide +kernel
theorem dX9_spread_45 : decode cX9_spread 45 = .ok (.iinc 3 1, 3) := by decide +kernel
theorem dX9_spread_48 : decode cX9_spread 48 = .ok (.goto (-46), 3) := by decide +kernel
theorem dX9_spread_51 : decode cX9_spread 51 = .ok (.iconst 0, 1) := by decide +kernel
theorem dX9_spread_52 : decode cX9_spread 52 = .ok (.istore_n 3, 1) := by decide +kernel
theorem dX9_spread_53 : decode cX9_spread 53 = .ok (.aload_n 0, 1) := by decide +kernel
theorem dX9_spread_54 : decode cX9_spread 54 = .ok (.getfield 15, 3) := by decide +kernel
theorem dX9_spread_57 : decode cX9_spread 57 = .ok (.iload_n 1, 1) := by decide +kernel
theorem dX9_spread_58 : decode cX9_spread 58 = .ok (.baload, 1) := by decide +kernel
theorem dX9_spread_59 : decode cX9_spread 59 = .ok (.ifCond .eq 19, 3) := by decide +kernel
theorem dX9_spread_62 : decode cX9_spread 62 = .ok (.aload_n 0, 1) := by decide +kernel
theorem dX9_spread_63 : decode cX9_spread 63 = .ok (.getfield 9, 3) := by decide +kernel
theorem dX9_spread_66 : decode cX9_spread 66 = .ok (.iload_n 1, 1) := by decide +kernel
theorem dX9_spread_67 : decode cX9_spread 67 = .ok (.iconst 0, 1) := by decide +kernel
theorem dX9_spread_68 : decode cX9_spread 68 = .ok (.iastore, 1) := by decide +kernel
theorem dX9_spread_69 : decode cX9_spread 69 = .ok (.aload_n 0, 1) := by decide +kernel
theorem dX9_spread_70 : decode cX9_spread 70 = .ok (.getfield 19, 3) := by decide +kernel
theorem dX9_spread_73 : decode cX9_spread 73 = .ok (.iconst 0, 1) := by decide +kernel
theorem dX9_spread_74 : decode cX9_spread 74 = .ok (.iload_n 1, 1) := by decide +kernel
theorem dX9_spread_75 : decode cX9_spread 75 = .ok (.iastore, 1) := by decide +kernel
theorem dX9_spread_76 : decode cX9_spread 76 = .ok (.iconst 1, 1) := by decide +kernel
theorem dX9_spread_77 : decode cX9_spread 77 = .ok (.istore_n 3, 1) := by decide +kernel
theorem dX9_spread_78 : decode cX9_spread 78 = .ok (.iconst 0, 1) := by decide +kernel
theorem dX9_spread_79 : decode cX9_spread 79 = .ok (.istore 4, 2) := by decide +kernel
theorem dX9_spread_81 : decode cX9_spread 81 = .ok (.iload 4, 2) := by decide +kernel
theorem dX9_spread_83 : decode cX9_spread 83 = .ok (.iload_n 3, 1) := by decide +kernel
theorem dX9_spread_84 : decode cX9_spread 84 = .ok (.if_icmp .ge 29, 3) := by decide +kernel
theorem dX9_spread_87 : decode cX9_spread 87 = .ok (.iload 4, 2) := by decide +kernel
theorem dX9_spread_89 : decode cX9_spread 89 = .ok (.bipush 64, 2) := by decide +kernel
theorem dX9_spread_91 : decode cX9_spread 91 = .ok (.if_icmp .ge 22, 3) := by decide +kernel
theorem dX9_spread_94 : decode cX9_spread 94 = .ok (.aload_n 0, 1) := by decide +kernel
theorem dX9_spread_95 : decode cX9_spread 95 = .ok (.aload_n 0, 1) := by decide +kernel
theorem dX9_spread_96 : decode cX9_spread 96 = .ok (.getfield 19, 3) := by decide +kernel
theorem dX9_spread_99 : decode cX9_spread 99 = .ok (.iload 4, 2) := by decide +kernel
theorem dX9_spread_101 : decode cX9_spread 101 = .ok (.iaload, 1) := by decide +kernel
theorem dX9_spread_102 : decode cX9_spread 102 = .ok (.iload_n 3, 1) := by decide +kernel
theorem dX9_spread_103 : decode cX9_spread 103 = .ok (.invokevirtual 42, 3) := by decide +kernel
theorem dX9_spread_106 : decode cX9_spread 106 = .ok (.istore_n 3, 1) := by decide +kernel
theorem dX9_spread_107 : decode cX9_spread 107 = .ok (.iinc 4 1, 3) := by decide +kernel
theorem dX9_spread_110 : decode cX9_spread 110 = .ok (.goto (-29), 3) := by decide +kernel
theorem dX9_spread_113 : decode cX9_spread 113 = .ok (.return_, 1) := by decide +kernel
theorem dX9_spreadFrom_0 : decode cX9_spreadFrom 0 = .ok (.iload_n 2, 1) := by decide +kernel
theorem dX9_spreadFrom_1 : decode cX9_spreadFrom 1 = .ok (.istore_n 3, 1) := by decide +kernel
theorem dX9_spreadFrom_2 : decode cX9_spreadFrom 2 = .ok (.iconst 0, 1) := by decide +kernel
theorem dX9_spreadFrom_3 : decode cX9_spreadFrom 3 = .ok (.istore 4, 2) := by decide +kernel
theorem dX9_spreadFrom_5 : decode cX9_spreadFrom 5 = .ok (.iload 4, 2) := by decide +kernel
theorem dX9_spreadFrom_7 : decode cX9_spreadFrom 7 = .ok (.iconst 4, 1) := by decide +kernel
theorem dX9_spreadFrom_8 : decode cX9_spreadFrom 8 = .ok (.if_icmp .ge 76, 3) := by decide +kernel
theorem dX9_spreadFrom_11 : decode cX9_spreadFrom 11 = .ok (.iload_n 1, 1) := by decide +kernel
theorem dX9_spreadFrom_12 : decode cX9_spreadFrom 12 = .ok (.iload 4, 2) := by decide +kernel
theorem dX9_spreadFrom_14 : decode cX9_spreadFrom 14 = .ok (.invokestatic 45, 3) := by decide +kernel
theorem dX9_spreadFrom_17 : decode cX9_spreadFrom 17 = .ok (.istore 5, 2) := by decide +kernel
theorem dX9_spreadFrom_19 : decode cX9_spreadFrom 19 = .ok (.iload 5, 2) := by decide +kernel
theorem dX9_spreadFrom_21 : decode cX9_spreadFrom 21 = .ok (.iconst (-1), 1) := by decide +kernel
theorem dX9_spreadFrom_22 : decode cX9_spreadFrom 22 = .ok (.if_icmp .eq 56, 3) := by decide +kernel
theorem dX9_spreadFrom_25 : decode cX9_spreadFrom 25 = .ok (.iload_n 3, 1) := by decide +kernel
theorem dX9_spreadFrom_26 : decode cX9_spreadFrom 26 = .ok (.bipush 64, 2) := by decide +kernel
theorem dX9_spreadFrom_28 : decode cX9_spreadFrom 28 = .ok (.if_icmp .ge 50, 3) := by decide +kernel
theorem dX9_spreadFrom_31 : decode cX9_spreadFrom 31 = .ok (.aload_n 0, 1) := by decide +kernel
theorem dX9_spreadFrom_32 : decode cX9_spreadFrom 32 = .ok (.getfield 15, 3) := by decide +kernel
theorem dX9_spreadFrom_35 : decode cX9_spreadFrom 35 = .ok (.iload 5, 2) := by decide +kernel
theorem dX9_spreadFrom_37 : decode cX9_spreadFrom 37 = .ok (.baload, 1) := by decide +kernel
theorem dX9_spreadFrom_38 : decode cX9_spreadFrom 38 = .ok (.ifCond .eq 40, 3) := by decide +kernel
theorem dX9_spreadFrom_41 : decode cX9_spreadFrom 41 = .ok (.aload_n 0, 1) := by decide +kernel
theorem dX9_spreadFrom_42 : decode cX9_spreadFrom 42 = .ok (.getfield 9, 3) := by decide +kernel
theorem dX9_spreadFrom_45 : decode cX9_spreadFrom 45 = .ok (.iload 5, 2) := by decide +kernel
theorem dX9_spreadFrom_47 : decode cX9_spreadFrom 47 = .ok (.iaload, 1) := by decide +kernel
theorem dX9_spreadFrom_48 : decode cX9_spreadFrom 48 = .ok (.iconst (-1), 1) := by decide +kernel
theorem dX9_spreadFrom_49 : decode cX9_spreadFrom 49 = .ok (.if_icmp .ne 29, 3) := by decide +kernel
theorem dX9_spreadFrom_52 : decode cX9_spreadFrom 52 = .ok (.aload_n 0, 1) := by decide +kernel
theorem dX9_spreadFrom_53 : decode cX9_spreadFrom 53 = .ok (.getfield 9, 3) := by decide +kernel
theorem dX9_spreadFrom_56 : decode cX9_spreadFrom 56 = .ok (.iload 5, 2) := by decide +kernel
theorem dX9_spreadFrom_58 : decode cX9_spreadFrom 58 = .ok (.aload_n 0, 1) := by decide +kernel
theorem dX9_spreadFrom_59 : decode cX9_spreadFrom 59 = .ok (.getfield 9, 3) := by decide +kernel
theorem dX9_spreadFrom_62 : decode cX9_spreadFrom 62 = .ok (.iload_n 1, 1) := by decide +kernel
theorem dX9_spreadFrom_63 : decode cX9_spreadFrom 63 = .ok (.iaload, 1) := by decide +kernel
theorem dX9_spreadFrom_64 : decode cX9_spreadFrom 64 = .ok (.iconst 1, 1) := by decide +kernel
theorem dX9_spreadFrom_65 : decode cX9_spreadFrom 65 = .ok (.iadd, 1) := by decide +kernel
theorem dX9_spreadFrom_66 : decode cX9_spreadFrom 66 = .ok (.iastore, 1) := by decide +kernel
theorem dX9_spreadFrom_67 : decode cX9_spreadFrom 67 = .ok (.aload_n 0, 1) := by decide +kernel
theorem dX9_spreadFrom_68 : decode cX9_spreadFrom 68 = .ok (.getfield 19, 3) := by decide +kernel
theorem dX9_spreadFrom_71 : decode cX9_spreadFrom 71 = .ok (.iload_n 3, 1) := by decide +kernel
theorem dX9_spreadFrom_72 : decode cX9_spreadFrom 72 = .ok (.iload 5, 2) := by decide +kernel
theorem dX9_spreadFrom_74 : decode cX9_spreadFrom 74 = .ok (.iastore, 1) := by decide +kernel
theorem dX9_spreadFrom_75 : decode cX9_spreadFrom 75 = .ok (.iinc 3 1, 3) := by decide +kernel
theorem dX9_spreadFrom_78 : decode cX9_spreadFrom 78 = .ok (.iinc 4 1, 3) := by decide +kernel
theorem dX9_spreadFrom_81 : decode cX9_spreadFrom 81 = .ok (.goto (-76), 3) := by decide +kernel
theorem dX9_spreadFrom_84 : decode cX9_spreadFrom 84 = .ok (.iload_n 3, 1) := by decide +kernel
theorem dX9_spreadFrom_85 : decode cX9_spreadFrom 85 = .ok (.ireturn, 1) := by decide +kernel
theorem dX9_stepsFrom_0 : decode cX9_stepsFrom 0 = .ok (.aload_n 0, 1) := by decide +kernel
theorem dX9_stepsFrom_1 : decode cX9_stepsFrom 1 = .ok (.getfield 9, 3) := by decide +kernel
theorem dX9_stepsFrom_4 : decode cX9_stepsFrom 4 = .ok (.iload_n 1, 1) := by decide +kernel
theorem dX9_stepsFrom_5 : decode cX9_stepsFrom 5 = .ok (.iaload, 1) := by decide +kernel
theorem dX9_stepsFrom_6 : decode cX9_stepsFrom 6 = .ok (.ireturn, 1) := by decide +kernel
theorem dX9_firstBehind_0 : decode cX9_firstBehind 0 = .ok (.aload_n 0, 1) := by decide +kernel
theorem dX9_firstBehind_1 : decode cX9_firstBehind 1 = .ok (.getfield 9, 3) := by decide +kernel
theorem dX9_firstBehind_4 : decode cX9_firstBehind 4 = .ok (.iload_n 1, 1) := by decide +kernel
theorem dX9_firstBehind_5 : decode cX9_firstBehind 5 = .ok (.iaload, 1) := by decide +kernel
theorem dX9_firstBehind_6 : decode cX9_firstBehind 6 = .ok (.ifCond .gt 18, 3) := by decide +kernel
theorem dX9_firstBehind_9 : decode cX9_firstBehind 9 = .ok (.aload_n 0, 1) := by decide +kernel
theorem dX9_firstBehind_10 : decode cX9_firstBehind 10 = .ok (.getfield 9, 3) := by decide +kernel
theorem dX9_firstBehind_13 : decode cX9_firstBehind 13 = .ok (.iload_n 1, 1) := by decide +kernel
theorem dX9_firstBehind_14 : decode cX9_firstBehind 14 = .ok (.iaload, 1) := by decide +kernel
theorem dX9_firstBehind_15 : decode cX9_firstBehind 15 = .ok (.ifCond .ne 7, 3) := by decide +kernel
theorem dX9_firstBehind_18 : decode cX9_firstBehind 18 = .ok (.iload_n 1, 1) := by decide +kernel
theorem dX9_firstBehind_19 : decode cX9_firstBehind 19 = .ok (.goto 4, 3) := by decide +kernel
theorem dX9_firstBehind_22 : decode cX9_firstBehind 22 = .ok (.iconst (-1), 1) := by decide +kernel
theorem dX9_firstBehind_23 : decode cX9_firstBehind 23 = .ok (.ireturn, 1) := by decide +kernel
theorem dX9_firstBehind_24 : decode cX9_firstBehind 24 = .ok (.iconst 0, 1) := by decide +kernel
theorem dX9_firstBehind_25 : decode cX9_firstBehind 25 = .ok (.istore_n 2, 1) := by decide +kernel
theorem dX9_firstBehind_26 : decode cX9_firstBehind 26 = .ok (.iload_n 2, 1) := by decide +kernel
theorem dX9_firstBehind_27 : decode cX9_firstBehind 27 = .ok (.iconst 4, 1) := by decide +kernel
theorem dX9_firstBehind_28 : decode cX9_firstBehind 28 = .ok (.if_icmp .ge 39, 3) := by decide +kernel
theorem dX9_firstBehind_31 : decode cX9_firstBehind 31 = .ok (.iload_n 1, 1) := by decide +kernel
theorem dX9_firstBehind_32 : decode cX9_firstBehind 32 = .ok (.iload_n 2, 1) := by decide +kernel
theorem dX9_firstBehind_33 : decode cX9_firstBehind 33 = .ok (.invokestatic 45, 3) := by decide +kernel
theorem dX9_firstBehind_36 : decode cX9_firstBehind 36 = .ok (.istore_n 3, 1) := by decide +kernel
theorem dX9_firstBehind_37 : decode cX9_firstBehind 37 = .ok (.iload_n 3, 1) := by decide +kernel
theorem dX9_firstBehind_38 : decode cX9_firstBehind 38 = .ok (.iconst (-1), 1) := by decide +kernel
theorem dX9_firstBehind_39 : decode cX9_firstBehind 39 = .ok (.if_icmp .eq 22, 3) := by decide +kernel
theorem dX9_firstBehind_42 : decode cX9_firstBehind 42 = .ok (.aload_n 0, 1) := by decide +kernel
theorem dX9_firstBehind_43 : decode cX9_firstBehind 43 = .ok (.getfield 9, 3) := by decide +kernel
theorem dX9_firstBehind_46 : decode cX9_firstBehind 46 = .ok (.iload_n 3, 1) := by decide +kernel
theorem dX9_firstBehind_47 : decode cX9_firstBehind 47 = .ok (.iaload, 1) := by decide +kernel
theorem dX9_firstBehind_48 : decode cX9_firstBehind 48 = .ok (.aload_n 0, 1) := by decide +kernel
theorem dX9_firstBehind_49 : decode cX9_firstBehind 49 = .ok (.getfield 9, 3) := by decide +kernel
theorem dX9_firstBehind_52 : decode cX9_firstBehind 52 = .ok (.iload_n 1, 1) := by decide +kernel
theorem dX9_firstBehind_53 : decode cX9_firstBehind 53 = .ok (.iaload, 1) := by decide +kernel
theorem dX9_firstBehind_54 : decode cX9_firstBehind 54 = .ok (.iconst 1, 1) := by decide +kernel
theorem dX9_firstBehind_55 : decode cX9_firstBehind 55 = .ok (.isub, 1) := by decide +kernel
theorem dX9_firstBehind_56 : decode cX9_firstBehind 56 = .ok (.if_icmp .ne 5, 3) := by decide +kernel
theorem dX9_firstBehind_59 : decode cX9_firstBehind 59 = .ok (.iload_n 3, 1) := by decide +kernel
theorem dX9_firstBehind_60 : decode cX9_firstBehind 60 = .ok (.ireturn, 1) := by decide +kernel
theorem dX9_firstBehind_61 : decode cX9_firstBehind 61 = .ok (.iinc 2 1, 3) := by decide +kernel
theorem dX9_firstBehind_64 : decode cX9_firstBehind 64 = .ok (.goto (-38), 3) := by decide +kernel
theorem dX9_firstBehind_67 : decode cX9_firstBehind 67 = .ok (.iconst (-1), 1) := by decide +kernel
theorem dX9_firstBehind_68 : decode cX9_firstBehind 68 = .ok (.ireturn, 1) := by decide +kernel
theorem dX9_beside_0 : decode cX9_beside 0 = .ok (.iload_n 1, 1) := by decide +kernel
theorem dX9_beside_1 : decode cX9_beside 1 = .ok (.tableswitch 74 0 2 #[27, 42, 57], 27) := by decide +kernel
theorem dX9_beside_28 : decode cX9_beside 28 = .ok (.iload_n 0, 1) := by decide +kernel
theorem dX9_beside_29 : decode cX9_beside 29 = .ok (.bipush 8, 2) := by decide +kernel
theorem dX9_beside_31 : decode cX9_beside 31 = .ok (.if_icmp .lt 10, 3) := by decide +kernel
theorem dX9_beside_34 : decode cX9_beside 34 = .ok (.iload_n 0, 1) := by decide +kernel
theorem dX9_beside_35 : decode cX9_beside 35 = .ok (.bipush 8, 2) := by decide +kernel
theorem dX9_beside_37 : decode cX9_beside 37 = .ok (.isub, 1) := by decide +kernel
theorem dX9_beside_38 : decode cX9_beside 38 = .ok (.goto 4, 3) := by decide +kernel
theorem dX9_beside_41 : decode cX9_beside 41 = .ok (.iconst (-1), 1) := by decide +kernel
theorem dX9_beside_42 : decode cX9_beside 42 = .ok (.ireturn, 1) := by decide +kernel
theorem dX9_beside_43 : decode cX9_beside 43 = .ok (.iload_n 0, 1) := by decide +kernel
theorem dX9_beside_44 : decode cX9_beside 44 = .ok (.bipush 8, 2) := by decide +kernel
theorem dX9_beside_46 : decode cX9_beside 46 = .ok (.irem, 1) := by decide +kernel
theorem dX9_beside_47 : decode cX9_beside 47 = .ok (.ifCond .le 9, 3) := by decide +kernel
theorem dX9_beside_50 : decode cX9_beside 50 = .ok (.iload_n 0, 1) := by decide +kernel
theorem dX9_beside_51 : decode cX9_beside 51 = .ok (.iconst 1, 1) := by decide +kernel
theorem dX9_beside_52 : decode cX9_beside 52 = .ok (.isub, 1) := by decide +kernel
theorem dX9_beside_53 : decode cX9_beside 53 = .ok (.goto 4, 3) := by decide +kernel
theorem dX9_beside_56 : decode cX9_beside 56 = .ok (.iconst (-1), 1) := by decide +kernel
theorem dX9_beside_57 : decode cX9_beside 57 = .ok (.ireturn, 1) := by decide +kernel
theorem dX9_beside_58 : decode cX9_beside 58 = .ok (.iload_n 0, 1) := by decide +kernel
theorem dX9_beside_59 : decode cX9_beside 59 = .ok (.bipush 8, 2) := by decide +kernel
theorem dX9_beside_61 : decode cX9_beside 61 = .ok (.irem, 1) := by decide +kernel
theorem dX9_beside_62 : decode cX9_beside 62 = .ok (.bipush 7, 2) := by decide +kernel
theorem dX9_beside_64 : decode cX9_beside 64 = .ok (.if_icmp .ge 9, 3) := by decide +kernel
theorem dX9_beside_67 : decode cX9_beside 67 = .ok (.iload_n 0, 1) := by decide +kernel
theorem dX9_beside_68 : decode cX9_beside 68 = .ok (.iconst 1, 1) := by decide +kernel
theorem dX9_beside_69 : decode cX9_beside 69 = .ok (.iadd, 1) := by decide +kernel
theorem dX9_beside_70 : decode cX9_beside 70 = .ok (.goto 4, 3) := by decide +kernel
theorem dX9_beside_73 : decode cX9_beside 73 = .ok (.iconst (-1), 1) := by decide +kernel
theorem dX9_beside_74 : decode cX9_beside 74 = .ok (.ireturn, 1) := by decide +kernel
theorem dX9_beside_75 : decode cX9_beside 75 = .ok (.iload_n 0, 1) := by decide +kernel
theorem dX9_beside_76 : decode cX9_beside 76 = .ok (.bipush 56, 2) := by decide +kernel
theorem dX9_beside_78 : decode cX9_beside 78 = .ok (.if_icmp .ge 10, 3) := by decide +kernel
theorem dX9_beside_81 : decode cX9_beside 81 = .ok (.iload_n 0, 1) := by decide +kernel
theorem dX9_beside_82 : decode cX9_beside 82 = .ok (.bipush 8, 2) := by decide +kernel
theorem dX9_beside_84 : decode cX9_beside 84 = .ok (.iadd, 1) := by decide +kernel
theorem dX9_beside_85 : decode cX9_beside 85 = .ok (.goto 4, 3) := by decide +kernel
theorem dX9_beside_88 : decode cX9_beside 88 = .ok (.iconst (-1), 1) := by decide +kernel
theorem dX9_beside_89 : decode cX9_beside 89 = .ok (.ireturn, 1) := by decide +kernel
theorem dX10_init_0 : decode cX10_init 0 = .ok (.aload_n 0, 1) := by decide +kernel
theorem dX10_init_1 : decode cX10_init 1 = .ok (.invokespecial 1, 3) := by decide +kernel
theorem dX10_init_4 : decode cX10_init 4 = .ok (.return_, 1) := by decide +kernel
theorem dX10_strength_0 : decode cX10_strength 0 = .ok (.aload_n 0, 1) := by decide +kernel
theorem dX10_strength_1 : decode cX10_strength 1 = .ok (.iload_n 1, 1) := by decide +kernel
theorem dX10_strength_2 : decode cX10_strength 2 = .ok (.iload_n 2, 1) := by decide +kernel
theorem dX10_strength_3 : decode cX10_strength 3 = .ok (.invokespecial 7, 3) := by decide +kernel
theorem dX10_strength_6 : decode cX10_strength 6 = .ok (.istore_n 3, 1) := by decide +kernel
theorem dX10_strength_7 : decode cX10_strength 7 = .ok (.iload_n 3, 1) := by decide +kernel
theorem dX10_strength_8 : decode cX10_strength 8 = .ok (.ifCond .le 9, 3) := by decide +kernel
theorem dX10_strength_11 : decode cX10_strength 11 = .ok (.iload_n 3, 1) := by decide +kernel
theorem dX10_strength_12 : decode cX10_strength 12 = .ok (.iconst 3, 1) := by decide +kernel
theorem dX10_strength_13 : decode cX10_strength 13 = .ok (.iadd, 1) := by decide +kernel
theorem dX10_strength_14 : decode cX10_strength 14 = .ok (.goto 4, 3) := by decide +kernel
theorem dX10_strength_17 : decode cX10_strength 17 = .ok (.iconst 0, 1) := by decide +kernel
theorem dX10_strength_18 : decode cX10_strength 18 = .ok (.ireturn, 1) := by decide +kernel
theorem dX10_hours_0 : decode cX10_hours 0 = .ok (.aload_n 0, 1) := by decide +kernel
theorem dX10_hours_1 : decode cX10_hours 1 = .ok (.iload_n 1, 1) := by decide +kernel
theorem dX10_hours_2 : decode cX10_hours 2 = .ok (.invokespecial 11, 3) := by decide +kernel
theorem dX10_hours_5 : decode cX10_hours 5 = .ok (.iconst 2, 1) := by decide +kernel
theorem dX10_hours_6 : decode cX10_hours 6 = .ok (.idiv, 1) := by decide +kernel
theorem dX10_hours_7 : decode cX10_hours 7 = .ok (.ireturn, 1) := by decide +kernel
theorem dX11_init_0 : decode cX11_init 0 = .ok (.aload_n 0, 1) := by decide +kernel
theorem dX11_init_1 : decode cX11_init 1 = .ok (.invokespecial 3, 3) := by decide +kernel
theorem dX11_init_4 : decode cX11_init 4 = .ok (.aload_n 0, 1) := by decide +kernel
theorem dX11_init_5 : decode cX11_init 5 = .ok (.new 9, 3) := by decide +kernel
theorem dX11_init_8 : decode cX11_init 8 = .ok (.dup, 1) := by decide +kernel
theorem dX11_init_9 : decode cX11_init 9 = .ok (.invokespecial 11, 3) := by decide +kernel
theorem dX11_init_12 : decode cX11_init 12 = .ok (.putfield 12, 3) := by decide +kernel
theorem dX11_init_15 : decode cX11_init 15 = .ok (.aload_n 0, 1) := by decide +kernel
theorem dX11_init_16 : decode cX11_init 16 = .ok (.iconst 2, 1) := by decide +kernel
theorem dX11_init_17 : decode cX11_init 17 = .ok (.anewarray 9, 3) := by decide +kernel
theorem dX11_init_20 : decode cX11_init 20 = .ok (.dup, 1) := by decide +kernel
theorem dX11_init_21 : decode cX11_init 21 = .ok (.iconst 0, 1) := by decide +kernel
theorem dX11_init_22 : decode cX11_init 22 = .ok (.new 9, 3) := by decide +kernel
theorem dX11_init_25 : decode cX11_init 25 = .ok (.dup, 1) := by decide +kernel
theorem dX11_init_26 : decode cX11_init 26 = .ok (.invokespecial 11, 3) := by decide +kernel
theorem dX11_init_29 : decode cX11_init 29 = .ok (.aastore, 1) := by decide +kernel
theorem dX11_init_30 : decode cX11_init 30 = .ok (.dup, 1) := by decide +kernel
theorem dX11_init_31 : decode cX11_init 31 = .ok (.iconst 1, 1) := by decide +kernel
theorem dX11_init_32 : decode cX11_init 32 = .ok (.new 9, 3) := by decide +kernel
theorem dX11_init_35 : decode cX11_init 35 = .ok (.dup, 1) := by decide +kernel
theorem dX11_init_36 : decode cX11_init 36 = .ok (.invokespecial 11, 3) := by decide +kernel
theorem dX11_init_39 : decode cX11_init 39 = .ok (.aastore, 1) := by decide +kernel
theorem dX11_init_40 : decode cX11_init 40 = .ok (.putfield 16, 3) := by decide +kernel
theorem dX11_init_43 : decode cX11_init 43 = .ok (.aload_n 0, 1) := by decide +kernel
theorem dX11_init_44 : decode cX11_init 44 = .ok (.iconst 2, 1) := by decide +kernel
theorem dX11_init_45 : decode cX11_init 45 = .ok (.newarray .boolean, 2) := by decide +kernel
theorem dX11_init_47 : decode cX11_init 47 = .ok (.putfield 20, 3) := by decide +kernel
theorem dX11_init_50 : decode cX11_init 50 = .ok (.aload_n 0, 1) := by decide +kernel
theorem dX11_init_51 : decode cX11_init 51 = .ok (.new 24, 3) := by decide +kernel
theorem dX11_init_54 : decode cX11_init 54 = .ok (.dup, 1) := by decide +kernel
theorem dX11_init_55 : decode cX11_init 55 = .ok (.invokespecial 26, 3) := by decide +kernel
theorem dX11_init_58 : decode cX11_init 58 = .ok (.putfield 27, 3) := by decide +kernel
theorem dX11_init_61 : decode cX11_init 61 = .ok (.aload_n 0, 1) := by decide +kernel
theorem dX11_init_62 : decode cX11_init 62 = .ok (.new 31, 3) := by decide +kernel
theorem dX11_init_65 : decode cX11_init 65 = .ok (.dup, 1) := by decide +kernel
theorem dX11_init_66 : decode cX11_init 66 = .ok (.aload_n 0, 1) := by decide +kernel
theorem dX11_init_67 : decode cX11_init 67 = .ok (.getfield 12, 3) := by decide +kernel
theorem dX11_init_70 : decode cX11_init 70 = .ok (.invokespecial 33, 3) := by decide +kernel
theorem dX11_init_73 : decode cX11_init 73 = .ok (.putfield 36, 3) := by decide +kernel
theorem dX11_init_76 : decode cX11_init 76 = .ok (.aload_n 0, 1) := by decide +kernel
theorem dX11_init_77 : decode cX11_init 77 = .ok (.new 40, 3) := by decide +kernel
theorem dX11_init_80 : decode cX11_init 80 = .ok (.dup, 1) := by decide +kernel
theorem dX11_init_81 : decode cX11_init 81 = .ok (.aload_n 0, 1) := by decide +kernel
theorem dX11_init_82 : decode cX11_init 82 = .ok (.getfield 12, 3) := by decide +kernel
theorem dX11_init_85 : decode cX11_init 85 = .ok (.aload_n 0, 1) := by decide +kernel
theorem dX11_init_86 : decode cX11_init 86 = .ok (.getfield 36, 3) := by decide +kernel
theorem dX11_init_89 : decode cX11_init 89 = .ok (.invokespecial 42, 3) := by decide +kernel
theorem dX11_init_92 : decode cX11_init 92 = .ok (.putfield 45, 3) := by decide +kernel
theorem dX11_init_95 : decode cX11_init 95 = .ok (.aload_n 0, 1) := by decide +kernel
theorem dX11_init_96 : decode cX11_init 96 = .ok (.new 49, 3) := by decide +kernel
theorem dX11_init_99 : decode cX11_init 99 = .ok (.dup, 1) := by decide +kernel
theorem dX11_init_100 : decode cX11_init 100 = .ok (.aload_n 0, 1) := by decide +kernel
theorem dX11_init_101 : decode cX11_init 101 = .ok (.getfield 12, 3) := by decide +kernel
theorem dX11_init_104 : decode cX11_init 104 = .ok (.aload_n 0, 1) := by decide +kernel
theorem dX11_init_105 : decode cX11_init 105 = .ok (.getfield 36, 3) := by decide +kernel
theorem dX11_init_108 : decode cX11_init 108 = .ok (.invokespecial 51, 3) := by decide +kernel
theorem dX11_init_111 : decode cX11_init 111 = .ok (.putfield 52, 3) := by decide +kernel
theorem dX11_init_114 : decode cX11_init 114 = .ok (.aload_n 0, 1) := by decide +kernel
theorem dX11_init_115 : decode cX11_init 115 = .ok (.lconst 0, 1) := by decide +kernel
theorem dX11_init_116 : decode cX11_init 116 = .ok (.putfield 56, 3) := by decide +kernel
theorem dX11_init_119 : decode cX11_init 119 = .ok (.aload_n 0, 1) := by decide +kernel
theorem dX11_init_120 : decode cX11_init 120 = .ok (.lconst 1, 1) := by decide +kernel
theorem dX11_init_121 : decode cX11_init 121 = .ok (.putfield 60, 3) := by decide +kernel
theorem dX11_init_124 : decode cX11_init 124 = .ok (.aload_n 0, 1) := by decide +kernel
theorem dX11_init_125 : decode cX11_init 125 = .ok (.iconst 0, 1) := by decide +kernel
theorem dX11_init_126 : decode cX11_init 126 = .ok (.putfield 63, 3) := by decide +kernel
theorem dX11_init_129 : decode cX11_init 129 = .ok (.aload_n 0, 1) := by decide +kernel
theorem dX11_init_130 : decode cX11_init 130 = .ok (.iconst 0, 1) := by decide +kernel
theorem dX11_init_131 : decode cX11_init 131 = .ok (.putfield 67, 3) := by decide +kernel
theorem dX11_init_134 : decode cX11_init 134 = .ok (.aload_n 0, 1) := by decide +kernel
theorem dX11_init_135 : decode cX11_init 135 = .ok (.iconst 0, 1) := by decide +kernel
theorem dX11_init_136 : decode cX11_init 136 = .ok (.putfield 70, 3) := by decide +kernel
theorem dX11_init_139 : decode cX11_init 139 = .ok (.return_, 1) := by decide +kernel
theorem dX11_valley_0 : decode cX11_valley 0 = .ok (.iload_n 1, 1) := by decide +kernel
theorem dX11_valley_1 : decode cX11_valley 1 = .ok (.iconst 0, 1) := by decide +kernel
theorem dX11_valley_2 : decode cX11_valley 2 = .ok (.bipush 9, 2) := by decide +kernel
theorem dX11_valley_4 : decode cX11_valley 4 = .ok (.invokestatic 73, 3) := by decide +kernel
theorem dX11_valley_7 : decode cX11_valley 7 = .ok (.ifCond .ne 10, 3) := by decide +kernel
theorem dX11_valley_10 : decode cX11_valley 10 = .ok (.aload_n 0, 1) := by decide +kernel
theorem dX11_valley_11 : decode cX11_valley 11 = .ok (.bipush (-2), 2) := by decide +kernel
theorem dX11_valley_13 : decode cX11_valley 13 = .ok (.invokevirtual 77, 3) := by decide +kernel
theorem dX11_valley_16 : decode cX11_valley 16 = .ok (.ireturn, 1) := by decide +kernel
theorem dX11_valley_17 : decode cX11_valley 17 = .ok (.aload_n 0, 1) := by decide +kernel
theorem dX11_valley_18 : decode cX11_valley 18 = .ok (.getfield 12, 3) := by decide +kernel
theorem dX11_valley_21 : decode cX11_valley 21 = .ok (.getfield 81, 3) := by decide +kernel
theorem dX11_valley_24 : decode cX11_valley 24 = .ok (.istore_n 2, 1) := by decide +kernel
theorem dX11_valley_25 : decode cX11_valley 25 = .ok (.aload_n 0, 1) := by decide +kernel
theorem dX11_valley_26 : decode cX11_valley 26 = .ok (.getfield 12, 3) := by decide +kernel
theorem dX11_valley_29 : decode cX11_valley 29 = .ok (.iload_n 1, 1) := by decide +kernel
theorem dX11_valley_30 : decode cX11_valley 30 = .ok (.invokevirtual 84, 3) := by decide +kernel
theorem dX11_valley_33 : decode cX11_valley 33 = .ok (.iload_n 2, 1) := by decide +kernel
theorem dX11_valley_34 : decode cX11_valley 34 = .ok (.ireturn, 1) := by decide +kernel
theorem dX11_fog_0 : decode cX11_fog 0 = .ok (.iload_n 1, 1) := by decide +kernel
theorem dX11_fog_1 : decode cX11_fog 1 = .ok (.iconst 0, 1) := by decide +kernel
theorem dX11_fog_2 : decode cX11_fog 2 = .ok (.bipush 9, 2) := by decide +kernel
theorem dX11_fog_4 : decode cX11_fog 4 = .ok (.invokestatic 73, 3) := by decide +kernel
theorem dX11_fog_7 : decode cX11_fog 7 = .ok (.ifCond .ne 10, 3) := by decide +kernel
theorem dX11_fog_10 : decode cX11_fog 10 = .ok (.aload_n 0, 1) := by decide +kernel
theorem dX11_fog_11 : decode cX11_fog 11 = .ok (.bipush (-2), 2) := by decide +kernel
theorem dX11_fog_13 : decode cX11_fog 13 = .ok (.invokevirtual 77, 3) := by decide +kernel
theorem dX11_fog_16 : decode cX11_fog 16 = .ok (.ireturn, 1) := by decide +kernel
theorem dX11_fog_17 : decode cX11_fog 17 = .ok (.aload_n 0, 1) := by decide +kernel
theorem dX11_fog_18 : decode cX11_fog 18 = .ok (.getfield 12, 3) := by decide +kernel
theorem dX11_fog_21 : decode cX11_fog 21 = .ok (.getfield 88, 3) := by decide +kernel
theorem dX11_fog_24 : decode cX11_fog 24 = .ok (.istore_n 2, 1) := by decide +kernel
theorem dX11_fog_25 : decode cX11_fog 25 = .ok (.aload_n 0, 1) := by decide +kernel
theorem dX11_fog_26 : decode cX11_fog 26 = .ok (.getfield 12, 3) := by decide +kernel
theorem dX11_fog_29 : decode cX11_fog 29 = .ok (.iload_n 1, 1) := by decide +kernel
theorem dX11_fog_30 : decode cX11_fog 30 = .ok (.putfield 88, 3) := by decide +kernel
theorem dX11_fog_33 : decode cX11_fog 33 = .ok (.iload_n 2, 1) := by decide +kernel
theorem dX11_fog_34 : decode cX11_fog 34 = .ok (.ireturn, 1) := by decide +kernel
theorem dX11_candle_0 : decode cX11_candle 0 = .ok (.iload_n 1, 1) := by decide +kernel
theorem dX11_candle_1 : decode cX11_candle 1 = .ok (.iconst 0, 1) := by decide +kernel
theorem dX11_candle_2 : decode cX11_candle 2 = .ok (.iconst 5, 1) := by decide +kernel
theorem dX11_candle_3 : decode cX11_candle 3 = .ok (.invokestatic 73, 3) := by decide +kernel
theorem dX11_candle_6 : decode cX11_candle 6 = .ok (.ifCond .eq 39, 3) := by decide +kernel
theorem dX11_candle_9 : decode cX11_candle 9 = .ok (.iload_n 2, 1) := by decide +kernel
theorem dX11_candle_10 : decode cX11_candle 10 = .ok (.invokestatic 91, 3) := by decide +kernel
theorem dX11_candle_13 : decode cX11_candle 13 = .ok (.ifCond .eq 32, 3) := by decide +kernel
theorem dX11_candle_16 : decode cX11_candle 16 = .ok (.iload_n 3, 1) := by decide +kernel
theorem dX11_candle_17 : decode cX11_candle 17 = .ok (.iconst 1, 1) := by decide +kernel
theorem dX11_candle_18 : decode cX11_candle 18 = .ok (.bipush 20, 2) := by decide +kernel
theorem dX11_candle_20 : decode cX11_candle 20 = .ok (.invokestatic 73, 3) := by decide +kernel
theorem dX11_candle_23 : decode cX11_candle 23 = .ok (.ifCond .eq 22, 3) := by decide +kernel
theorem dX11_candle_26 : decode cX11_candle 26 = .ok (.iload 4, 2) := by decide +kernel
theorem dX11_candle_28 : decode cX11_candle 28 = .ok (.invokestatic 95, 3) := by decide +kernel
theorem dX11_candle_31 : decode cX11_candle 31 = .ok (.ifCond .eq 14, 3) := by decide +kernel
theorem dX11_candle_34 : decode cX11_candle 34 = .ok (.iload 5, 2) := by decide +kernel
theorem dX11_candle_36 : decode cX11_candle 36 = .ok (.iconst 0, 1) := by decide +kernel
theorem dX11_candle_37 : decode cX11_candle 37 = .ok (.bipush 12, 2) := by decide +kernel
theorem dX11_candle_39 : decode cX11_candle 39 = .ok (.invokestatic 73, 3) := by decide +kernel
theorem dX11_candle_42 : decode cX11_candle 42 = .ok (.ifCond .ne 10, 3) := by decide +kernel
theorem dX11_candle_45 : decode cX11_candle 45 = .ok (.aload_n 0, 1) := by decide +kernel
theorem dX11_candle_46 : decode cX11_candle 46 = .ok (.bipush (-2), 2) := by decide +kernel
theorem dX11_candle_48 : decode cX11_candle 48 = .ok (.invokevirtual 77, 3) := by decide +kernel
theorem dX11_candle_51 : decode cX11_candle 51 = .ok (.ireturn, 1) := by decide +kernel
theorem dX11_candle_52 : decode cX11_candle 52 = .ok (.aload_n 0, 1) := by decide +kernel
theorem dX11_candle_53 : decode cX11_candle 53 = .ok (.getfield 12, 3) := by decide +kernel
theorem dX11_candle_56 : decode cX11_candle 56 = .ok (.getfield 81, 3) := by decide +kernel
theorem dX11_candle_59 : decode cX11_candle 59 = .ok (.bipush 7, 2) := by decide +kernel
theorem dX11_candle_61 : decode cX11_candle 61 = .ok (.if_icmp .lt 8, 3) := by decide +kernel
theorem dX11_candle_64 : decode cX11_candle 64 = .ok (.aload_n 0, 1) := by decide +kernel
theorem dX11_candle_65 : decode cX11_candle 65 = .ok (.invokevirtual 98, 3) := by decide +kernel
theorem dX11_candle_68 : decode cX11_candle 68 = .ok (.ireturn, 1) := by decide +kernel
theorem dX11_candle_69 : decode cX11_candle 69 = .ok (.aload_n 0, 1) := by decide +kernel
theorem dX11_candle_70 : decode cX11_candle 70 = .ok (.getfield 12, 3) := by decide +kernel
theorem dX11_candle_73 : decode cX11_candle 73 = .ok (.iload_n 1, 1) := by decide +kernel
theorem dX11_candle_74 : decode cX11_candle 74 = .ok (.iload_n 2, 1) := by decide +kernel
theorem dX11_candle_75 : decode cX11_candle 75 = .ok (.iload_n 3, 1) := by decide +kernel
theorem dX11_candle_76 : decode cX11_candle 76 = .ok (.iload 4, 2) := by decide +kernel
theorem dX11_candle_78 : decode cX11_candle 78 = .ok (.iload 5, 2) := by decide +kernel
theorem dX11_candle_80 : decode cX11_candle 80 = .ok (.invokevirtual 102, 3) := by decide +kernel
theorem dX11_candle_83 : decode cX11_candle 83 = .ok (.ireturn, 1) := by decide +kernel
theorem dX11_move_0 : decode cX11_move 0 = .ok (.aload_n 0, 1) := by decide +kernel
theorem dX11_move_1 : decode cX11_move 1 = .ok (.getfield 12, 3) := by decide +kernel
theorem dX11_move_4 : decode cX11_move 4 = .ok (.iload_n 1, 1) := by decide +kernel
theorem dX11_move_5 : decode cX11_move 5 = .ok (.invokevirtual 106, 3) := by decide +kernel
theorem dX11_move_8 : decode cX11_move 8 = .ok (.ifCond .eq 10, 3) := by decide +kernel
theorem dX11_move_11 : decode cX11_move 11 = .ok (.iload_n 2, 1) := by decide +kernel
theorem dX11_move_12 : decode cX11_move 12 = .ok (.invokestatic 91, 3) := by decide +kernel
theorem dX11_move_15 : decode cX11_move 15 = .ok (.ifCond .ne 10, 3) := by decide +kernel
theorem dX11_move_18 : decode cX11_move 18 = .ok (.aload_n 0, 1) := by decide +kernel
theorem dX11_move_19 : decode cX11_move 19 = .ok (.bipush (-2), 2) := by decide +kernel
theorem dX11_move_21 : decode cX11_move 21 = .ok (.invokevirtual 77, 3) := by decide +kernel
theorem dX11_move_24 : decode cX11_move 24 = .ok (.ireturn, 1) := by decide +kernel
theorem dX11_move_25 : decode cX11_move 25 = .ok (.aload_n 0, 1) := by decide +kernel
theorem dX11_move_26 : decode cX11_move 26 = .ok (.getfield 12, 3) := by decide +kernel
theorem dX11_move_29 : decode cX11_move 29 = .ok (.invokevirtual 109, 3) := by decide +kernel
theorem dX11_move_32 : decode cX11_move 32 = .ok (.aload_n 0, 1) := by decide +kernel
theorem dX11_move_33 : decode cX11_move 33 = .ok (.getfield 12, 3) := by decide +kernel
theorem dX11_move_36 : decode cX11_move 36 = .ok (.getfield 112, 3) := by decide +kernel
theorem dX11_move_39 : decode cX11_move 39 = .ok (.iload_n 1, 1) := by decide +kernel
theorem dX11_move_40 : decode cX11_move 40 = .ok (.iaload, 1) := by decide +kernel
theorem dX11_move_41 : decode cX11_move 41 = .ok (.istore_n 3, 1) := by decide +kernel
theorem dX11_move_42 : decode cX11_move 42 = .ok (.aload_n 0, 1) := by decide +kernel
theorem dX11_move_43 : decode cX11_move 43 = .ok (.getfield 12, 3) := by decide +kernel
theorem dX11_move_46 : decode cX11_move 46 = .ok (.getfield 112, 3) := by decide +kernel
theorem dX11_move_49 : decode cX11_move 49 = .ok (.iload_n 1, 1) := by decide +kernel
theorem dX11_move_50 : decode cX11_move 50 = .ok (.iload_n 2, 1) := by decide +kernel
theorem dX11_move_51 : decode cX11_move 51 = .ok (.iastore, 1) := by decide +kernel
theorem dX11_move_52 : decode cX11_move 52 = .ok (.iload_n 3, 1) := by decide +kernel
theorem dX11_move_53 : decode cX11_move 53 = .ok (.ireturn, 1) := by decide +kernel
theorem dX11_light_0 : decode cX11_light 0 = .ok (.aload_n 0, 1) := by decide +kernel
theorem dX11_light_1 : decode cX11_light 1 = .ok (.getfield 12, 3) := by decide +kernel
theorem dX11_light_4 : decode cX11_light 4 = .ok (.iload_n 1, 1) := by decide +kernel
theorem dX11_light_5 : decode cX11_light 5 = .ok (.invokevirtual 106, 3) := by decide +kernel
theorem dX11_light_8 : decode cX11_light 8 = .ok (.ifCond .eq 12, 3) := by decide +kernel
theorem dX11_light_11 : decode cX11_light 11 = .ok (.iload_n 2, 1) := by decide +kernel
theorem dX11_light_12 : decode cX11_light 12 = .ok (.iconst 0, 1) := by decide +kernel
theorem dX11_light_13 : decode cX11_light 13 = .ok (.iconst 1, 1) := by decide +kernel
theorem dX11_light_14 : decode cX11_light 14 = .ok (.invokestatic 73, 3) := by decide +kernel
theorem dX11_light_17 : decode cX11_light 17 = .ok (.ifCond .ne 10, 3) := by decide +kernel
theorem dX11_light_20 : decode cX11_light 20 = .ok (.aload_n 0, 1) := by decide +kernel
theorem dX11_light_21 : decode cX11_light 21 = .ok (.bipush (-2), 2) := by decide +kernel
theorem dX11_light_23 : decode cX11_light 23 = .ok (.invokevirtual 77, 3) := by decide +kernel
theorem dX11_light_26 : decode cX11_light 26 = .ok (.ireturn, 1) := by decide +kernel
theorem dX11_light_27 : decode cX11_light 27 = .ok (.aload_n 0, 1) := by decide +kernel
theorem dX11_light_28 : decode cX11_light 28 = .ok (.getfield 12, 3) := by decide +kernel
theorem dX11_light_31 : decode cX11_light 31 = .ok (.iload_n 1, 1) := by decide +kernel
theorem dX11_light_32 : decode cX11_light 32 = .ok (.invokevirtual 116, 3) := by decide +kernel
theorem dX11_light_35 : decode cX11_light 35 = .ok (.iload_n 2, 1) := by decide +kernel
theorem dX11_light_36 : decode cX11_light 36 = .ok (.if_icmp .ne 8, 3) := by decide +kernel
theorem dX11_light_39 : decode cX11_light 39 = .ok (.aload_n 0, 1) := by decide +kernel
theorem dX11_light_40 : decode cX11_light 40 = .ok (.invokevirtual 119, 3) := by decide +kernel
theorem dX11_light_43 : decode cX11_light 43 = .ok (.ireturn, 1) := by decide +kernel
theorem dX11_light_44 : decode cX11_light 44 = .ok (.aload_n 0, 1) := by decide +kernel
theorem dX11_light_45 : decode cX11_light 45 = .ok (.getfield 12, 3) := by decide +kernel
theorem dX11_light_48 : decode cX11_light 48 = .ok (.invokevirtual 109, 3) := by decide +kernel
theorem dX11_light_51 : decode cX11_light 51 = .ok (.aload_n 0, 1) := by decide +kernel
theorem dX11_light_52 : decode cX11_light 52 = .ok (.getfield 12, 3) := by decide +kernel
theorem dX11_light_55 : decode cX11_light 55 = .ok (.aload_n 0, 1) := by decide +kernel
theorem dX11_light_56 : decode cX11_light 56 = .ok (.getfield 12, 3) := by decide +kernel
theorem dX11_light_59 : decode cX11_light 59 = .ok (.getfield 122, 3) := by decide +kernel
theorem dX11_light_62 : decode cX11_light 62 = .ok (.iconst 1, 1) := by decide +kernel
theorem dX11_light_63 : decode cX11_light 63 = .ok (.iload_n 1, 1) := by decide +kernel
theorem dX11_light_64 : decode cX11_light 64 = .ok (.ishl, 1) := by decide +kernel
theorem dX11_light_65 : decode cX11_light 65 = .ok (.ixor, 1) := by decide +kernel
theorem dX11_light_66 : decode cX11_light 66 = .ok (.putfield 122, 3) := by decide +kernel
theorem dX11_light_69 : decode cX11_light 69 = .ok (.iconst 1, 1) := by decide +kernel
theorem dX11_light_70 : decode cX11_light 70 = .ok (.ireturn, 1) := by decide +kernel
end
section
theorem dX11_undo_0 : decode cX11_undo 0 = .ok (.aload_n 0, 1) := by decide +kernel
theorem dX11_undo_1 : decode cX11_undo 1 = .ok (.getfield 12, 3) := by decide +kernel
theorem dX11_undo_4 : decode cX11_undo 4 = .ok (.getfield 125, 3) := by decide +kernel
theorem dX11_undo_7 : decode cX11_undo 7 = .ok (.ifCond .gt 8, 3) := by decide +kernel
theorem dX11_undo_10 : decode cX11_undo 10 = .ok (.aload_n 0, 1) := by decide +kernel
theorem dX11_undo_11 : decode cX11_undo 11 = .ok (.invokevirtual 119, 3) := by decide +kernel
theorem dX11_undo_14 : decode cX11_undo 14 = .ok (.ireturn, 1) := by decide +kernel
theorem dX11_undo_15 : decode cX11_undo 15 = .ok (.aload_n 0, 1) := by decide +kernel
theorem dX11_undo_16 : decode cX11_undo 16 = .ok (.getfield 12, 3) := by decide +kernel
theorem dX11_undo_19 : decode cX11_undo 19 = .ok (.invokevirtual 128, 3) := by decide +kernel
theorem dX11_undo_22 : decode cX11_undo 22 = .ok (.aload_n 0, 1) := by decide +kernel
theorem dX11_undo_23 : decode cX11_undo 23 = .ok (.getfield 12, 3) := by decide +kernel
theorem dX11_undo_26 : decode cX11_undo 26 = .ok (.getfield 122, 3) := by decide +kernel
theorem dX11_undo_29 : decode cX11_undo 29 = .ok (.ireturn, 1) := by decide +kernel
theorem dX11_type_0 : decode cX11_type 0 = .ok (.iload_n 1, 1) := by decide +kernel
theorem dX11_type_1 : decode cX11_type 1 = .ok (.iconst 0, 1) := by decide +kernel
theorem dX11_type_2 : decode cX11_type 2 = .ok (.bipush 127, 2) := by decide +kernel
theorem dX11_type_4 : decode cX11_type 4 = .ok (.invokestatic 73, 3) := by decide +kernel
theorem dX11_type_7 : decode cX11_type 7 = .ok (.ifCond .ne 10, 3) := by decide +kernel
theorem dX11_type_10 : decode cX11_type 10 = .ok (.aload_n 0, 1) := by decide +kernel
theorem dX11_type_11 : decode cX11_type 11 = .ok (.bipush (-2), 2) := by decide +kernel
theorem dX11_type_13 : decode cX11_type 13 = .ok (.invokevirtual 77, 3) := by decide +kernel
theorem dX11_type_16 : decode cX11_type 16 = .ok (.ireturn, 1) := by decide +kernel
theorem dX11_type_17 : decode cX11_type 17 = .ok (.aload_n 0, 1) := by decide +kernel
theorem dX11_type_18 : decode cX11_type 18 = .ok (.getfield 27, 3) := by decide +kernel
theorem dX11_type_21 : decode cX11_type 21 = .ok (.getfield 131, 3) := by decide +kernel
theorem dX11_type_24 : decode cX11_type 24 = .ok (.sipush 150, 3) := by decide +kernel
theorem dX11_type_27 : decode cX11_type 27 = .ok (.if_icmp .lt 8, 3) := by decide +kernel
theorem dX11_type_30 : decode cX11_type 30 = .ok (.aload_n 0, 1) := by decide +kernel
theorem dX11_type_31 : decode cX11_type 31 = .ok (.invokevirtual 98, 3) := by decide +kernel
theorem dX11_type_34 : decode cX11_type 34 = .ok (.ireturn, 1) := by decide +kernel
theorem dX11_type_35 : decode cX11_type 35 = .ok (.aload_n 0, 1) := by decide +kernel
theorem dX11_type_36 : decode cX11_type 36 = .ok (.getfield 27, 3) := by decide +kernel
theorem dX11_type_39 : decode cX11_type 39 = .ok (.iload_n 1, 1) := by decide +kernel
theorem dX11_type_40 : decode cX11_type 40 = .ok (.invokevirtual 134, 3) := by decide +kernel
theorem dX11_type_43 : decode cX11_type 43 = .ok (.ireturn, 1) := by decide +kernel
theorem dX11_clear_0 : decode cX11_clear 0 = .ok (.aload_n 0, 1) := by decide +kernel
theorem dX11_clear_1 : decode cX11_clear 1 = .ok (.getfield 27, 3) := by decide +kernel
theorem dX11_clear_4 : decode cX11_clear 4 = .ok (.getfield 131, 3) := by decide +kernel
theorem dX11_clear_7 : decode cX11_clear 7 = .ok (.istore_n 1, 1) := by decide +kernel
theorem dX11_clear_8 : decode cX11_clear 8 = .ok (.aload_n 0, 1) := by decide +kernel
theorem dX11_clear_9 : decode cX11_clear 9 = .ok (.getfield 27, 3) := by decide +kernel
theorem dX11_clear_12 : decode cX11_clear 12 = .ok (.iconst 0, 1) := by decide +kernel
theorem dX11_clear_13 : decode cX11_clear 13 = .ok (.putfield 131, 3) := by decide +kernel
theorem dX11_clear_16 : decode cX11_clear 16 = .ok (.iload_n 1, 1) := by decide +kernel
theorem dX11_clear_17 : decode cX11_clear 17 = .ok (.ireturn, 1) := by decide +kernel
theorem dX11_read_0 : decode cX11_read 0 = .ok (.aload_n 0, 1) := by decide +kernel
theorem dX11_read_1 : decode cX11_read 1 = .ok (.getfield 27, 3) := by decide +kernel
theorem dX11_read_4 : decode cX11_read 4 = .ok (.invokevirtual 137, 3) := by decide +kernel
theorem dX11_read_7 : decode cX11_read 7 = .ok (.istore_n 1, 1) := by decide +kernel
theorem dX11_read_8 : decode cX11_read 8 = .ok (.iload_n 1, 1) := by decide +kernel
theorem dX11_read_9 : decode cX11_read 9 = .ok (.ifCond .lt 17, 3) := by decide +kernel
theorem dX11_read_12 : decode cX11_read 12 = .ok (.aload_n 0, 1) := by decide +kernel
theorem dX11_read_13 : decode cX11_read 13 = .ok (.getfield 12, 3) := by decide +kernel
theorem dX11_read_16 : decode cX11_read 16 = .ok (.aload_n 0, 1) := by decide +kernel
theorem dX11_read_17 : decode cX11_read 17 = .ok (.getfield 27, 3) := by decide +kernel
theorem dX11_read_20 : decode cX11_read 20 = .ok (.getfield 140, 3) := by decide +kernel
theorem dX11_read_23 : decode cX11_read 23 = .ok (.invokevirtual 143, 3) := by decide +kernel
theorem dX11_read_26 : decode cX11_read 26 = .ok (.iload_n 1, 1) := by decide +kernel
theorem dX11_read_27 : decode cX11_read 27 = .ok (.ireturn, 1) := by decide +kernel
theorem dX11_of_0 : decode cX11_of 0 = .ok (.aload_n 0, 1) := by decide +kernel
theorem dX11_of_1 : decode cX11_of 1 = .ok (.getfield 12, 3) := by decide +kernel
theorem dX11_of_4 : decode cX11_of 4 = .ok (.iload_n 1, 1) := by decide +kernel
theorem dX11_of_5 : decode cX11_of 5 = .ok (.invokevirtual 106, 3) := by decide +kernel
theorem dX11_of_8 : decode cX11_of 8 = .ok (.ifCond .ne 10, 3) := by decide +kernel
theorem dX11_of_11 : decode cX11_of 11 = .ok (.aload_n 0, 1) := by decide +kernel
theorem dX11_of_12 : decode cX11_of 12 = .ok (.bipush (-2), 2) := by decide +kernel
theorem dX11_of_14 : decode cX11_of 14 = .ok (.invokevirtual 77, 3) := by decide +kernel
theorem dX11_of_17 : decode cX11_of 17 = .ok (.ireturn, 1) := by decide +kernel
theorem dX11_of_18 : decode cX11_of 18 = .ok (.iload_n 2, 1) := by decide +kernel
theorem dX11_of_19 : decode cX11_of 19 = .ok (.tableswitch 109 0 6 #[41, 51, 61, 71, 81, 91, 100], 41) := by decide +kernel
theorem dX11_of_60 : decode cX11_of 60 = .ok (.aload_n 0, 1) := by decide +kernel
theorem dX11_of_61 : decode cX11_of 61 = .ok (.getfield 12, 3) := by decide +kernel
theorem dX11_of_64 : decode cX11_of 64 = .ok (.getfield 146, 3) := by decide +kernel
theorem dX11_of_67 : decode cX11_of 67 = .ok (.iload_n 1, 1) := by decide +kernel
theorem dX11_of_68 : decode cX11_of 68 = .ok (.iaload, 1) := by decide +kernel
theorem dX11_of_69 : decode cX11_of 69 = .ok (.ireturn, 1) := by decide +kernel
theorem dX11_of_70 : decode cX11_of 70 = .ok (.aload_n 0, 1) := by decide +kernel
theorem dX11_of_71 : decode cX11_of 71 = .ok (.getfield 12, 3) := by decide +kernel
theorem dX11_of_74 : decode cX11_of 74 = .ok (.getfield 112, 3) := by decide +kernel
theorem dX11_of_77 : decode cX11_of 77 = .ok (.iload_n 1, 1) := by decide +kernel
theorem dX11_of_78 : decode cX11_of 78 = .ok (.iaload, 1) := by decide +kernel
theorem dX11_of_79 : decode cX11_of 79 = .ok (.ireturn, 1) := by decide +kernel
theorem dX11_of_80 : decode cX11_of 80 = .ok (.aload_n 0, 1) := by decide +kernel
theorem dX11_of_81 : decode cX11_of 81 = .ok (.getfield 12, 3) := by decide +kernel
theorem dX11_of_84 : decode cX11_of 84 = .ok (.getfield 149, 3) := by decide +kernel
theorem dX11_of_87 : decode cX11_of 87 = .ok (.iload_n 1, 1) := by decide +kernel
theorem dX11_of_88 : decode cX11_of 88 = .ok (.iaload, 1) := by decide +kernel
theorem dX11_of_89 : decode cX11_of 89 = .ok (.ireturn, 1) := by decide +kernel
theorem dX11_of_90 : decode cX11_of 90 = .ok (.aload_n 0, 1) := by decide +kernel
theorem dX11_of_91 : decode cX11_of 91 = .ok (.getfield 12, 3) := by decide +kernel
theorem dX11_of_94 : decode cX11_of 94 = .ok (.getfield 152, 3) := by decide +kernel
theorem dX11_of_97 : decode cX11_of 97 = .ok (.iload_n 1, 1) := by decide +kernel
theorem dX11_of_98 : decode cX11_of 98 = .ok (.iaload, 1) := by decide +kernel
theorem dX11_of_99 : decode cX11_of 99 = .ok (.ireturn, 1) := by decide +kernel
theorem dX11_of_100 : decode cX11_of 100 = .ok (.aload_n 0, 1) := by decide +kernel
theorem dX11_of_101 : decode cX11_of 101 = .ok (.getfield 12, 3) := by decide +kernel
theorem dX11_of_104 : decode cX11_of 104 = .ok (.getfield 155, 3) := by decide +kernel
theorem dX11_of_107 : decode cX11_of 107 = .ok (.iload_n 1, 1) := by decide +kernel
theorem dX11_of_108 : decode cX11_of 108 = .ok (.iaload, 1) := by decide +kernel
theorem dX11_of_109 : decode cX11_of 109 = .ok (.ireturn, 1) := by decide +kernel
theorem dX11_of_110 : decode cX11_of 110 = .ok (.aload_n 0, 1) := by decide +kernel
theorem dX11_of_111 : decode cX11_of 111 = .ok (.getfield 12, 3) := by decide +kernel
theorem dX11_of_114 : decode cX11_of 114 = .ok (.iload_n 1, 1) := by decide +kernel
theorem dX11_of_115 : decode cX11_of 115 = .ok (.invokevirtual 116, 3) := by decide +kernel
theorem dX11_of_118 : decode cX11_of 118 = .ok (.ireturn, 1) := by decide +kernel
theorem dX11_of_119 : decode cX11_of 119 = .ok (.aload_n 0, 1) := by decide +kernel
theorem dX11_of_120 : decode cX11_of 120 = .ok (.getfield 36, 3) := by decide +kernel
theorem dX11_of_123 : decode cX11_of 123 = .ok (.iload_n 1, 1) := by decide +kernel
theorem dX11_of_124 : decode cX11_of 124 = .ok (.invokevirtual 158, 3) := by decide +kernel
theorem dX11_of_127 : decode cX11_of 127 = .ok (.ireturn, 1) := by decide +kernel
theorem dX11_of_128 : decode cX11_of 128 = .ok (.aload_n 0, 1) := by decide +kernel
theorem dX11_of_129 : decode cX11_of 129 = .ok (.bipush (-2), 2) := by decide +kernel
theorem dX11_of_131 : decode cX11_of 131 = .ok (.invokevirtual 77, 3) := by decide +kernel
theorem dX11_of_134 : decode cX11_of 134 = .ok (.ireturn, 1) := by decide +kernel
theorem dX11_shines_0 : decode cX11_shines 0 = .ok (.aload_n 0, 1) := by decide +kernel
theorem dX11_shines_1 : decode cX11_shines 1 = .ok (.getfield 12, 3) := by decide +kernel
theorem dX11_shines_4 : decode cX11_shines 4 = .ok (.iload_n 1, 1) := by decide +kernel
theorem dX11_shines_5 : decode cX11_shines 5 = .ok (.invokevirtual 106, 3) := by decide +kernel
theorem dX11_shines_8 : decode cX11_shines 8 = .ok (.ifCond .eq 17, 3) := by decide +kernel
theorem dX11_shines_11 : decode cX11_shines 11 = .ok (.iload_n 2, 1) := by decide +kernel
theorem dX11_shines_12 : decode cX11_shines 12 = .ok (.invokestatic 91, 3) := by decide +kernel
theorem dX11_shines_15 : decode cX11_shines 15 = .ok (.ifCond .eq 10, 3) := by decide +kernel
theorem dX11_shines_18 : decode cX11_shines 18 = .ok (.iload_n 3, 1) := by decide +kernel
theorem dX11_shines_19 : decode cX11_shines 19 = .ok (.invokestatic 161, 3) := by decide +kernel
theorem dX11_shines_22 : decode cX11_shines 22 = .ok (.ifCond .ne 10, 3) := by decide +kernel
theorem dX11_shines_25 : decode cX11_shines 25 = .ok (.aload_n 0, 1) := by decide +kernel
theorem dX11_shines_26 : decode cX11_shines 26 = .ok (.bipush (-2), 2) := by decide +kernel
theorem dX11_shines_28 : decode cX11_shines 28 = .ok (.invokevirtual 77, 3) := by decide +kernel
theorem dX11_shines_31 : decode cX11_shines 31 = .ok (.ireturn, 1) := by decide +kernel
theorem dX11_shines_32 : decode cX11_shines 32 = .ok (.aload_n 0, 1) := by decide +kernel
theorem dX11_shines_33 : decode cX11_shines 33 = .ok (.getfield 12, 3) := by decide +kernel
theorem dX11_shines_36 : decode cX11_shines 36 = .ok (.iload_n 1, 1) := by decide +kernel
theorem dX11_shines_37 : decode cX11_shines 37 = .ok (.invokevirtual 116, 3) := by decide +kernel
theorem dX11_shines_40 : decode cX11_shines 40 = .ok (.iconst 1, 1) := by decide +kernel
theorem dX11_shines_41 : decode cX11_shines 41 = .ok (.if_icmp .ne 24, 3) := by decide +kernel
theorem dX11_shines_44 : decode cX11_shines 44 = .ok (.aload_n 0, 1) := by decide +kernel
theorem dX11_shines_45 : decode cX11_shines 45 = .ok (.getfield 36, 3) := by decide +kernel
theorem dX11_shines_48 : decode cX11_shines 48 = .ok (.iload_n 1, 1) := by decide +kernel
theorem dX11_shines_49 : decode cX11_shines 49 = .ok (.aload_n 0, 1) := by decide +kernel
theorem dX11_shines_50 : decode cX11_shines 50 = .ok (.getfield 12, 3) := by decide +kernel
theorem dX11_shines_53 : decode cX11_shines 53 = .ok (.iload_n 1, 1) := by decide +kernel
theorem dX11_shines_54 : decode cX11_shines 54 = .ok (.iload_n 2, 1) := by decide +kernel
theorem dX11_shines_55 : decode cX11_shines 55 = .ok (.invokevirtual 164, 3) := by decide +kernel
theorem dX11_shines_58 : decode cX11_shines 58 = .ok (.iload_n 3, 1) := by decide +kernel
theorem dX11_shines_59 : decode cX11_shines 59 = .ok (.invokevirtual 168, 3) := by decide +kernel
theorem dX11_shines_62 : decode cX11_shines 62 = .ok (.goto 4, 3) := by decide +kernel
theorem dX11_shines_65 : decode cX11_shines 65 = .ok (.iconst 0, 1) := by decide +kernel
theorem dX11_shines_66 : decode cX11_shines 66 = .ok (.ireturn, 1) := by decide +kernel
theorem dX11_cell_0 : decode cX11_cell 0 = .ok (.iload_n 1, 1) := by decide +kernel
theorem dX11_cell_1 : decode cX11_cell 1 = .ok (.invokestatic 91, 3) := by decide +kernel
theorem dX11_cell_4 : decode cX11_cell 4 = .ok (.ifCond .eq 19, 3) := by decide +kernel
theorem dX11_cell_7 : decode cX11_cell 7 = .ok (.iload_n 2, 1) := by decide +kernel
theorem dX11_cell_8 : decode cX11_cell 8 = .ok (.invokestatic 161, 3) := by decide +kernel
theorem dX11_cell_11 : decode cX11_cell 11 = .ok (.ifCond .eq 12, 3) := by decide +kernel
theorem dX11_cell_14 : decode cX11_cell 14 = .ok (.iload_n 3, 1) := by decide +kernel
theorem dX11_cell_15 : decode cX11_cell 15 = .ok (.iconst 0, 1) := by decide +kernel
theorem dX11_cell_16 : decode cX11_cell 16 = .ok (.iconst 2, 1) := by decide +kernel
theorem dX11_cell_17 : decode cX11_cell 17 = .ok (.invokestatic 73, 3) := by decide +kernel
theorem dX11_cell_20 : decode cX11_cell 20 = .ok (.ifCond .ne 10, 3) := by decide +kernel
theorem dX11_cell_23 : decode cX11_cell 23 = .ok (.aload_n 0, 1) := by decide +kernel
theorem dX11_cell_24 : decode cX11_cell 24 = .ok (.bipush (-10), 2) := by decide +kernel
theorem dX11_cell_26 : decode cX11_cell 26 = .ok (.invokevirtual 77, 3) := by decide +kernel
theorem dX11_cell_29 : decode cX11_cell 29 = .ok (.ireturn, 1) := by decide +kernel
theorem dX11_cell_30 : decode cX11_cell 30 = .ok (.aload_n 0, 1) := by decide +kernel
theorem dX11_cell_31 : decode cX11_cell 31 = .ok (.getfield 36, 3) := by decide +kernel
theorem dX11_cell_34 : decode cX11_cell 34 = .ok (.iload_n 1, 1) := by decide +kernel
theorem dX11_cell_35 : decode cX11_cell 35 = .ok (.iload_n 2, 1) := by decide +kernel
theorem dX11_cell_36 : decode cX11_cell 36 = .ok (.invokevirtual 172, 3) := by decide +kernel
theorem dX11_cell_39 : decode cX11_cell 39 = .ok (.iload_n 3, 1) := by decide +kernel
theorem dX11_cell_40 : decode cX11_cell 40 = .ok (.ifCond .ne 19, 3) := by decide +kernel
theorem dX11_cell_43 : decode cX11_cell 43 = .ok (.aload_n 0, 1) := by decide +kernel
theorem dX11_cell_44 : decode cX11_cell 44 = .ok (.getfield 36, 3) := by decide +kernel
theorem dX11_cell_47 : decode cX11_cell 47 = .ok (.iload_n 1, 1) := by decide +kernel
theorem dX11_cell_48 : decode cX11_cell 48 = .ok (.aload_n 0, 1) := by decide +kernel
theorem dX11_cell_49 : decode cX11_cell 49 = .ok (.getfield 12, 3) := by decide +kernel
theorem dX11_cell_52 : decode cX11_cell 52 = .ok (.getfield 122, 3) := by decide +kernel
theorem dX11_cell_55 : decode cX11_cell 55 = .ok (.invokevirtual 176, 3) := by decide +kernel
theorem dX11_cell_58 : decode cX11_cell 58 = .ok (.ireturn, 1) := by decide +kernel
theorem dX11_cell_59 : decode cX11_cell 59 = .ok (.aload_n 0, 1) := by decide +kernel
theorem dX11_cell_60 : decode cX11_cell 60 = .ok (.getfield 36, 3) := by decide +kernel
theorem dX11_cell_63 : decode cX11_cell 63 = .ok (.iload_n 1, 1) := by decide +kernel
theorem dX11_cell_64 : decode cX11_cell 64 = .ok (.aload_n 0, 1) := by decide +kernel
theorem dX11_cell_65 : decode cX11_cell 65 = .ok (.getfield 12, 3) := by decide +kernel
theorem dX11_cell_68 : decode cX11_cell 68 = .ok (.getfield 122, 3) := by decide +kernel
theorem dX11_cell_71 : decode cX11_cell 71 = .ok (.aload_n 0, 1) := by decide +kernel
theorem dX11_cell_72 : decode cX11_cell 72 = .ok (.getfield 12, 3) := by decide +kernel
theorem dX11_cell_75 : decode cX11_cell 75 = .ok (.getfield 152, 3) := by decide +kernel
theorem dX11_cell_78 : decode cX11_cell 78 = .ok (.invokevirtual 179, 3) := by decide +kernel
theorem dX11_cell_81 : decode cX11_cell 81 = .ok (.istore 4, 2) := by decide +kernel
theorem dX11_cell_83 : decode cX11_cell 83 = .ok (.iload_n 3, 1) := by decide +kernel
theorem dX11_cell_84 : decode cX11_cell 84 = .ok (.iconst 1, 1) := by decide +kernel
theorem dX11_cell_85 : decode cX11_cell 85 = .ok (.if_icmp .ne 17, 3) := by decide +kernel
theorem dX11_cell_88 : decode cX11_cell 88 = .ok (.iload 4, 2) := by decide +kernel
theorem dX11_cell_90 : decode cX11_cell 90 = .ok (.bipush (-2), 2) := by decide +kernel
theorem dX11_cell_92 : decode cX11_cell 92 = .ok (.if_icmp .ne 7, 3) := by decide +kernel
theorem dX11_cell_95 : decode cX11_cell 95 = .ok (.iconst (-1), 1) := by decide +kernel
theorem dX11_cell_96 : decode cX11_cell 96 = .ok (.goto 5, 3) := by decide +kernel
theorem dX11_cell_99 : decode cX11_cell 99 = .ok (.iload 4, 2) := by decide +kernel
theorem dX11_cell_101 : decode cX11_cell 101 = .ok (.ireturn, 1) := by decide +kernel
theorem dX11_cell_102 : decode cX11_cell 102 = .ok (.iload 4, 2) := by decide +kernel
theorem dX11_cell_104 : decode cX11_cell 104 = .ok (.bipush (-2), 2) := by decide +kernel
theorem dX11_cell_106 : decode cX11_cell 106 = .ok (.if_icmp .ne 7, 3) := by decide +kernel
theorem dX11_cell_109 : decode cX11_cell 109 = .ok (.iconst 1, 1) := by decide +kernel
theorem dX11_cell_110 : decode cX11_cell 110 = .ok (.goto 4, 3) := by decide +kernel
theorem dX11_cell_113 : decode cX11_cell 113 = .ok (.iconst 0, 1) := by decide +kernel
theorem dX11_cell_114 : decode cX11_cell 114 = .ok (.ireturn, 1) := by decide +kernel
theorem dX11_acres_0 : decode cX11_acres 0 = .ok (.iload_n 1, 1) := by decide +kernel
theorem dX11_acres_1 : decode cX11_acres 1 = .ok (.invokestatic 95, 3) := by decide +kernel
theorem dX11_acres_4 : decode cX11_acres 4 = .ok (.ifCond .eq 15, 3) := by decide +kernel
theorem dX11_acres_7 : decode cX11_acres 7 = .ok (.iload_n 2, 1) := by decide +kernel
theorem dX11_acres_8 : decode cX11_acres 8 = .ok (.invokestatic 161, 3) := by decide +kernel
theorem dX11_acres_11 : decode cX11_acres 11 = .ok (.ifCond .eq 8, 3) := by decide +kernel
theorem dX11_acres_14 : decode cX11_acres 14 = .ok (.iload_n 3, 1) := by decide +kernel
theorem dX11_acres_15 : decode cX11_acres 15 = .ok (.iconst (-1), 1) := by decide +kernel
theorem dX11_acres_16 : decode cX11_acres 16 = .ok (.if_icmp .ge 10, 3) := by decide +kernel
theorem dX11_acres_19 : decode cX11_acres 19 = .ok (.aload_n 0, 1) := by decide +kernel
theorem dX11_acres_20 : decode cX11_acres 20 = .ok (.bipush (-10), 2) := by decide +kernel
theorem dX11_acres_22 : decode cX11_acres 22 = .ok (.invokevirtual 77, 3) := by decide +kernel
theorem dX11_acres_25 : decode cX11_acres 25 = .ok (.ireturn, 1) := by decide +kernel
theorem dX11_acres_26 : decode cX11_acres 26 = .ok (.aload_n 0, 1) := by decide +kernel
theorem dX11_acres_27 : decode cX11_acres 27 = .ok (.getfield 36, 3) := by decide +kernel
theorem dX11_acres_30 : decode cX11_acres 30 = .ok (.iload_n 2, 1) := by decide +kernel
theorem dX11_acres_31 : decode cX11_acres 31 = .ok (.invokevirtual 183, 3) := by decide +kernel
theorem dX11_acres_34 : decode cX11_acres 34 = .ok (.aload_n 0, 1) := by decide +kernel
theorem dX11_acres_35 : decode cX11_acres 35 = .ok (.getfield 36, 3) := by decide +kernel
theorem dX11_acres_38 : decode cX11_acres 38 = .ok (.iload_n 1, 1) := by decide +kernel
theorem dX11_acres_39 : decode cX11_acres 39 = .ok (.iload_n 3, 1) := by decide +kernel
theorem dX11_acres_40 : decode cX11_acres 40 = .ok (.invokevirtual 186, 3) := by decide +kernel
theorem dX11_acres_43 : decode cX11_acres 43 = .ok (.ireturn, 1) := by decide +kernel
theorem dX11_hedges_0 : decode cX11_hedges 0 = .ok (.iload_n 1, 1) := by decide +kernel
theorem dX11_hedges_1 : decode cX11_hedges 1 = .ok (.invokestatic 161, 3) := by decide +kernel
theorem dX11_hedges_4 : decode cX11_hedges 4 = .ok (.ifCond .eq 8, 3) := by decide +kernel
theorem dX11_hedges_7 : decode cX11_hedges 7 = .ok (.iload_n 2, 1) := by decide +kernel
theorem dX11_hedges_8 : decode cX11_hedges 8 = .ok (.iconst (-1), 1) := by decide +kernel
theorem dX11_hedges_9 : decode cX11_hedges 9 = .ok (.if_icmp .ge 10, 3) := by decide +kernel
theorem dX11_hedges_12 : decode cX11_hedges 12 = .ok (.aload_n 0, 1) := by decide +kernel
theorem dX11_hedges_13 : decode cX11_hedges 13 = .ok (.bipush (-10), 2) := by decide +kernel
theorem dX11_hedges_15 : decode cX11_hedges 15 = .ok (.invokevirtual 77, 3) := by decide +kernel
theorem dX11_hedges_18 : decode cX11_hedges 18 = .ok (.ireturn, 1) := by decide +kernel
theorem dX11_hedges_19 : decode cX11_hedges 19 = .ok (.aload_n 0, 1) := by decide +kernel
theorem dX11_hedges_20 : decode cX11_hedges 20 = .ok (.getfield 36, 3) := by decide +kernel
theorem dX11_hedges_23 : decode cX11_hedges 23 = .ok (.iload_n 1, 1) := by decide +kernel
theorem dX11_hedges_24 : decode cX11_hedges 24 = .ok (.invokevirtual 183, 3) := by decide +kernel
theorem dX11_hedges_27 : decode cX11_hedges 27 = .ok (.aload_n 0, 1) := by decide +kernel
theorem dX11_hedges_28 : decode cX11_hedges 28 = .ok (.getfield 36, 3) := by decide +kernel
theorem dX11_hedges_31 : decode cX11_hedges 31 = .ok (.bipush (-2), 2) := by decide +kernel
theorem dX11_hedges_33 : decode cX11_hedges 33 = .ok (.iload_n 2, 1) := by decide +kernel
theorem dX11_hedges_34 : decode cX11_hedges 34 = .ok (.invokevirtual 186, 3) := by decide +kernel
theorem dX11_hedges_37 : decode cX11_hedges 37 = .ok (.ireturn, 1) := by decide +kernel
theorem dX11_dark_0 : decode cX11_dark 0 = .ok (.iload_n 1, 1) := by decide +kernel
theorem dX11_dark_1 : decode cX11_dark 1 = .ok (.invokestatic 91, 3) := by decide +kernel
theorem dX11_dark_4 : decode cX11_dark 4 = .ok (.ifCond .eq 20, 3) := by decide +kernel
theorem dX11_dark_7 : decode cX11_dark 7 = .ok (.iload_n 2, 1) := by decide +kernel
theorem dX11_dark_8 : decode cX11_dark 8 = .ok (.invokestatic 161, 3) := by decide +kernel
theorem dX11_dark_11 : decode cX11_dark 11 = .ok (.ifCond .eq 13, 3) := by decide +kernel
theorem dX11_dark_14 : decode cX11_dark 14 = .ok (.iload_n 3, 1) := by decide +kernel
theorem dX11_dark_15 : decode cX11_dark 15 = .ok (.iconst 1, 1) := by decide +kernel
theorem dX11_dark_16 : decode cX11_dark 16 = .ok (.bipush 20, 2) := by decide +kernel
theorem dX11_dark_18 : decode cX11_dark 18 = .ok (.invokestatic 73, 3) := by decide +kernel
theorem dX11_dark_21 : decode cX11_dark 21 = .ok (.ifCond .ne 10, 3) := by decide +kernel
theorem dX11_dark_24 : decode cX11_dark 24 = .ok (.aload_n 0, 1) := by decide +kernel
theorem dX11_dark_25 : decode cX11_dark 25 = .ok (.bipush (-2), 2) := by decide +kernel
theorem dX11_dark_27 : decode cX11_dark 27 = .ok (.invokevirtual 77, 3) := by decide +kernel
theorem dX11_dark_30 : decode cX11_dark 30 = .ok (.ireturn, 1) := by decide +kernel
theorem dX11_dark_31 : decode cX11_dark 31 = .ok (.iload_n 2, 1) := by decide +kernel
theorem dX11_dark_32 : decode cX11_dark 32 = .ok (.istore 4, 2) := by decide +kernel
theorem dX11_dark_34 : decode cX11_dark 34 = .ok (.iload 4, 2) := by decide +kernel
theorem dX11_dark_36 : decode cX11_dark 36 = .ok (.bipush 12, 2) := by decide +kernel
theorem dX11_dark_38 : decode cX11_dark 38 = .ok (.if_icmp .ge 34, 3) := by decide +kernel
theorem dX11_dark_41 : decode cX11_dark 41 = .ok (.aload_n 0, 1) := by decide +kernel
theorem dX11_dark_42 : decode cX11_dark 42 = .ok (.getfield 36, 3) := by decide +kernel
theorem dX11_dark_45 : decode cX11_dark 45 = .ok (.iload_n 1, 1) := by decide +kernel
theorem dX11_dark_46 : decode cX11_dark 46 = .ok (.iload 4, 2) := by decide +kernel
theorem dX11_dark_48 : decode cX11_dark 48 = .ok (.iload_n 3, 1) := by decide +kernel
theorem dX11_dark_49 : decode cX11_dark 49 = .ok (.invokevirtual 189, 3) := by decide +kernel
theorem dX11_dark_52 : decode cX11_dark 52 = .ok (.aload_n 0, 1) := by decide +kernel
theorem dX11_dark_53 : decode cX11_dark 53 = .ok (.getfield 12, 3) := by decide +kernel
theorem dX11_dark_56 : decode cX11_dark 56 = .ok (.getfield 122, 3) := by decide +kernel
theorem dX11_dark_59 : decode cX11_dark 59 = .ok (.iand, 1) := by decide +kernel
theorem dX11_dark_60 : decode cX11_dark 60 = .ok (.ifCond .ne 6, 3) := by decide +kernel
theorem dX11_dark_63 : decode cX11_dark 63 = .ok (.iload 4, 2) := by decide +kernel
theorem dX11_dark_65 : decode cX11_dark 65 = .ok (.ireturn, 1) := by decide +kernel
theorem dX11_dark_66 : decode cX11_dark 66 = .ok (.iinc 4 1, 3) := by decide +kernel
theorem dX11_dark_69 : decode cX11_dark 69 = .ok (.goto (-35), 3) := by decide +kernel
theorem dX11_dark_72 : decode cX11_dark 72 = .ok (.bipush 12, 2) := by decide +kernel
theorem dX11_dark_74 : decode cX11_dark 74 = .ok (.ireturn, 1) := by decide +kernel
theorem dX11_want_0 : decode cX11_want 0 = .ok (.iload_n 1, 1) := by decide +kernel
theorem dX11_want_1 : decode cX11_want 1 = .ok (.invokestatic 91, 3) := by decide +kernel
theorem dX11_want_4 : decode cX11_want 4 = .ok (.ifCond .ne 10, 3) := by decide +kernel
theorem dX11_want_7 : decode cX11_want 7 = .ok (.aload_n 0, 1) := by decide +kernel
theorem dX11_want_8 : decode cX11_want 8 = .ok (.bipush (-2), 2) := by decide +kernel
theorem dX11_want_10 : decode cX11_want 10 = .ok (.invokevirtual 77, 3) := by decide +kernel
theorem dX11_want_13 : decode cX11_want 13 = .ok (.ireturn, 1) := by decide +kernel
theorem dX11_want_14 : decode cX11_want 14 = .ok (.aload_n 0, 1) := by decide +kernel
theorem dX11_want_15 : decode cX11_want 15 = .ok (.getfield 12, 3) := by decide +kernel
theorem dX11_want_18 : decode cX11_want 18 = .ok (.getfield 192, 3) := by decide +kernel
theorem dX11_want_21 : decode cX11_want 21 = .ok (.bipush 6, 2) := by decide +kernel
theorem dX11_want_23 : decode cX11_want 23 = .ok (.if_icmp .lt 8, 3) := by decide +kernel
theorem dX11_want_26 : decode cX11_want 26 = .ok (.aload_n 0, 1) := by decide +kernel
theorem dX11_want_27 : decode cX11_want 27 = .ok (.invokevirtual 98, 3) := by decide +kernel
theorem dX11_want_30 : decode cX11_want 30 = .ok (.ireturn, 1) := by decide +kernel
theorem dX11_want_31 : decode cX11_want 31 = .ok (.aload_n 0, 1) := by decide +kernel
theorem dX11_want_32 : decode cX11_want 32 = .ok (.getfield 12, 3) := by decide +kernel
theorem dX11_want_35 : decode cX11_want 35 = .ok (.getfield 195, 3) := by decide +kernel
theorem dX11_want_38 : decode cX11_want 38 = .ok (.aload_n 0, 1) := by decide +kernel
theorem dX11_want_39 : decode cX11_want 39 = .ok (.getfield 12, 3) := by decide +kernel
theorem dX11_want_42 : decode cX11_want 42 = .ok (.getfield 192, 3) := by decide +kernel
theorem dX11_want_45 : decode cX11_want 45 = .ok (.iload_n 1, 1) := by decide +kernel
theorem dX11_want_46 : decode cX11_want 46 = .ok (.iastore, 1) := by decide +kernel
theorem dX11_want_47 : decode cX11_want 47 = .ok (.aload_n 0, 1) := by decide +kernel
theorem dX11_want_48 : decode cX11_want 48 = .ok (.getfield 12, 3) := by decide +kernel
theorem dX11_want_51 : decode cX11_want 51 = .ok (.dup, 1) := by decide +kernel
theorem dX11_want_52 : decode cX11_want 52 = .ok (.getfield 192, 3) := by decide +kernel
theorem dX11_want_55 : decode cX11_want 55 = .ok (.iconst 1, 1) := by decide +kernel
theorem dX11_want_56 : decode cX11_want 56 = .ok (.iadd, 1) := by decide +kernel
theorem dX11_want_57 : decode cX11_want 57 = .ok (.putfield 192, 3) := by decide +kernel
theorem dX11_want_60 : decode cX11_want 60 = .ok (.aload_n 0, 1) := by decide +kernel
theorem dX11_want_61 : decode cX11_want 61 = .ok (.getfield 12, 3) := by decide +kernel
theorem dX11_want_64 : decode cX11_want 64 = .ok (.getfield 192, 3) := by decide +kernel
theorem dX11_want_67 : decode cX11_want 67 = .ok (.ireturn, 1) := by decide +kernel
theorem dX11_forget_0 : decode cX11_forget 0 = .ok (.aload_n 0, 1) := by decide +kernel
theorem dX11_forget_1 : decode cX11_forget 1 = .ok (.getfield 12, 3) := by decide +kernel
theorem dX11_forget_4 : decode cX11_forget 4 = .ok (.getfield 192, 3) := by decide +kernel
theorem dX11_forget_7 : decode cX11_forget 7 = .ok (.istore_n 1, 1) := by decide +kernel
theorem dX11_forget_8 : decode cX11_forget 8 = .ok (.aload_n 0, 1) := by decide +kernel
theorem dX11_forget_9 : decode cX11_forget 9 = .ok (.getfield 12, 3) := by decide +kernel
theorem dX11_forget_12 : decode cX11_forget 12 = .ok (.iconst 0, 1) := by decide +kernel
theorem dX11_forget_13 : decode cX11_forget 13 = .ok (.putfield 192, 3) := by decide +kernel
theorem dX11_forget_16 : decode cX11_forget 16 = .ok (.iload_n 1, 1) := by decide +kernel
theorem dX11_forget_17 : decode cX11_forget 17 = .ok (.ireturn, 1) := by decide +kernel
theorem dX11_lighting_0 : decode cX11_lighting 0 = .ok (.iload_n 1, 1) := by decide +kernel
theorem dX11_lighting_1 : decode cX11_lighting 1 = .ok (.invokestatic 161, 3) := by decide +kernel
theorem dX11_lighting_4 : decode cX11_lighting 4 = .ok (.ifCond .eq 13, 3) := by decide +kernel
theorem dX11_lighting_7 : decode cX11_lighting 7 = .ok (.iload_n 2, 1) := by decide +kernel
theorem dX11_lighting_8 : decode cX11_lighting 8 = .ok (.iconst 1, 1) := by decide +kernel
theorem dX11_lighting_9 : decode cX11_lighting 9 = .ok (.bipush 20, 2) := by decide +kernel
theorem dX11_lighting_11 : decode cX11_lighting 11 = .ok (.invokestatic 73, 3) := by decide +kernel
theorem dX11_lighting_14 : decode cX11_lighting 14 = .ok (.ifCond .ne 10, 3) := by decide +kernel
theorem dX11_lighting_17 : decode cX11_lighting 17 = .ok (.aload_n 0, 1) := by decide +kernel
theorem dX11_lighting_18 : decode cX11_lighting 18 = .ok (.bipush (-2), 2) := by decide +kernel
theorem dX11_lighting_20 : decode cX11_lighting 20 = .ok (.invokevirtual 77, 3) := by decide +kernel
theorem dX11_lighting_23 : decode cX11_lighting 23 = .ok (.ireturn, 1) := by decide +kernel
theorem dX11_lighting_24 : decode cX11_lighting 24 = .ok (.aload_n 0, 1) := by decide +kernel
theorem dX11_lighting_25 : decode cX11_lighting 25 = .ok (.getfield 45, 3) := by decide +kernel
theorem dX11_lighting_28 : decode cX11_lighting 28 = .ok (.iload_n 1, 1) := by decide +kernel
theorem dX11_lighting_29 : decode cX11_lighting 29 = .ok (.iload_n 2, 1) := by decide +kernel
theorem dX11_lighting_30 : decode cX11_lighting 30 = .ok (.invokevirtual 198, 3) := by decide +kernel
theorem dX11_lighting_33 : decode cX11_lighting 33 = .ok (.aload_n 0, 1) := by decide +kernel
theorem dX11_lighting_34 : decode cX11_lighting 34 = .ok (.getfield 45, 3) := by decide +kernel
theorem dX11_lighting_37 : decode cX11_lighting 37 = .ok (.invokevirtual 201, 3) := by decide +kernel
theorem dX11_lighting_40 : decode cX11_lighting 40 = .ok (.ireturn, 1) := by decide +kernel
theorem dX11_tallow_0 : decode cX11_tallow 0 = .ok (.iload_n 1, 1) := by decide +kernel
theorem dX11_tallow_1 : decode cX11_tallow 1 = .ok (.invokestatic 161, 3) := by decide +kernel
theorem dX11_tallow_4 : decode cX11_tallow 4 = .ok (.ifCond .eq 13, 3) := by decide +kernel
theorem dX11_tallow_7 : decode cX11_tallow 7 = .ok (.iload_n 2, 1) := by decide +kernel
theorem dX11_tallow_8 : decode cX11_tallow 8 = .ok (.iconst 1, 1) := by decide +kernel
theorem dX11_tallow_9 : decode cX11_tallow 9 = .ok (.bipush 20, 2) := by decide +kernel
theorem dX11_tallow_11 : decode cX11_tallow 11 = .ok (.invokestatic 73, 3) := by decide +kernel
theorem dX11_tallow_14 : decode cX11_tallow 14 = .ok (.ifCond .ne 10, 3) := by decide +kernel
theorem dX11_tallow_17 : decode cX11_tallow 17 = .ok (.aload_n 0, 1) := by decide +kernel
theorem dX11_tallow_18 : decode cX11_tallow 18 = .ok (.bipush (-2), 2) := by decide +kernel
theorem dX11_tallow_20 : decode cX11_tallow 20 = .ok (.invokevirtual 77, 3) := by decide +kernel
theorem dX11_tallow_23 : decode cX11_tallow 23 = .ok (.ireturn, 1) := by decide +kernel
theorem dX11_tallow_24 : decode cX11_tallow 24 = .ok (.aload_n 0, 1) := by decide +kernel
theorem dX11_tallow_25 : decode cX11_tallow 25 = .ok (.getfield 45, 3) := by decide +kernel
theorem dX11_tallow_28 : decode cX11_tallow 28 = .ok (.iload_n 1, 1) := by decide +kernel
theorem dX11_tallow_29 : decode cX11_tallow 29 = .ok (.iload_n 2, 1) := by decide +kernel
theorem dX11_tallow_30 : decode cX11_tallow 30 = .ok (.invokevirtual 198, 3) := by decide +kernel
theorem dX11_tallow_33 : decode cX11_tallow 33 = .ok (.aload_n 0, 1) := by decide +kernel
theorem dX11_tallow_34 : decode cX11_tallow 34 = .ok (.getfield 45, 3) := by decide +kernel
theorem dX11_tallow_37 : decode cX11_tallow 37 = .ok (.invokevirtual 204, 3) := by decide +kernel
theorem dX11_tallow_40 : decode cX11_tallow 40 = .ok (.ireturn, 1) := by decide +kernel
theorem dX11_put_0 : decode cX11_put 0 = .ok (.aload_n 0, 1) := by decide +kernel
theorem dX11_put_1 : decode cX11_put 1 = .ok (.getfield 12, 3) := by decide +kernel
theorem dX11_put_4 : decode cX11_put 4 = .ok (.iload_n 1, 1) := by decide +kernel
theorem dX11_put_5 : decode cX11_put 5 = .ok (.invokevirtual 106, 3) := by decide +kernel
theorem dX11_put_8 : decode cX11_put 8 = .ok (.ifCond .eq 10, 3) := by decide +kernel
theorem dX11_put_11 : decode cX11_put 11 = .ok (.iload_n 2, 1) := by decide +kernel
theorem dX11_put_12 : decode cX11_put 12 = .ok (.invokestatic 161, 3) := by decide +kernel
theorem dX11_put_15 : decode cX11_put 15 = .ok (.ifCond .ne 10, 3) := by decide +kernel
theorem dX11_put_18 : decode cX11_put 18 = .ok (.aload_n 0, 1) := by decide +kernel
theorem dX11_put_19 : decode cX11_put 19 = .ok (.bipush (-2), 2) := by decide +kernel
theorem dX11_put_21 : decode cX11_put 21 = .ok (.invokevirtual 77, 3) := by decide +kernel
theorem dX11_put_24 : decode cX11_put 24 = .ok (.ireturn, 1) := by decide +kernel
theorem dX11_put_25 : decode cX11_put 25 = .ok (.aload_n 0, 1) := by decide +kernel
theorem dX11_put_26 : decode cX11_put 26 = .ok (.getfield 36, 3) := by decide +kernel
theorem dX11_put_29 : decode cX11_put 29 = .ok (.iload_n 2, 1) := by decide +kernel
theorem dX11_put_30 : decode cX11_put 30 = .ok (.invokevirtual 183, 3) := by decide +kernel
theorem dX11_put_33 : decode cX11_put 33 = .ok (.aload_n 0, 1) := by decide +kernel
theorem dX11_put_34 : decode cX11_put 34 = .ok (.getfield 36, 3) := by decide +kernel
theorem dX11_put_37 : decode cX11_put 37 = .ok (.iload_n 1, 1) := by decide +kernel
theorem dX11_put_38 : decode cX11_put 38 = .ok (.iload_n 2, 1) := by decide +kernel
theorem dX11_put_39 : decode cX11_put 39 = .ok (.invokevirtual 207, 3) := by decide +kernel
theorem dX11_put_42 : decode cX11_put 42 = .ok (.ireturn, 1) := by decide +kernel
theorem dX11_thief_0 : decode cX11_thief 0 = .ok (.iload_n 1, 1) := by decide +kernel
theorem dX11_thief_1 : decode cX11_thief 1 = .ok (.invokestatic 91, 3) := by decide +kernel
theorem dX11_thief_4 : decode cX11_thief 4 = .ok (.ifCond .eq 38, 3) := by decide +kernel
theorem dX11_thief_7 : decode cX11_thief 7 = .ok (.iload_n 2, 1) := by decide +kernel
theorem dX11_thief_8 : decode cX11_thief 8 = .ok (.invokestatic 91, 3) := by decide +kernel
theorem dX11_thief_11 : decode cX11_thief 11 = .ok (.ifCond .eq 31, 3) := by decide +kernel
theorem dX11_thief_14 : decode cX11_thief 14 = .ok (.iload_n 3, 1) := by decide +kernel
theorem dX11_thief_15 : decode cX11_thief 15 = .ok (.invokestatic 161, 3) := by decide +kernel
theorem dX11_thief_18 : decode cX11_thief 18 = .ok (.ifCond .eq 24, 3) := by decide +kernel
theorem dX11_thief_21 : decode cX11_thief 21 = .ok (.iload 4, 2) := by decide +kernel
theorem dX11_thief_23 : decode cX11_thief 23 = .ok (.iconst 1, 1) := by decide +kernel
theorem dX11_thief_24 : decode cX11_thief 24 = .ok (.bipush 20, 2) := by decide +kernel
theorem dX11_thief_26 : decode cX11_thief 26 = .ok (.invokestatic 73, 3) := by decide +kernel
theorem dX11_thief_29 : decode cX11_thief 29 = .ok (.ifCond .eq 13, 3) := by decide +kernel
theorem dX11_thief_32 : decode cX11_thief 32 = .ok (.iload 5, 2) := by decide +kernel
theorem dX11_thief_34 : decode cX11_thief 34 = .ok (.iconst 0, 1) := by decide +kernel
theorem dX11_thief_35 : decode cX11_thief 35 = .ok (.iconst 1, 1) := by decide +kernel
theorem dX11_thief_36 : decode cX11_thief 36 = .ok (.invokestatic 73, 3) := by decide +kernel
theorem dX11_thief_39 : decode cX11_thief 39 = .ok (.ifCond .ne 10, 3) := by decide +kernel
theorem dX11_thief_42 : decode cX11_thief 42 = .ok (.aload_n 0, 1) := by decide +kernel
theorem dX11_thief_43 : decode cX11_thief 43 = .ok (.bipush (-2), 2) := by decide +kernel
theorem dX11_thief_45 : decode cX11_thief 45 = .ok (.invokevirtual 77, 3) := by decide +kernel
theorem dX11_thief_48 : decode cX11_thief 48 = .ok (.ireturn, 1) := by decide +kernel
theorem dX11_thief_49 : decode cX11_thief 49 = .ok (.aload_n 0, 1) := by decide +kernel
theorem dX11_thief_50 : decode cX11_thief 50 = .ok (.getfield 36, 3) := by decide +kernel
theorem dX11_thief_53 : decode cX11_thief 53 = .ok (.iload_n 3, 1) := by decide +kernel
theorem dX11_thief_54 : decode cX11_thief 54 = .ok (.invokevirtual 183, 3) := by decide +kernel
theorem dX11_thief_57 : decode cX11_thief 57 = .ok (.aload_n 0, 1) := by decide +kernel
theorem dX11_thief_58 : decode cX11_thief 58 = .ok (.getfield 52, 3) := by decide +kernel
theorem dX11_thief_61 : decode cX11_thief 61 = .ok (.iload_n 2, 1) := by decide +kernel
theorem dX11_thief_62 : decode cX11_thief 62 = .ok (.iload 4, 2) := by decide +kernel
theorem dX11_thief_64 : decode cX11_thief 64 = .ok (.invokevirtual 210, 3) := by decide +kernel
theorem dX11_thief_67 : decode cX11_thief 67 = .ok (.iload 5, 2) := by decide +kernel
theorem dX11_thief_69 : decode cX11_thief 69 = .ok (.ifCond .ne 14, 3) := by decide +kernel
theorem dX11_thief_72 : decode cX11_thief 72 = .ok (.aload_n 0, 1) := by decide +kernel
theorem dX11_thief_73 : decode cX11_thief 73 = .ok (.getfield 52, 3) := by decide +kernel
theorem dX11_thief_76 : decode cX11_thief 76 = .ok (.iload_n 1, 1) := by decide +kernel
theorem dX11_thief_77 : decode cX11_thief 77 = .ok (.invokevirtual 213, 3) := by decide +kernel
theorem dX11_thief_80 : decode cX11_thief 80 = .ok (.goto 11, 3) := by decide +kernel
theorem dX11_thief_83 : decode cX11_thief 83 = .ok (.aload_n 0, 1) := by decide +kernel
theorem dX11_thief_84 : decode cX11_thief 84 = .ok (.getfield 52, 3) := by decide +kernel
theorem dX11_thief_87 : decode cX11_thief 87 = .ok (.iload_n 1, 1) := by decide +kernel
theorem dX11_thief_88 : decode cX11_thief 88 = .ok (.invokevirtual 216, 3) := by decide +kernel
theorem dX11_thief_91 : decode cX11_thief 91 = .ok (.ireturn, 1) := by decide +kernel
theorem dX11_wedding_0 : decode cX11_wedding 0 = .ok (.iload_n 1, 1) := by decide +kernel
theorem dX11_wedding_1 : decode cX11_wedding 1 = .ok (.invokestatic 95, 3) := by decide +kernel
theorem dX11_wedding_4 : decode cX11_wedding 4 = .ok (.ifCond .eq 22, 3) := by decide +kernel
theorem dX11_wedding_7 : decode cX11_wedding 7 = .ok (.iload_n 2, 1) := by decide +kernel
theorem dX11_wedding_8 : decode cX11_wedding 8 = .ok (.invokestatic 95, 3) := by decide +kernel
theorem dX11_wedding_11 : decode cX11_wedding 11 = .ok (.ifCond .eq 15, 3) := by decide +kernel
theorem dX11_wedding_14 : decode cX11_wedding 14 = .ok (.iload_n 1, 1) := by decide +kernel
theorem dX11_wedding_15 : decode cX11_wedding 15 = .ok (.iload_n 2, 1) := by decide +kernel
theorem dX11_wedding_16 : decode cX11_wedding 16 = .ok (.if_icmp .eq 10, 3) := by decide +kernel
theorem dX11_wedding_19 : decode cX11_wedding 19 = .ok (.iload_n 3, 1) := by decide +kernel
theorem dX11_wedding_20 : decode cX11_wedding 20 = .ok (.invokestatic 161, 3) := by decide +kernel
theorem dX11_wedding_23 : decode cX11_wedding 23 = .ok (.ifCond .ne 10, 3) := by decide +kernel
theorem dX11_wedding_26 : decode cX11_wedding 26 = .ok (.aload_n 0, 1) := by decide +kernel
theorem dX11_wedding_27 : decode cX11_wedding 27 = .ok (.bipush (-100), 2) := by decide +kernel
theorem dX11_wedding_29 : decode cX11_wedding 29 = .ok (.invokevirtual 77, 3) := by decide +kernel
theorem dX11_wedding_32 : decode cX11_wedding 32 = .ok (.ireturn, 1) := by decide +kernel
theorem dX11_wedding_33 : decode cX11_wedding 33 = .ok (.aload_n 0, 1) := by decide +kernel
theorem dX11_wedding_34 : decode cX11_wedding 34 = .ok (.getfield 36, 3) := by decide +kernel
theorem dX11_wedding_37 : decode cX11_wedding 37 = .ok (.iload_n 3, 1) := by decide +kernel
theorem dX11_wedding_38 : decode cX11_wedding 38 = .ok (.invokevirtual 183, 3) := by decide +kernel
theorem dX11_wedding_41 : decode cX11_wedding 41 = .ok (.aload_n 0, 1) := by decide +kernel
theorem dX11_wedding_42 : decode cX11_wedding 42 = .ok (.getfield 36, 3) := by decide +kernel
theorem dX11_wedding_45 : decode cX11_wedding 45 = .ok (.iload_n 1, 1) := by decide +kernel
theorem dX11_wedding_46 : decode cX11_wedding 46 = .ok (.iload_n 2, 1) := by decide +kernel
theorem dX11_wedding_47 : decode cX11_wedding 47 = .ok (.invokevirtual 219, 3) := by decide +kernel
theorem dX11_wedding_50 : decode cX11_wedding 50 = .ok (.ireturn, 1) := by decide +kernel
theorem dX11_spite_0 : decode cX11_spite 0 = .ok (.iload_n 1, 1) := by decide +kernel
theorem dX11_spite_1 : decode cX11_spite 1 = .ok (.invokestatic 95, 3) := by decide +kernel
theorem dX11_spite_4 : decode cX11_spite 4 = .ok (.ifCond .eq 33, 3) := by decide +kernel
theorem dX11_spite_7 : decode cX11_spite 7 = .ok (.iload_n 2, 1) := by decide +kernel
theorem dX11_spite_8 : decode cX11_spite 8 = .ok (.invokestatic 95, 3) := by decide +kernel
theorem dX11_spite_11 : decode cX11_spite 11 = .ok (.ifCond .eq 26, 3) := by decide +kernel
theorem dX11_spite_14 : decode cX11_spite 14 = .ok (.iload_n 1, 1) := by decide +kernel
theorem dX11_spite_15 : decode cX11_spite 15 = .ok (.iload_n 2, 1) := by decide +kernel
theorem dX11_spite_16 : decode cX11_spite 16 = .ok (.if_icmp .eq 21, 3) := by decide +kernel
theorem dX11_spite_19 : decode cX11_spite 19 = .ok (.iload_n 3, 1) := by decide +kernel
theorem dX11_spite_20 : decode cX11_spite 20 = .ok (.invokestatic 161, 3) := by decide +kernel
theorem dX11_spite_23 : decode cX11_spite 23 = .ok (.ifCond .eq 14, 3) := by decide +kernel
theorem dX11_spite_26 : decode cX11_spite 26 = .ok (.iload 4, 2) := by decide +kernel
theorem dX11_spite_28 : decode cX11_spite 28 = .ok (.iconst 0, 1) := by decide +kernel
theorem dX11_spite_29 : decode cX11_spite 29 = .ok (.bipush 99, 2) := by decide +kernel
theorem dX11_spite_31 : decode cX11_spite 31 = .ok (.invokestatic 73, 3) := by decide +kernel
theorem dX11_spite_34 : decode cX11_spite 34 = .ok (.ifCond .ne 10, 3) := by decide +kernel
theorem dX11_spite_37 : decode cX11_spite 37 = .ok (.aload_n 0, 1) := by decide +kernel
theorem dX11_spite_38 : decode cX11_spite 38 = .ok (.bipush (-2), 2) := by decide +kernel
theorem dX11_spite_40 : decode cX11_spite 40 = .ok (.invokevirtual 77, 3) := by decide +kernel
theorem dX11_spite_43 : decode cX11_spite 43 = .ok (.ireturn, 1) := by decide +kernel
theorem dX11_spite_44 : decode cX11_spite 44 = .ok (.aload_n 0, 1) := by decide +kernel
theorem dX11_spite_45 : decode cX11_spite 45 = .ok (.getfield 36, 3) := by decide +kernel
theorem dX11_spite_48 : decode cX11_spite 48 = .ok (.iload_n 3, 1) := by decide +kernel
theorem dX11_spite_49 : decode cX11_spite 49 = .ok (.invokevirtual 183, 3) := by decide +kernel
theorem dX11_spite_52 : decode cX11_spite 52 = .ok (.aload_n 0, 1) := by decide +kernel
theorem dX11_spite_53 : decode cX11_spite 53 = .ok (.getfield 36, 3) := by decide +kernel
theorem dX11_spite_56 : decode cX11_spite 56 = .ok (.iload_n 1, 1) := by decide +kernel
theorem dX11_spite_57 : decode cX11_spite 57 = .ok (.iload_n 2, 1) := by decide +kernel
theorem dX11_spite_58 : decode cX11_spite 58 = .ok (.iload 4, 2) := by decide +kernel
theorem dX11_spite_60 : decode cX11_spite 60 = .ok (.invokevirtual 222, 3) := by decide +kernel
theorem dX11_spite_63 : decode cX11_spite 63 = .ok (.ireturn, 1) := by decide +kernel
theorem dX11_reading_0 : decode cX11_reading 0 = .ok (.iload_n 1, 1) := by decide +kernel
theorem dX11_reading_1 : decode cX11_reading 1 = .ok (.invokestatic 91, 3) := by decide +kernel
theorem dX11_reading_4 : decode cX11_reading 4 = .ok (.ifCond .eq 20, 3) := by decide +kernel
theorem dX11_reading_7 : decode cX11_reading 7 = .ok (.iload_n 2, 1) := by decide +kernel
theorem dX11_reading_8 : decode cX11_reading 8 = .ok (.invokestatic 161, 3) := by decide +kernel
theorem dX11_reading_11 : decode cX11_reading 11 = .ok (.ifCond .eq 13, 3) := by decide +kernel
theorem dX11_reading_14 : decode cX11_reading 14 = .ok (.iload_n 3, 1) := by decide +kernel
theorem dX11_reading_15 : decode cX11_reading 15 = .ok (.iconst 0, 1) := by decide +kernel
theorem dX11_reading_16 : decode cX11_reading 16 = .ok (.bipush 23, 2) := by decide +kernel
theorem dX11_reading_18 : decode cX11_reading 18 = .ok (.invokestatic 73, 3) := by decide +kernel
theorem dX11_reading_21 : decode cX11_reading 21 = .ok (.ifCond .ne 10, 3) := by decide +kernel
theorem dX11_reading_24 : decode cX11_reading 24 = .ok (.aload_n 0, 1) := by decide +kernel
theorem dX11_reading_25 : decode cX11_reading 25 = .ok (.bipush (-2), 2) := by decide +kernel
theorem dX11_reading_27 : decode cX11_reading 27 = .ok (.invokevirtual 77, 3) := by decide +kernel
theorem dX11_reading_30 : decode cX11_reading 30 = .ok (.ireturn, 1) := by decide +kernel
theorem dX11_reading_31 : decode cX11_reading 31 = .ok (.aload_n 0, 1) := by decide +kernel
theorem dX11_reading_32 : decode cX11_reading 32 = .ok (.getfield 12, 3) := by decide +kernel
theorem dX11_reading_35 : decode cX11_reading 35 = .ok (.getfield 225, 3) := by decide +kernel
theorem dX11_reading_38 : decode cX11_reading 38 = .ok (.bipush 6, 2) := by decide +kernel
theorem dX11_reading_40 : decode cX11_reading 40 = .ok (.if_icmp .lt 8, 3) := by decide +kernel
theorem dX11_reading_43 : decode cX11_reading 43 = .ok (.aload_n 0, 1) := by decide +kernel
theorem dX11_reading_44 : decode cX11_reading 44 = .ok (.invokevirtual 98, 3) := by decide +kernel
theorem dX11_reading_47 : decode cX11_reading 47 = .ok (.ireturn, 1) := by decide +kernel
theorem dX11_reading_48 : decode cX11_reading 48 = .ok (.aload_n 0, 1) := by decide +kernel
theorem dX11_reading_49 : decode cX11_reading 49 = .ok (.getfield 12, 3) := by decide +kernel
theorem dX11_reading_52 : decode cX11_reading 52 = .ok (.iload_n 1, 1) := by decide +kernel
theorem dX11_reading_53 : decode cX11_reading 53 = .ok (.iload_n 2, 1) := by decide +kernel
theorem dX11_reading_54 : decode cX11_reading 54 = .ok (.iload_n 3, 1) := by decide +kernel
theorem dX11_reading_55 : decode cX11_reading 55 = .ok (.invokevirtual 228, 3) := by decide +kernel
theorem dX11_reading_58 : decode cX11_reading 58 = .ok (.ireturn, 1) := by decide +kernel
theorem dX11_burnt_0 : decode cX11_burnt 0 = .ok (.aload_n 0, 1) := by decide +kernel
theorem dX11_burnt_1 : decode cX11_burnt 1 = .ok (.getfield 12, 3) := by decide +kernel
theorem dX11_burnt_4 : decode cX11_burnt 4 = .ok (.getfield 225, 3) := by decide +kernel
theorem dX11_burnt_7 : decode cX11_burnt 7 = .ok (.istore_n 1, 1) := by decide +kernel
theorem dX11_burnt_8 : decode cX11_burnt 8 = .ok (.aload_n 0, 1) := by decide +kernel
theorem dX11_burnt_9 : decode cX11_burnt 9 = .ok (.getfield 12, 3) := by decide +kernel
theorem dX11_burnt_12 : decode cX11_burnt 12 = .ok (.iconst 0, 1) := by decide +kernel
theorem dX11_burnt_13 : decode cX11_burnt 13 = .ok (.putfield 225, 3) := by decide +kernel
theorem dX11_burnt_16 : decode cX11_burnt 16 = .ok (.iload_n 1, 1) := by decide +kernel
theorem dX11_burnt_17 : decode cX11_burnt 17 = .ok (.ireturn, 1) := by decide +kernel
theorem dX11_burn_0 : decode cX11_burn 0 = .ok (.iload_n 1, 1) := by decide +kernel
theorem dX11_burn_1 : decode cX11_burn 1 = .ok (.iconst 0, 1) := by decide +kernel
theorem dX11_burn_2 : decode cX11_burn 2 = .ok (.iconst 1, 1) := by decide +kernel
theorem dX11_burn_3 : decode cX11_burn 3 = .ok (.invokestatic 73, 3) := by decide +kernel
theorem dX11_burn_6 : decode cX11_burn 6 = .ok (.ifCond .ne 10, 3) := by decide +kernel
theorem dX11_burn_9 : decode cX11_burn 9 = .ok (.aload_n 0, 1) := by decide +kernel
theorem dX11_burn_10 : decode cX11_burn 10 = .ok (.bipush (-10), 2) := by decide +kernel
theorem dX11_burn_12 : decode cX11_burn 12 = .ok (.invokevirtual 77, 3) := by decide +kernel
theorem dX11_burn_15 : decode cX11_burn 15 = .ok (.ireturn, 1) := by decide +kernel
theorem dX11_burn_16 : decode cX11_burn 16 = .ok (.aload_n 0, 1) := by decide +kernel
theorem dX11_burn_17 : decode cX11_burn 17 = .ok (.getfield 45, 3) := by decide +kernel
theorem dX11_burn_20 : decode cX11_burn 20 = .ok (.invokevirtual 231, 3) := by decide +kernel
theorem dX11_burn_23 : decode cX11_burn 23 = .ok (.iload_n 1, 1) := by decide +kernel
theorem dX11_burn_24 : decode cX11_burn 24 = .ok (.ifCond .ne 13, 3) := by decide +kernel
theorem dX11_burn_27 : decode cX11_burn 27 = .ok (.aload_n 0, 1) := by decide +kernel
theorem dX11_burn_28 : decode cX11_burn 28 = .ok (.getfield 45, 3) := by decide +kernel
theorem dX11_burn_31 : decode cX11_burn 31 = .ok (.getfield 234, 3) := by decide +kernel
theorem dX11_burn_34 : decode cX11_burn 34 = .ok (.goto 10, 3) := by decide +kernel
theorem dX11_burn_37 : decode cX11_burn 37 = .ok (.aload_n 0, 1) := by decide +kernel
theorem dX11_burn_38 : decode cX11_burn 38 = .ok (.getfield 45, 3) := by decide +kernel
theorem dX11_burn_41 : decode cX11_burn 41 = .ok (.invokevirtual 237, 3) := by decide +kernel
theorem dX11_burn_44 : decode cX11_burn 44 = .ok (.ireturn, 1) := by decide +kernel
theorem dX11_measure_0 : decode cX11_measure 0 = .ok (.iload_n 1, 1) := by decide +kernel
theorem dX11_measure_1 : decode cX11_measure 1 = .ok (.invokestatic 161, 3) := by decide +kernel
theorem dX11_measure_4 : decode cX11_measure 4 = .ok (.ifCond .ne 10, 3) := by decide +kernel
theorem dX11_measure_7 : decode cX11_measure 7 = .ok (.aload_n 0, 1) := by decide +kernel
theorem dX11_measure_8 : decode cX11_measure 8 = .ok (.bipush (-2), 2) := by decide +kernel
theorem dX11_measure_10 : decode cX11_measure 10 = .ok (.invokevirtual 77, 3) := by decide +kernel
theorem dX11_measure_13 : decode cX11_measure 13 = .ok (.ireturn, 1) := by decide +kernel
theorem dX11_measure_14 : decode cX11_measure 14 = .ok (.aload_n 0, 1) := by decide +kernel
theorem dX11_measure_15 : decode cX11_measure 15 = .ok (.getfield 36, 3) := by decide +kernel
theorem dX11_measure_18 : decode cX11_measure 18 = .ok (.iload_n 1, 1) := by decide +kernel
theorem dX11_measure_19 : decode cX11_measure 19 = .ok (.invokevirtual 183, 3) := by decide +kernel
theorem dX11_measure_22 : decode cX11_measure 22 = .ok (.aload_n 0, 1) := by decide +kernel
theorem dX11_measure_23 : decode cX11_measure 23 = .ok (.getfield 45, 3) := by decide +kernel
theorem dX11_measure_26 : decode cX11_measure 26 = .ok (.invokevirtual 231, 3) := by decide +kernel
theorem dX11_measure_29 : decode cX11_measure 29 = .ok (.aload_n 0, 1) := by decide +kernel
theorem dX11_measure_30 : decode cX11_measure 30 = .ok (.getfield 45, 3) := by decide +kernel
theorem dX11_measure_33 : decode cX11_measure 33 = .ok (.invokevirtual 240, 3) := by decide +kernel
theorem dX11_measure_36 : decode cX11_measure 36 = .ok (.ireturn, 1) := by decide +kernel
theorem dX11_draught_0 : decode cX11_draught 0 = .ok (.iload_n 1, 1) := by decide +kernel
theorem dX11_draught_1 : decode cX11_draught 1 = .ok (.invokestatic 91, 3) := by decide +kernel
theorem dX11_draught_4 : decode cX11_draught 4 = .ok (.ifCond .eq 31, 3) := by decide +kernel
theorem dX11_draught_7 : decode cX11_draught 7 = .ok (.iload_n 2, 1) := by decide +kernel
theorem dX11_draught_8 : decode cX11_draught 8 = .ok (.invokestatic 161, 3) := by decide +kernel
theorem dX11_draught_11 : decode cX11_draught 11 = .ok (.ifCond .eq 24, 3) := by decide +kernel
theorem dX11_draught_14 : decode cX11_draught 14 = .ok (.iload_n 3, 1) := by decide +kernel
theorem dX11_draught_15 : decode cX11_draught 15 = .ok (.iconst 0, 1) := by decide +kernel
theorem dX11_draught_16 : decode cX11_draught 16 = .ok (.bipush 23, 2) := by decide +kernel
theorem dX11_draught_18 : decode cX11_draught 18 = .ok (.invokestatic 73, 3) := by decide +kernel
theorem dX11_draught_21 : decode cX11_draught 21 = .ok (.ifCond .eq 14, 3) := by decide +kernel
theorem dX11_draught_24 : decode cX11_draught 24 = .ok (.iload 4, 2) := by decide +kernel
theorem dX11_draught_26 : decode cX11_draught 26 = .ok (.iconst 0, 1) := by decide +kernel
theorem dX11_draught_27 : decode cX11_draught 27 = .ok (.bipush 10, 2) := by decide +kernel
theorem dX11_draught_29 : decode cX11_draught 29 = .ok (.invokestatic 73, 3) := by decide +kernel
theorem dX11_draught_32 : decode cX11_draught 32 = .ok (.ifCond .ne 10, 3) := by decide +kernel
theorem dX11_draught_35 : decode cX11_draught 35 = .ok (.aload_n 0, 1) := by decide +kernel
theorem dX11_draught_36 : decode cX11_draught 36 = .ok (.bipush (-2), 2) := by decide +kernel
theorem dX11_draught_38 : decode cX11_draught 38 = .ok (.invokevirtual 77, 3) := by decide +kernel
theorem dX11_draught_41 : decode cX11_draught 41 = .ok (.ireturn, 1) := by decide +kernel
theorem dX11_draught_42 : decode cX11_draught 42 = .ok (.iload_n 3, 1) := by decide +kernel
theorem dX11_draught_43 : decode cX11_draught 43 = .ok (.ifCond .ne 11, 3) := by decide +kernel
theorem dX11_draught_46 : decode cX11_draught 46 = .ok (.aload_n 0, 1) := by decide +kernel
theorem dX11_draught_47 : decode cX11_draught 47 = .ok (.lconst 1, 1) := by decide +kernel
theorem dX11_draught_48 : decode cX11_draught 48 = .ok (.lconst 1, 1) := by decide +kernel
theorem dX11_draught_49 : decode cX11_draught 49 = .ok (.invokevirtual 243, 3) := by decide +kernel
theorem dX11_draught_52 : decode cX11_draught 52 = .ok (.iconst 1, 1) := by decide +kernel
theorem dX11_draught_53 : decode cX11_draught 53 = .ok (.ireturn, 1) := by decide +kernel
theorem dX11_draught_54 : decode cX11_draught 54 = .ok (.aload_n 0, 1) := by decide +kernel
theorem dX11_draught_55 : decode cX11_draught 55 = .ok (.getfield 36, 3) := by decide +kernel
theorem dX11_draught_58 : decode cX11_draught 58 = .ok (.iload_n 1, 1) := by decide +kernel
theorem dX11_draught_59 : decode cX11_draught 59 = .ok (.iload_n 2, 1) := by decide +kernel
theorem dX11_draught_60 : decode cX11_draught 60 = .ok (.iload_n 3, 1) := by decide +kernel
theorem dX11_draught_61 : decode cX11_draught 61 = .ok (.invokevirtual 189, 3) := by decide +kernel
theorem dX11_draught_64 : decode cX11_draught 64 = .ok (.aload_n 0, 1) := by decide +kernel
theorem dX11_draught_65 : decode cX11_draught 65 = .ok (.getfield 12, 3) := by decide +kernel
theorem dX11_draught_68 : decode cX11_draught 68 = .ok (.getfield 122, 3) := by decide +kernel
theorem dX11_draught_71 : decode cX11_draught 71 = .ok (.iand, 1) := by decide +kernel
theorem dX11_draught_72 : decode cX11_draught 72 = .ok (.istore 5, 2) := by decide +kernel
theorem dX11_draught_74 : decode cX11_draught 74 = .ok (.lconst 1, 1) := by decide +kernel
theorem dX11_draught_75 : decode cX11_draught 75 = .ok (.lstore 6, 2) := by decide +kernel
theorem dX11_draught_77 : decode cX11_draught 77 = .ok (.lconst 1, 1) := by decide +kernel
theorem dX11_draught_78 : decode cX11_draught 78 = .ok (.lstore 8, 2) := by decide +kernel
theorem dX11_draught_80 : decode cX11_draught 80 = .ok (.iload 5, 2) := by decide +kernel
theorem dX11_draught_82 : decode cX11_draught 82 = .ok (.invokestatic 247, 3) := by decide +kernel
theorem dX11_draught_85 : decode cX11_draught 85 = .ok (.istore 10, 2) := by decide +kernel
theorem dX11_draught_87 : decode cX11_draught 87 = .ok (.iconst 0, 1) := by decide +kernel
theorem dX11_draught_88 : decode cX11_draught 88 = .ok (.istore 11, 2) := by decide +kernel
theorem dX11_draught_90 : decode cX11_draught 90 = .ok (.iload 11, 2) := by decide +kernel
theorem dX11_draught_92 : decode cX11_draught 92 = .ok (.iload 10, 2) := by decide +kernel
theorem dX11_draught_94 : decode cX11_draught 94 = .ok (.if_icmp .ge 25, 3) := by decide +kernel
theorem dX11_draught_97 : decode cX11_draught 97 = .ok (.lload 6, 2) := by decide +kernel
theorem dX11_draught_99 : decode cX11_draught 99 = .ok (.ldc2_w 252, 3) := by decide +kernel
theorem dX11_draught_102 : decode cX11_draught 102 = .ok (.lmul, 1) := by decide +kernel
theorem dX11_draught_103 : decode cX11_draught 103 = .ok (.lstore 6, 2) := by decide +kernel
theorem dX11_draught_105 : decode cX11_draught 105 = .ok (.lload 8, 2) := by decide +kernel
theorem dX11_draught_107 : decode cX11_draught 107 = .ok (.iload 4, 2) := by decide +kernel
theorem dX11_draught_109 : decode cX11_draught 109 = .ok (.i2l, 1) := by decide +kernel
theorem dX11_draught_110 : decode cX11_draught 110 = .ok (.lmul, 1) := by decide +kernel
theorem dX11_draught_111 : decode cX11_draught 111 = .ok (.lstore 8, 2) := by decide +kernel
theorem dX11_draught_113 : decode cX11_draught 113 = .ok (.iinc 11 1, 3) := by decide +kernel
theorem dX11_draught_116 : decode cX11_draught 116 = .ok (.goto (-26), 3) := by decide +kernel
theorem dX11_draught_119 : decode cX11_draught 119 = .ok (.aload_n 0, 1) := by decide +kernel
theorem dX11_draught_120 : decode cX11_draught 120 = .ok (.lload 6, 2) := by decide +kernel
theorem dX11_draught_122 : decode cX11_draught 122 = .ok (.lload 8, 2) := by decide +kernel
theorem dX11_draught_124 : decode cX11_draught 124 = .ok (.lsub, 1) := by decide +kernel
theorem dX11_draught_125 : decode cX11_draught 125 = .ok (.lload 6, 2) := by decide +kernel
theorem dX11_draught_127 : decode cX11_draught 127 = .ok (.invokevirtual 243, 3) := by decide +kernel
theorem dX11_draught_130 : decode cX11_draught 130 = .ok (.iconst 1, 1) := by decide +kernel
theorem dX11_draught_131 : decode cX11_draught 131 = .ok (.ireturn, 1) := by decide +kernel
theorem dX11_nights_0 : decode cX11_nights 0 = .ok (.iload_n 1, 1) := by decide +kernel
theorem dX11_nights_1 : decode cX11_nights 1 = .ok (.invokestatic 95, 3) := by decide +kernel
theorem dX11_nights_4 : decode cX11_nights 4 = .ok (.ifCond .eq 34, 3) := by decide +kernel
theorem dX11_nights_7 : decode cX11_nights 7 = .ok (.iload_n 2, 1) := by decide +kernel
theorem dX11_nights_8 : decode cX11_nights 8 = .ok (.iconst 0, 1) := by decide +kernel
theorem dX11_nights_9 : decode cX11_nights 9 = .ok (.ldc 254, 2) := by decide +kernel
theorem dX11_nights_11 : decode cX11_nights 11 = .ok (.invokestatic 73, 3) := by decide +kernel
theorem dX11_nights_14 : decode cX11_nights 14 = .ok (.ifCond .eq 24, 3) := by decide +kernel
theorem dX11_nights_17 : decode cX11_nights 17 = .ok (.iload_n 3, 1) := by decide +kernel
theorem dX11_nights_18 : decode cX11_nights 18 = .ok (.iconst 0, 1) := by decide +kernel
theorem dX11_nights_19 : decode cX11_nights 19 = .ok (.bipush 30, 2) := by decide +kernel
theorem dX11_nights_21 : decode cX11_nights 21 = .ok (.invokestatic 73, 3) := by decide +kernel
theorem dX11_nights_24 : decode cX11_nights 24 = .ok (.ifCond .eq 14, 3) := by decide +kernel
theorem dX11_nights_27 : decode cX11_nights 27 = .ok (.iload 4, 2) := by decide +kernel
theorem dX11_nights_29 : decode cX11_nights 29 = .ok (.iconst 0, 1) := by decide +kernel
theorem dX11_nights_30 : decode cX11_nights 30 = .ok (.bipush 100, 2) := by decide +kernel
theorem dX11_nights_32 : decode cX11_nights 32 = .ok (.invokestatic 73, 3) := by decide +kernel
theorem dX11_nights_35 : decode cX11_nights 35 = .ok (.ifCond .ne 10, 3) := by decide +kernel
theorem dX11_nights_38 : decode cX11_nights 38 = .ok (.aload_n 0, 1) := by decide +kernel
theorem dX11_nights_39 : decode cX11_nights 39 = .ok (.bipush (-2), 2) := by decide +kernel
theorem dX11_nights_41 : decode cX11_nights 41 = .ok (.invokevirtual 77, 3) := by decide +kernel
theorem dX11_nights_44 : decode cX11_nights 44 = .ok (.ireturn, 1) := by decide +kernel
theorem dX11_nights_45 : decode cX11_nights 45 = .ok (.aload_n 0, 1) := by decide +kernel
theorem dX11_nights_46 : decode cX11_nights 46 = .ok (.getfield 36, 3) := by decide +kernel
theorem dX11_nights_49 : decode cX11_nights 49 = .ok (.iconst 0, 1) := by decide +kernel
theorem dX11_nights_50 : decode cX11_nights 50 = .ok (.invokevirtual 183, 3) := by decide +kernel
theorem dX11_nights_53 : decode cX11_nights 53 = .ok (.aload_n 0, 1) := by decide +kernel
theorem dX11_nights_54 : decode cX11_nights 54 = .ok (.getfield 36, 3) := by decide +kernel
theorem dX11_nights_57 : decode cX11_nights 57 = .ok (.iload_n 1, 1) := by decide +kernel
theorem dX11_nights_58 : decode cX11_nights 58 = .ok (.iload_n 2, 1) := by decide +kernel
theorem dX11_nights_59 : decode cX11_nights 59 = .ok (.iload_n 3, 1) := by decide +kernel
theorem dX11_nights_60 : decode cX11_nights 60 = .ok (.iload 4, 2) := by decide +kernel
theorem dX11_nights_62 : decode cX11_nights 62 = .ok (.invokevirtual 255, 3) := by decide +kernel
theorem dX11_nights_65 : decode cX11_nights 65 = .ok (.ireturn, 1) := by decide +kernel
theorem dX11_part_0 : decode cX11_part 0 = .ok (.iload_n 1, 1) := by decide +kernel
theorem dX11_part_1 : decode cX11_part 1 = .ok (.iconst 0, 1) := by decide +kernel
theorem dX11_part_2 : decode cX11_part 2 = .ok (.iconst 1, 1) := by decide +kernel
theorem dX11_part_3 : decode cX11_part 3 = .ok (.invokestatic 73, 3) := by decide +kernel
theorem dX11_part_6 : decode cX11_part 6 = .ok (.ifCond .ne 11, 3) := by decide +kernel
theorem dX11_part_9 : decode cX11_part 9 = .ok (.aload_n 0, 1) := by decide +kernel
theorem dX11_part_10 : decode cX11_part 10 = .ok (.bipush (-2), 2) := by decide +kernel
theorem dX11_part_12 : decode cX11_part 12 = .ok (.invokevirtual 77, 3) := by decide +kernel
theorem dX11_part_15 : decode cX11_part 15 = .ok (.i2l, 1) := by decide +kernel
theorem dX11_part_16 : decode cX11_part 16 = .ok (.lreturn, 1) := by decide +kernel
theorem dX11_part_17 : decode cX11_part 17 = .ok (.iload_n 1, 1) := by decide +kernel
theorem dX11_part_18 : decode cX11_part 18 = .ok (.ifCond .ne 10, 3) := by decide +kernel
theorem dX11_part_21 : decode cX11_part 21 = .ok (.aload_n 0, 1) := by decide +kernel
theorem dX11_part_22 : decode cX11_part 22 = .ok (.getfield 56, 3) := by decide +kernel
theorem dX11_part_25 : decode cX11_part 25 = .ok (.goto 7, 3) := by decide +kernel
theorem dX11_part_28 : decode cX11_part 28 = .ok (.aload_n 0, 1) := by decide +kernel
theorem dX11_part_29 : decode cX11_part 29 = .ok (.getfield 60, 3) := by decide +kernel
theorem dX11_part_32 : decode cX11_part 32 = .ok (.lreturn, 1) := by decide +kernel
theorem dX11_image_0 : decode cX11_image 0 = .ok (.iload_n 1, 1) := by decide +kernel
theorem dX11_image_1 : decode cX11_image 1 = .ok (.iconst 0, 1) := by decide +kernel
theorem dX11_image_2 : decode cX11_image 2 = .ok (.iconst 1, 1) := by decide +kernel
theorem dX11_image_3 : decode cX11_image 3 = .ok (.invokestatic 73, 3) := by decide +kernel
theorem dX11_image_6 : decode cX11_image 6 = .ok (.ifCond .ne 10, 3) := by decide +kernel
theorem dX11_image_9 : decode cX11_image 9 = .ok (.aload_n 0, 1) := by decide +kernel
theorem dX11_image_10 : decode cX11_image 10 = .ok (.bipush (-2), 2) := by decide +kernel
theorem dX11_image_12 : decode cX11_image 12 = .ok (.invokevirtual 77, 3) := by decide +kernel
theorem dX11_image_15 : decode cX11_image 15 = .ok (.ireturn, 1) := by decide +kernel
theorem dX11_image_16 : decode cX11_image 16 = .ok (.aload_n 0, 1) := by decide +kernel
theorem dX11_image_17 : decode cX11_image 17 = .ok (.getfield 16, 3) := by decide +kernel
theorem dX11_image_20 : decode cX11_image 20 = .ok (.iload_n 1, 1) := by decide +kernel
theorem dX11_image_21 : decode cX11_image 21 = .ok (.aaload, 1) := by decide +kernel
theorem dX11_image_22 : decode cX11_image 22 = .ok (.aload_n 0, 1) := by decide +kernel
theorem dX11_image_23 : decode cX11_image 23 = .ok (.getfield 12, 3) := by decide +kernel
theorem dX11_image_26 : decode cX11_image 26 = .ok (.invokevirtual 143, 3) := by decide +kernel
theorem dX11_image_29 : decode cX11_image 29 = .ok (.aload_n 0, 1) := by decide +kernel
theorem dX11_image_30 : decode cX11_image 30 = .ok (.getfield 20, 3) := by decide +kernel
theorem dX11_image_33 : decode cX11_image 33 = .ok (.iload_n 1, 1) := by decide +kernel
theorem dX11_image_34 : decode cX11_image 34 = .ok (.iconst 1, 1) := by decide +kernel
theorem dX11_image_35 : decode cX11_image 35 = .ok (.bastore, 1) := by decide +kernel
theorem dX11_image_36 : decode cX11_image 36 = .ok (.iconst 1, 1) := by decide +kernel
theorem dX11_image_37 : decode cX11_image 37 = .ok (.ireturn, 1) := by decide +kernel
theorem dX11_from_0 : decode cX11_from 0 = .ok (.iload_n 1, 1) := by decide +kernel
theorem dX11_from_1 : decode cX11_from 1 = .ok (.iconst 0, 1) := by decide +kernel
theorem dX11_from_2 : decode cX11_from 2 = .ok (.iconst 1, 1) := by decide +kernel
theorem dX11_from_3 : decode cX11_from 3 = .ok (.invokestatic 73, 3) := by decide +kernel
theorem dX11_from_6 : decode cX11_from 6 = .ok (.ifCond .ne 10, 3) := by decide +kernel
theorem dX11_from_9 : decode cX11_from 9 = .ok (.aload_n 0, 1) := by decide +kernel
theorem dX11_from_10 : decode cX11_from 10 = .ok (.bipush (-2), 2) := by decide +kernel
theorem dX11_from_12 : decode cX11_from 12 = .ok (.invokevirtual 77, 3) := by decide +kernel
theorem dX11_from_15 : decode cX11_from 15 = .ok (.ireturn, 1) := by decide +kernel
theorem dX11_from_16 : decode cX11_from 16 = .ok (.aload_n 0, 1) := by decide +kernel
theorem dX11_from_17 : decode cX11_from 17 = .ok (.getfield 20, 3) := by decide +kernel
theorem dX11_from_20 : decode cX11_from 20 = .ok (.iload_n 1, 1) := by decide +kernel
theorem dX11_from_21 : decode cX11_from 21 = .ok (.baload, 1) := by decide +kernel
theorem dX11_from_22 : decode cX11_from 22 = .ok (.ifCond .ne 8, 3) := by decide +kernel
theorem dX11_from_25 : decode cX11_from 25 = .ok (.aload_n 0, 1) := by decide +kernel
theorem dX11_from_26 : decode cX11_from 26 = .ok (.invokevirtual 119, 3) := by decide +kernel
theorem dX11_from_29 : decode cX11_from 29 = .ok (.ireturn, 1) := by decide +kernel
theorem dX11_from_30 : decode cX11_from 30 = .ok (.aload_n 0, 1) := by decide +kernel
theorem dX11_from_31 : decode cX11_from 31 = .ok (.getfield 12, 3) := by decide +kernel
theorem dX11_from_34 : decode cX11_from 34 = .ok (.aload_n 0, 1) := by decide +kernel
theorem dX11_from_35 : decode cX11_from 35 = .ok (.getfield 16, 3) := by decide +kernel
theorem dX11_from_38 : decode cX11_from 38 = .ok (.iload_n 1, 1) := by decide +kernel
theorem dX11_from_39 : decode cX11_from 39 = .ok (.aaload, 1) := by decide +kernel
theorem dX11_from_40 : decode cX11_from 40 = .ok (.invokevirtual 143, 3) := by decide +kernel
theorem dX11_from_43 : decode cX11_from 43 = .ok (.iconst 1, 1) := by decide +kernel
theorem dX11_from_44 : decode cX11_from 44 = .ok (.ireturn, 1) := by decide +kernel
theorem dX11_status_0 : decode cX11_status 0 = .ok (.iload_n 1, 1) := by decide +kernel
theorem dX11_status_1 : decode cX11_status 1 = .ok (.tableswitch 42 0 2 #[27, 32, 37], 27) := by decide +kernel
theorem dX11_status_28 : decode cX11_status 28 = .ok (.aload_n 0, 1) := by decide +kernel
theorem dX11_status_29 : decode cX11_status 29 = .ok (.getfield 63, 3) := by decide +kernel
theorem dX11_status_32 : decode cX11_status 32 = .ok (.ireturn, 1) := by decide +kernel
theorem dX11_status_33 : decode cX11_status 33 = .ok (.aload_n 0, 1) := by decide +kernel
theorem dX11_status_34 : decode cX11_status 34 = .ok (.getfield 67, 3) := by decide +kernel
theorem dX11_status_37 : decode cX11_status 37 = .ok (.ireturn, 1) := by decide +kernel
theorem dX11_status_38 : decode cX11_status 38 = .ok (.aload_n 0, 1) := by decide +kernel
theorem dX11_status_39 : decode cX11_status 39 = .ok (.getfield 70, 3) := by decide +kernel
theorem dX11_status_42 : decode cX11_status 42 = .ok (.ireturn, 1) := by decide +kernel
theorem dX11_status_43 : decode cX11_status 43 = .ok (.aload_n 0, 1) := by decide +kernel
theorem dX11_status_44 : decode cX11_status 44 = .ok (.iconst (-1), 1) := by decide +kernel
theorem dX11_status_45 : decode cX11_status 45 = .ok (.invokevirtual 77, 3) := by decide +kernel
theorem dX11_status_48 : decode cX11_status 48 = .ok (.ireturn, 1) := by decide +kernel
theorem dX11_count_0 : decode cX11_count 0 = .ok (.iload_n 1, 1) := by decide +kernel
theorem dX11_count_1 : decode cX11_count 1 = .ok (.iconst 0, 1) := by decide +kernel
theorem dX11_count_2 : decode cX11_count 2 = .ok (.bipush 6, 2) := by decide +kernel
theorem dX11_count_4 : decode cX11_count 4 = .ok (.invokestatic 73, 3) := by decide +kernel
theorem dX11_count_7 : decode cX11_count 7 = .ok (.ifCond .eq 11, 3) := by decide +kernel
theorem dX11_count_10 : decode cX11_count 10 = .ok (.aload_n 0, 1) := by decide +kernel
theorem dX11_count_11 : decode cX11_count 11 = .ok (.iload_n 1, 1) := by decide +kernel
theorem dX11_count_12 : decode cX11_count 12 = .ok (.invokevirtual 259, 3) := by decide +kernel
theorem dX11_count_15 : decode cX11_count 15 = .ok (.goto 9, 3) := by decide +kernel
theorem dX11_count_18 : decode cX11_count 18 = .ok (.aload_n 0, 1) := by decide +kernel
theorem dX11_count_19 : decode cX11_count 19 = .ok (.bipush (-2), 2) := by decide +kernel
theorem dX11_count_21 : decode cX11_count 21 = .ok (.invokevirtual 77, 3) := by decide +kernel
theorem dX11_count_24 : decode cX11_count 24 = .ok (.ireturn, 1) := by decide +kernel
theorem dX11_digest_0 : decode cX11_digest 0 = .ok (.ldc2_w 262, 3) := by decide +kernel
theorem dX11_digest_3 : decode cX11_digest 3 = .ok (.lstore_n 1, 1) := by decide +kernel
theorem dX11_digest_4 : decode cX11_digest 4 = .ok (.iconst 0, 1) := by decide +kernel
theorem dX11_digest_5 : decode cX11_digest 5 = .ok (.istore_n 3, 1) := by decide +kernel
theorem dX11_digest_6 : decode cX11_digest 6 = .ok (.iload_n 3, 1) := by decide +kernel
theorem dX11_digest_7 : decode cX11_digest 7 = .ok (.bipush 6, 2) := by decide +kernel
theorem dX11_digest_9 : decode cX11_digest 9 = .ok (.if_icmp .gt 22, 3) := by decide +kernel
theorem dX11_digest_12 : decode cX11_digest 12 = .ok (.ldc2_w 264, 3) := by decide +kernel
theorem dX11_digest_15 : decode cX11_digest 15 = .ok (.lload_n 1, 1) := by decide +kernel
theorem dX11_digest_16 : decode cX11_digest 16 = .ok (.lmul, 1) := by decide +kernel
theorem dX11_digest_17 : decode cX11_digest 17 = .ok (.aload_n 0, 1) := by decide +kernel
theorem dX11_digest_18 : decode cX11_digest 18 = .ok (.iload_n 3, 1) := by decide +kernel
theorem dX11_digest_19 : decode cX11_digest 19 = .ok (.invokevirtual 259, 3) := by decide +kernel
theorem dX11_digest_22 : decode cX11_digest 22 = .ok (.i2l, 1) := by decide +kernel
theorem dX11_digest_23 : decode cX11_digest 23 = .ok (.ladd, 1) := by decide +kernel
theorem dX11_digest_24 : decode cX11_digest 24 = .ok (.lstore_n 1, 1) := by decide +kernel
theorem dX11_digest_25 : decode cX11_digest 25 = .ok (.iinc 3 1, 3) := by decide +kernel
theorem dX11_digest_28 : decode cX11_digest 28 = .ok (.goto (-22), 3) := by decide +kernel
theorem dX11_digest_31 : decode cX11_digest 31 = .ok (.aload_n 0, 1) := by decide +kernel
theorem dX11_digest_32 : decode cX11_digest 32 = .ok (.getfield 12, 3) := by decide +kernel
theorem dX11_digest_35 : decode cX11_digest 35 = .ok (.lload_n 1, 1) := by decide +kernel
theorem dX11_digest_36 : decode cX11_digest 36 = .ok (.invokevirtual 266, 3) := by decide +kernel
theorem dX11_digest_39 : decode cX11_digest 39 = .ok (.lstore_n 1, 1) := by decide +kernel
theorem dX11_digest_40 : decode cX11_digest 40 = .ok (.ldc2_w 264, 3) := by decide +kernel
theorem dX11_digest_43 : decode cX11_digest 43 = .ok (.lload_n 1, 1) := by decide +kernel
theorem dX11_digest_44 : decode cX11_digest 44 = .ok (.lmul, 1) := by decide +kernel
theorem dX11_digest_45 : decode cX11_digest 45 = .ok (.aload_n 0, 1) := by decide +kernel
theorem dX11_digest_46 : decode cX11_digest 46 = .ok (.getfield 56, 3) := by decide +kernel
theorem dX11_digest_49 : decode cX11_digest 49 = .ok (.ladd, 1) := by decide +kernel
theorem dX11_digest_50 : decode cX11_digest 50 = .ok (.lstore_n 1, 1) := by decide +kernel
theorem dX11_digest_51 : decode cX11_digest 51 = .ok (.ldc2_w 264, 3) := by decide +kernel
theorem dX11_digest_54 : decode cX11_digest 54 = .ok (.lload_n 1, 1) := by decide +kernel
theorem dX11_digest_55 : decode cX11_digest 55 = .ok (.lmul, 1) := by decide +kernel
theorem dX11_digest_56 : decode cX11_digest 56 = .ok (.aload_n 0, 1) := by decide +kernel
theorem dX11_digest_57 : decode cX11_digest 57 = .ok (.getfield 60, 3) := by decide +kernel
theorem dX11_digest_60 : decode cX11_digest 60 = .ok (.ladd, 1) := by decide +kernel
theorem dX11_digest_61 : decode cX11_digest 61 = .ok (.lreturn, 1) := by decide +kernel
theorem dX11_howMany_0 : decode cX11_howMany 0 = .ok (.iload_n 1, 1) := by decide +kernel
theorem dX11_howMany_1 : decode cX11_howMany 1 = .ok (.tableswitch 87 0 5 #[39, 47, 55, 63, 71, 79], 39) := by decide +kernel
theorem dX11_howMany_40 : decode cX11_howMany 40 = .ok (.aload_n 0, 1) := by decide +kernel
theorem dX11_howMany_41 : decode cX11_howMany 41 = .ok (.getfield 12, 3) := by decide +kernel
theorem dX11_howMany_44 : decode cX11_howMany 44 = .ok (.getfield 81, 3) := by decide +kernel
theorem dX11_howMany_47 : decode cX11_howMany 47 = .ok (.ireturn, 1) := by decide +kernel
theorem dX11_howMany_48 : decode cX11_howMany 48 = .ok (.aload_n 0, 1) := by decide +kernel
theorem dX11_howMany_49 : decode cX11_howMany 49 = .ok (.getfield 12, 3) := by decide +kernel
theorem dX11_howMany_52 : decode cX11_howMany 52 = .ok (.getfield 88, 3) := by decide +kernel
theorem dX11_howMany_55 : decode cX11_howMany 55 = .ok (.ireturn, 1) := by decide +kernel
theorem dX11_howMany_56 : decode cX11_howMany 56 = .ok (.aload_n 0, 1) := by decide +kernel
theorem dX11_howMany_57 : decode cX11_howMany 57 = .ok (.getfield 12, 3) := by decide +kernel
theorem dX11_howMany_60 : decode cX11_howMany 60 = .ok (.getfield 122, 3) := by decide +kernel
theorem dX11_howMany_63 : decode cX11_howMany 63 = .ok (.ireturn, 1) := by decide +kernel
theorem dX11_howMany_64 : decode cX11_howMany 64 = .ok (.aload_n 0, 1) := by decide +kernel
theorem dX11_howMany_65 : decode cX11_howMany 65 = .ok (.getfield 12, 3) := by decide +kernel
theorem dX11_howMany_68 : decode cX11_howMany 68 = .ok (.getfield 192, 3) := by decide +kernel
theorem dX11_howMany_71 : decode cX11_howMany 71 = .ok (.ireturn, 1) := by decide +kernel
theorem dX11_howMany_72 : decode cX11_howMany 72 = .ok (.aload_n 0, 1) := by decide +kernel
theorem dX11_howMany_73 : decode cX11_howMany 73 = .ok (.getfield 12, 3) := by decide +kernel
theorem dX11_howMany_76 : decode cX11_howMany 76 = .ok (.getfield 225, 3) := by decide +kernel
theorem dX11_howMany_79 : decode cX11_howMany 79 = .ok (.ireturn, 1) := by decide +kernel
theorem dX11_howMany_80 : decode cX11_howMany 80 = .ok (.aload_n 0, 1) := by decide +kernel
theorem dX11_howMany_81 : decode cX11_howMany 81 = .ok (.getfield 12, 3) := by decide +kernel
theorem dX11_howMany_84 : decode cX11_howMany 84 = .ok (.getfield 125, 3) := by decide +kernel
theorem dX11_howMany_87 : decode cX11_howMany 87 = .ok (.ireturn, 1) := by decide +kernel
theorem dX11_howMany_88 : decode cX11_howMany 88 = .ok (.aload_n 0, 1) := by decide +kernel
theorem dX11_howMany_89 : decode cX11_howMany 89 = .ok (.getfield 27, 3) := by decide +kernel
theorem dX11_howMany_92 : decode cX11_howMany 92 = .ok (.getfield 131, 3) := by decide +kernel
theorem dX11_howMany_95 : decode cX11_howMany 95 = .ok (.ireturn, 1) := by decide +kernel
theorem dX11_bad_0 : decode cX11_bad 0 = .ok (.aload_n 0, 1) := by decide +kernel
theorem dX11_bad_1 : decode cX11_bad 1 = .ok (.dup, 1) := by decide +kernel
theorem dX11_bad_2 : decode cX11_bad 2 = .ok (.getfield 63, 3) := by decide +kernel
theorem dX11_bad_5 : decode cX11_bad 5 = .ok (.iconst 1, 1) := by decide +kernel
theorem dX11_bad_6 : decode cX11_bad 6 = .ok (.iadd, 1) := by decide +kernel
theorem dX11_bad_7 : decode cX11_bad 7 = .ok (.putfield 63, 3) := by decide +kernel
theorem dX11_bad_10 : decode cX11_bad 10 = .ok (.iload_n 1, 1) := by decide +kernel
theorem dX11_bad_11 : decode cX11_bad 11 = .ok (.ireturn, 1) := by decide +kernel
theorem dX11_no_0 : decode cX11_no 0 = .ok (.aload_n 0, 1) := by decide +kernel
theorem dX11_no_1 : decode cX11_no 1 = .ok (.dup, 1) := by decide +kernel
theorem dX11_no_2 : decode cX11_no 2 = .ok (.getfield 67, 3) := by decide +kernel
theorem dX11_no_5 : decode cX11_no 5 = .ok (.iconst 1, 1) := by decide +kernel
theorem dX11_no_6 : decode cX11_no 6 = .ok (.iadd, 1) := by decide +kernel
theorem dX11_no_7 : decode cX11_no 7 = .ok (.putfield 67, 3) := by decide +kernel
theorem dX11_no_10 : decode cX11_no 10 = .ok (.bipush (-3), 2) := by decide +kernel
theorem dX11_no_12 : decode cX11_no 12 = .ok (.ireturn, 1) := by decide +kernel
theorem dX11_full_0 : decode cX11_full 0 = .ok (.aload_n 0, 1) := by decide +kernel
theorem dX11_full_1 : decode cX11_full 1 = .ok (.dup, 1) := by decide +kernel
theorem dX11_full_2 : decode cX11_full 2 = .ok (.getfield 70, 3) := by decide +kernel
theorem dX11_full_5 : decode cX11_full 5 = .ok (.iconst 1, 1) := by decide +kernel
theorem dX11_full_6 : decode cX11_full 6 = .ok (.iadd, 1) := by decide +kernel
theorem dX11_full_7 : decode cX11_full 7 = .ok (.putfield 70, 3) := by decide +kernel
theorem dX11_full_10 : decode cX11_full 10 = .ok (.bipush (-4), 2) := by decide +kernel
theorem dX11_full_12 : decode cX11_full 12 = .ok (.ireturn, 1) := by decide +kernel
theorem dX11_keepFraction_0 : decode cX11_keepFraction 0 = .ok (.lload_n 1, 1) := by decide +kernel
theorem dX11_keepFraction_1 : decode cX11_keepFraction 1 = .ok (.lload_n 3, 1) := by decide +kernel
theorem dX11_keepFraction_2 : decode cX11_keepFraction 2 = .ok (.invokestatic 270, 3) := by decide +kernel
theorem dX11_keepFraction_5 : decode cX11_keepFraction 5 = .ok (.lstore 5, 2) := by decide +kernel
theorem dX11_keepFraction_7 : decode cX11_keepFraction 7 = .ok (.aload_n 0, 1) := by decide +kernel
theorem dX11_keepFraction_8 : decode cX11_keepFraction 8 = .ok (.lload 5, 2) := by decide +kernel
theorem dX11_keepFraction_10 : decode cX11_keepFraction 10 = .ok (.lconst 0, 1) := by decide +kernel
theorem dX11_keepFraction_11 : decode cX11_keepFraction 11 = .ok (.lcmp, 1) := by decide +kernel
theorem dX11_keepFraction_12 : decode cX11_keepFraction 12 = .ok (.ifCond .le 10, 3) := by decide +kernel
theorem dX11_keepFraction_15 : decode cX11_keepFraction 15 = .ok (.lload_n 1, 1) := by decide +kernel
theorem dX11_keepFraction_16 : decode cX11_keepFraction 16 = .ok (.lload 5, 2) := by decide +kernel
theorem dX11_keepFraction_18 : decode cX11_keepFraction 18 = .ok (.ldiv, 1) := by decide +kernel
theorem dX11_keepFraction_19 : decode cX11_keepFraction 19 = .ok (.goto 4, 3) := by decide +kernel
theorem dX11_keepFraction_22 : decode cX11_keepFraction 22 = .ok (.lload_n 1, 1) := by decide +kernel
theorem dX11_keepFraction_23 : decode cX11_keepFraction 23 = .ok (.putfield 56, 3) := by decide +kernel
theorem dX11_keepFraction_26 : decode cX11_keepFraction 26 = .ok (.aload_n 0, 1) := by decide +kernel
theorem dX11_keepFraction_27 : decode cX11_keepFraction 27 = .ok (.lload 5, 2) := by decide +kernel
theorem dX11_keepFraction_29 : decode cX11_keepFraction 29 = .ok (.lconst 0, 1) := by decide +kernel
theorem dX11_keepFraction_30 : decode cX11_keepFraction 30 = .ok (.lcmp, 1) := by decide +kernel
theorem dX11_keepFraction_31 : decode cX11_keepFraction 31 = .ok (.ifCond .le 10, 3) := by decide +kernel
theorem dX11_keepFraction_34 : decode cX11_keepFraction 34 = .ok (.lload_n 3, 1) := by decide +kernel
theorem dX11_keepFraction_35 : decode cX11_keepFraction 35 = .ok (.lload 5, 2) := by decide +kernel
theorem dX11_keepFraction_37 : decode cX11_keepFraction 37 = .ok (.ldiv, 1) := by decide +kernel
theorem dX11_keepFraction_38 : decode cX11_keepFraction 38 = .ok (.goto 4, 3) := by decide +kernel
theorem dX11_keepFraction_41 : decode cX11_keepFraction 41 = .ok (.lload_n 3, 1) := by decide +kernel
theorem dX11_keepFraction_42 : decode cX11_keepFraction 42 = .ok (.putfield 60, 3) := by decide +kernel
theorem dX11_keepFraction_45 : decode cX11_keepFraction 45 = .ok (.return_, 1) := by decide +kernel
end
section
theorem dX11_divisor_0 : decode cX11_divisor 0 = .ok (.lload_n 2, 1) := by decide +kernel
theorem dX11_divisor_1 : decode cX11_divisor 1 = .ok (.lstore 4, 2) := by decide +kernel
theorem dX11_divisor_3 : decode cX11_divisor 3 = .ok (.lload_n 0, 1) := by decide +kernel
theorem dX11_divisor_4 : decode cX11_divisor 4 = .ok (.lstore 6, 2) := by decide +kernel
theorem dX11_divisor_6 : decode cX11_divisor 6 = .ok (.iconst 0, 1) := by decide +kernel
theorem dX11_divisor_7 : decode cX11_divisor 7 = .ok (.istore 8, 2) := by decide +kernel
theorem dX11_divisor_9 : decode cX11_divisor 9 = .ok (.iload 8, 2) := by decide +kernel
theorem dX11_divisor_11 : decode cX11_divisor 11 = .ok (.bipush 100, 2) := by decide +kernel
theorem dX11_divisor_13 : decode cX11_divisor 13 = .ok (.if_icmp .ge 31, 3) := by decide +kernel
theorem dX11_divisor_16 : decode cX11_divisor 16 = .ok (.lload 6, 2) := by decide +kernel
theorem dX11_divisor_18 : decode cX11_divisor 18 = .ok (.lconst 0, 1) := by decide +kernel
theorem dX11_divisor_19 : decode cX11_divisor 19 = .ok (.lcmp, 1) := by decide +kernel
theorem dX11_divisor_20 : decode cX11_divisor 20 = .ok (.ifCond .eq 24, 3) := by decide +kernel
theorem dX11_divisor_23 : decode cX11_divisor 23 = .ok (.lload 4, 2) := by decide +kernel
theorem dX11_divisor_25 : decode cX11_divisor 25 = .ok (.lload 6, 2) := by decide +kernel
theorem dX11_divisor_27 : decode cX11_divisor 27 = .ok (.lrem, 1) := by decide +kernel
theorem dX11_divisor_28 : decode cX11_divisor 28 = .ok (.lstore 9, 2) := by decide +kernel
theorem dX11_divisor_30 : decode cX11_divisor 30 = .ok (.lload 6, 2) := by decide +kernel
theorem dX11_divisor_32 : decode cX11_divisor 32 = .ok (.lstore 4, 2) := by decide +kernel
theorem dX11_divisor_34 : decode cX11_divisor 34 = .ok (.lload 9, 2) := by decide +kernel
theorem dX11_divisor_36 : decode cX11_divisor 36 = .ok (.lstore 6, 2) := by decide +kernel
theorem dX11_divisor_38 : decode cX11_divisor 38 = .ok (.iinc 8 1, 3) := by decide +kernel
theorem dX11_divisor_41 : decode cX11_divisor 41 = .ok (.goto (-32), 3) := by decide +kernel
theorem dX11_divisor_44 : decode cX11_divisor 44 = .ok (.lload 4, 2) := by decide +kernel
theorem dX11_divisor_46 : decode cX11_divisor 46 = .ok (.lreturn, 1) := by decide +kernel
theorem dX11_within_0 : decode cX11_within 0 = .ok (.iload_n 0, 1) := by decide +kernel
theorem dX11_within_1 : decode cX11_within 1 = .ok (.iload_n 1, 1) := by decide +kernel
theorem dX11_within_2 : decode cX11_within 2 = .ok (.if_icmp .lt 12, 3) := by decide +kernel
theorem dX11_within_5 : decode cX11_within 5 = .ok (.iload_n 0, 1) := by decide +kernel
theorem dX11_within_6 : decode cX11_within 6 = .ok (.iload_n 2, 1) := by decide +kernel
theorem dX11_within_7 : decode cX11_within 7 = .ok (.if_icmp .gt 7, 3) := by decide +kernel
theorem dX11_within_10 : decode cX11_within 10 = .ok (.iconst 1, 1) := by decide +kernel
theorem dX11_within_11 : decode cX11_within 11 = .ok (.goto 4, 3) := by decide +kernel
theorem dX11_within_14 : decode cX11_within 14 = .ok (.iconst 0, 1) := by decide +kernel
theorem dX11_within_15 : decode cX11_within 15 = .ok (.ireturn, 1) := by decide +kernel
theorem dX11_isCell_0 : decode cX11_isCell 0 = .ok (.iload_n 0, 1) := by decide +kernel
theorem dX11_isCell_1 : decode cX11_isCell 1 = .ok (.iconst 0, 1) := by decide +kernel
theorem dX11_isCell_2 : decode cX11_isCell 2 = .ok (.bipush 63, 2) := by decide +kernel
theorem dX11_isCell_4 : decode cX11_isCell 4 = .ok (.invokestatic 73, 3) := by decide +kernel
theorem dX11_isCell_7 : decode cX11_isCell 7 = .ok (.ireturn, 1) := by decide +kernel
theorem dX11_isHour_0 : decode cX11_isHour 0 = .ok (.iload_n 0, 1) := by decide +kernel
theorem dX11_isHour_1 : decode cX11_isHour 1 = .ok (.iconst 0, 1) := by decide +kernel
theorem dX11_isHour_2 : decode cX11_isHour 2 = .ok (.bipush 11, 2) := by decide +kernel
theorem dX11_isHour_4 : decode cX11_isHour 4 = .ok (.invokestatic 73, 3) := by decide +kernel
theorem dX11_isHour_7 : decode cX11_isHour 7 = .ok (.ireturn, 1) := by decide +kernel
theorem dX11_isOwner_0 : decode cX11_isOwner 0 = .ok (.iload_n 0, 1) := by decide +kernel
theorem dX11_isOwner_1 : decode cX11_isOwner 1 = .ok (.iconst 0, 1) := by decide +kernel
theorem dX11_isOwner_2 : decode cX11_isOwner 2 = .ok (.iconst 3, 1) := by decide +kernel
theorem dX11_isOwner_3 : decode cX11_isOwner 3 = .ok (.invokestatic 73, 3) := by decide +kernel
theorem dX11_isOwner_6 : decode cX11_isOwner 6 = .ok (.ireturn, 1) := by decide +kernel
theorem dX11_farBetween_0 : decode cX11_farBetween 0 = .ok (.iload_n 0, 1) := by decide +kernel
theorem dX11_farBetween_1 : decode cX11_farBetween 1 = .ok (.bipush 8, 2) := by decide +kernel
theorem dX11_farBetween_3 : decode cX11_farBetween 3 = .ok (.irem, 1) := by decide +kernel
theorem dX11_farBetween_4 : decode cX11_farBetween 4 = .ok (.iload_n 1, 1) := by decide +kernel
theorem dX11_farBetween_5 : decode cX11_farBetween 5 = .ok (.bipush 8, 2) := by decide +kernel
theorem dX11_farBetween_7 : decode cX11_farBetween 7 = .ok (.irem, 1) := by decide +kernel
theorem dX11_farBetween_8 : decode cX11_farBetween 8 = .ok (.isub, 1) := by decide +kernel
theorem dX11_farBetween_9 : decode cX11_farBetween 9 = .ok (.invokestatic 274, 3) := by decide +kernel
theorem dX11_farBetween_12 : decode cX11_farBetween 12 = .ok (.iload_n 0, 1) := by decide +kernel
theorem dX11_farBetween_13 : decode cX11_farBetween 13 = .ok (.bipush 8, 2) := by decide +kernel
theorem dX11_farBetween_15 : decode cX11_farBetween 15 = .ok (.idiv, 1) := by decide +kernel
theorem dX11_farBetween_16 : decode cX11_farBetween 16 = .ok (.iload_n 1, 1) := by decide +kernel
theorem dX11_farBetween_17 : decode cX11_farBetween 17 = .ok (.bipush 8, 2) := by decide +kernel
theorem dX11_farBetween_19 : decode cX11_farBetween 19 = .ok (.idiv, 1) := by decide +kernel
theorem dX11_farBetween_20 : decode cX11_farBetween 20 = .ok (.isub, 1) := by decide +kernel
theorem dX11_farBetween_21 : decode cX11_farBetween 21 = .ok (.invokestatic 274, 3) := by decide +kernel
theorem dX11_farBetween_24 : decode cX11_farBetween 24 = .ok (.iadd, 1) := by decide +kernel
theorem dX11_farBetween_25 : decode cX11_farBetween 25 = .ok (.ireturn, 1) := by decide +kernel
theorem dX12_init_0 : decode cX12_init 0 = .ok (.aload_n 0, 1) := by decide +kernel
theorem dX12_init_1 : decode cX12_init 1 = .ok (.invokespecial 1, 3) := by decide +kernel
theorem dX12_init_4 : decode cX12_init 4 = .ok (.aload_n 0, 1) := by decide +kernel
theorem dX12_init_5 : decode cX12_init 5 = .ok (.sipush 129, 3) := by decide +kernel
theorem dX12_init_8 : decode cX12_init 8 = .ok (.newarray .int, 2) := by decide +kernel
theorem dX12_init_10 : decode cX12_init 10 = .ok (.putfield 7, 3) := by decide +kernel
theorem dX12_init_13 : decode cX12_init 13 = .ok (.aload_n 0, 1) := by decide +kernel
theorem dX12_init_14 : decode cX12_init 14 = .ok (.sipush 258, 3) := by decide +kernel
theorem dX12_init_17 : decode cX12_init 17 = .ok (.newarray .int, 2) := by decide +kernel
theorem dX12_init_19 : decode cX12_init 19 = .ok (.putfield 13, 3) := by decide +kernel
theorem dX12_init_22 : decode cX12_init 22 = .ok (.aload_n 0, 1) := by decide +kernel
theorem dX12_init_23 : decode cX12_init 23 = .ok (.iconst 2, 1) := by decide +kernel
theorem dX12_init_24 : decode cX12_init 24 = .ok (.newarray .boolean, 2) := by decide +kernel
theorem dX12_init_26 : decode cX12_init 26 = .ok (.putfield 16, 3) := by decide +kernel
theorem dX12_init_29 : decode cX12_init 29 = .ok (.aload_n 0, 1) := by decide +kernel
theorem dX12_init_30 : decode cX12_init 30 = .ok (.iconst 3, 1) := by decide +kernel
theorem dX12_init_31 : decode cX12_init 31 = .ok (.newarray .int, 2) := by decide +kernel
theorem dX12_init_33 : decode cX12_init 33 = .ok (.putfield 20, 3) := by decide +kernel
theorem dX12_init_36 : decode cX12_init 36 = .ok (.aload_n 0, 1) := by decide +kernel
theorem dX12_init_37 : decode cX12_init 37 = .ok (.lconst 1, 1) := by decide +kernel
theorem dX12_init_38 : decode cX12_init 38 = .ok (.putfield 23, 3) := by decide +kernel
theorem dX12_init_41 : decode cX12_init 41 = .ok (.aload_n 0, 1) := by decide +kernel
theorem dX12_init_42 : decode cX12_init 42 = .ok (.bipush 7, 2) := by decide +kernel
theorem dX12_init_44 : decode cX12_init 44 = .ok (.newarray .int, 2) := by decide +kernel
theorem dX12_init_46 : decode cX12_init 46 = .ok (.putfield 27, 3) := by decide +kernel
theorem dX12_init_49 : decode cX12_init 49 = .ok (.aload_n 0, 1) := by decide +kernel
theorem dX12_init_50 : decode cX12_init 50 = .ok (.bipush 7, 2) := by decide +kernel
theorem dX12_init_52 : decode cX12_init 52 = .ok (.newarray .int, 2) := by decide +kernel
theorem dX12_init_54 : decode cX12_init 54 = .ok (.putfield 30, 3) := by decide +kernel
theorem dX12_init_57 : decode cX12_init 57 = .ok (.aload_n 0, 1) := by decide +kernel
theorem dX12_init_58 : decode cX12_init 58 = .ok (.bipush 64, 2) := by decide +kernel
theorem dX12_init_60 : decode cX12_init 60 = .ok (.newarray .int, 2) := by decide +kernel
theorem dX12_init_62 : decode cX12_init 62 = .ok (.putfield 33, 3) := by decide +kernel
theorem dX12_init_65 : decode cX12_init 65 = .ok (.aload_n 0, 1) := by decide +kernel
theorem dX12_init_66 : decode cX12_init 66 = .ok (.iconst 4, 1) := by decide +kernel
theorem dX12_init_67 : decode cX12_init 67 = .ok (.newarray .int, 2) := by decide +kernel
theorem dX12_init_69 : decode cX12_init 69 = .ok (.putfield 36, 3) := by decide +kernel
theorem dX12_init_72 : decode cX12_init 72 = .ok (.aload_n 0, 1) := by decide +kernel
theorem dX12_init_73 : decode cX12_init 73 = .ok (.iconst 4, 1) := by decide +kernel
theorem dX12_init_74 : decode cX12_init 74 = .ok (.newarray .int, 2) := by decide +kernel
theorem dX12_init_76 : decode cX12_init 76 = .ok (.putfield 39, 3) := by decide +kernel
theorem dX12_init_79 : decode cX12_init 79 = .ok (.aload_n 0, 1) := by decide +kernel
theorem dX12_init_80 : decode cX12_init 80 = .ok (.sipush 128, 3) := by decide +kernel
theorem dX12_init_83 : decode cX12_init 83 = .ok (.newarray .boolean, 2) := by decide +kernel
theorem dX12_init_85 : decode cX12_init 85 = .ok (.putfield 42, 3) := by decide +kernel
theorem dX12_init_88 : decode cX12_init 88 = .ok (.aload_n 0, 1) := by decide +kernel
theorem dX12_init_89 : decode cX12_init 89 = .ok (.bipush 24, 2) := by decide +kernel
theorem dX12_init_91 : decode cX12_init 91 = .ok (.newarray .int, 2) := by decide +kernel
theorem dX12_init_93 : decode cX12_init 93 = .ok (.putfield 45, 3) := by decide +kernel
theorem dX12_init_96 : decode cX12_init 96 = .ok (.aload_n 0, 1) := by decide +kernel
theorem dX12_init_97 : decode cX12_init 97 = .ok (.sipush 150, 3) := by decide +kernel
theorem dX12_init_100 : decode cX12_init 100 = .ok (.newarray .int, 2) := by decide +kernel
theorem dX12_init_102 : decode cX12_init 102 = .ok (.putfield 48, 3) := by decide +kernel
theorem dX12_init_105 : decode cX12_init 105 = .ok (.aload_n 0, 1) := by decide +kernel
theorem dX12_init_106 : decode cX12_init 106 = .ok (.bipush 65, 2) := by decide +kernel
theorem dX12_init_108 : decode cX12_init 108 = .ok (.newarray .int, 2) := by decide +kernel
theorem dX12_init_110 : decode cX12_init 110 = .ok (.putfield 51, 3) := by decide +kernel
theorem dX12_init_113 : decode cX12_init 113 = .ok (.aload_n 0, 1) := by decide +kernel
theorem dX12_init_114 : decode cX12_init 114 = .ok (.iconst 5, 1) := by decide +kernel
theorem dX12_init_115 : decode cX12_init 115 = .ok (.newarray .int, 2) := by decide +kernel
theorem dX12_init_117 : decode cX12_init 117 = .ok (.putfield 54, 3) := by decide +kernel
theorem dX12_init_120 : decode cX12_init 120 = .ok (.return_, 1) := by decide +kernel
theorem dX12_in_0 : decode cX12_in 0 = .ok (.lload_n 0, 1) := by decide +kernel
theorem dX12_in_1 : decode cX12_in 1 = .ok (.lload_n 2, 1) := by decide +kernel
theorem dX12_in_2 : decode cX12_in 2 = .ok (.lcmp, 1) := by decide +kernel
theorem dX12_in_3 : decode cX12_in 3 = .ok (.ifCond .lt 14, 3) := by decide +kernel
theorem dX12_in_6 : decode cX12_in 6 = .ok (.lload_n 0, 1) := by decide +kernel
theorem dX12_in_7 : decode cX12_in 7 = .ok (.lload 4, 2) := by decide +kernel
theorem dX12_in_9 : decode cX12_in 9 = .ok (.lcmp, 1) := by decide +kernel
theorem dX12_in_10 : decode cX12_in 10 = .ok (.ifCond .gt 7, 3) := by decide +kernel
theorem dX12_in_13 : decode cX12_in 13 = .ok (.iconst 1, 1) := by decide +kernel
theorem dX12_in_14 : decode cX12_in 14 = .ok (.goto 4, 3) := by decide +kernel
theorem dX12_in_17 : decode cX12_in 17 = .ok (.iconst 0, 1) := by decide +kernel
theorem dX12_in_18 : decode cX12_in 18 = .ok (.ireturn, 1) := by decide +kernel
theorem dX12_bad_0 : decode cX12_bad 0 = .ok (.aload_n 0, 1) := by decide +kernel
theorem dX12_bad_1 : decode cX12_bad 1 = .ok (.getfield 20, 3) := by decide +kernel
theorem dX12_bad_4 : decode cX12_bad 4 = .ok (.iconst 0, 1) := by decide +kernel
theorem dX12_bad_5 : decode cX12_bad 5 = .ok (.dup2, 1) := by decide +kernel
theorem dX12_bad_6 : decode cX12_bad 6 = .ok (.iaload, 1) := by decide +kernel
theorem dX12_bad_7 : decode cX12_bad 7 = .ok (.iconst 1, 1) := by decide +kernel
theorem dX12_bad_8 : decode cX12_bad 8 = .ok (.iadd, 1) := by decide +kernel
theorem dX12_bad_9 : decode cX12_bad 9 = .ok (.iastore, 1) := by decide +kernel
theorem dX12_bad_10 : decode cX12_bad 10 = .ok (.iload_n 1, 1) := by decide +kernel
theorem dX12_bad_11 : decode cX12_bad 11 = .ok (.ireturn, 1) := by decide +kernel
theorem dX12_no_0 : decode cX12_no 0 = .ok (.aload_n 0, 1) := by decide +kernel
theorem dX12_no_1 : decode cX12_no 1 = .ok (.getfield 20, 3) := by decide +kernel
theorem dX12_no_4 : decode cX12_no 4 = .ok (.iconst 1, 1) := by decide +kernel
theorem dX12_no_5 : decode cX12_no 5 = .ok (.dup2, 1) := by decide +kernel
theorem dX12_no_6 : decode cX12_no 6 = .ok (.iaload, 1) := by decide +kernel
theorem dX12_no_7 : decode cX12_no 7 = .ok (.iconst 1, 1) := by decide +kernel
theorem dX12_no_8 : decode cX12_no 8 = .ok (.iadd, 1) := by decide +kernel
theorem dX12_no_9 : decode cX12_no 9 = .ok (.iastore, 1) := by decide +kernel
theorem dX12_no_10 : decode cX12_no 10 = .ok (.bipush (-3), 2) := by decide +kernel
theorem dX12_no_12 : decode cX12_no 12 = .ok (.ireturn, 1) := by decide +kernel
theorem dX12_full_0 : decode cX12_full 0 = .ok (.aload_n 0, 1) := by decide +kernel
theorem dX12_full_1 : decode cX12_full 1 = .ok (.getfield 20, 3) := by decide +kernel
theorem dX12_full_4 : decode cX12_full 4 = .ok (.iconst 2, 1) := by decide +kernel
theorem dX12_full_5 : decode cX12_full 5 = .ok (.dup2, 1) := by decide +kernel
theorem dX12_full_6 : decode cX12_full 6 = .ok (.iaload, 1) := by decide +kernel
theorem dX12_full_7 : decode cX12_full 7 = .ok (.iconst 1, 1) := by decide +kernel
theorem dX12_full_8 : decode cX12_full 8 = .ok (.iadd, 1) := by decide +kernel
theorem dX12_full_9 : decode cX12_full 9 = .ok (.iastore, 1) := by decide +kernel
theorem dX12_full_10 : decode cX12_full 10 = .ok (.bipush (-4), 2) := by decide +kernel
theorem dX12_full_12 : decode cX12_full 12 = .ok (.ireturn, 1) := by decide +kernel
theorem dX12_bits_0 : decode cX12_bits 0 = .ok (.iconst 0, 1) := by decide +kernel
theorem dX12_bits_1 : decode cX12_bits 1 = .ok (.istore_n 1, 1) := by decide +kernel
theorem dX12_bits_2 : decode cX12_bits 2 = .ok (.iload_n 0, 1) := by decide +kernel
theorem dX12_bits_3 : decode cX12_bits 3 = .ok (.istore_n 2, 1) := by decide +kernel
theorem dX12_bits_4 : decode cX12_bits 4 = .ok (.iload_n 2, 1) := by decide +kernel
theorem dX12_bits_5 : decode cX12_bits 5 = .ok (.ifCond .le 16, 3) := by decide +kernel
theorem dX12_bits_8 : decode cX12_bits 8 = .ok (.iload_n 1, 1) := by decide +kernel
theorem dX12_bits_9 : decode cX12_bits 9 = .ok (.iload_n 2, 1) := by decide +kernel
theorem dX12_bits_10 : decode cX12_bits 10 = .ok (.iconst 1, 1) := by decide +kernel
theorem dX12_bits_11 : decode cX12_bits 11 = .ok (.iand, 1) := by decide +kernel
theorem dX12_bits_12 : decode cX12_bits 12 = .ok (.iadd, 1) := by decide +kernel
theorem dX12_bits_13 : decode cX12_bits 13 = .ok (.istore_n 1, 1) := by decide +kernel
theorem dX12_bits_14 : decode cX12_bits 14 = .ok (.iload_n 2, 1) := by decide +kernel
theorem dX12_bits_15 : decode cX12_bits 15 = .ok (.iconst 1, 1) := by decide +kernel
theorem dX12_bits_16 : decode cX12_bits 16 = .ok (.ishr, 1) := by decide +kernel
theorem dX12_bits_17 : decode cX12_bits 17 = .ok (.istore_n 2, 1) := by decide +kernel
theorem dX12_bits_18 : decode cX12_bits 18 = .ok (.goto (-14), 3) := by decide +kernel
theorem dX12_bits_21 : decode cX12_bits 21 = .ok (.iload_n 1, 1) := by decide +kernel
theorem dX12_bits_22 : decode cX12_bits 22 = .ok (.ireturn, 1) := by decide +kernel
theorem dX12_begin_0 : decode cX12_begin 0 = .ok (.iconst 0, 1) := by decide +kernel
theorem dX12_begin_1 : decode cX12_begin 1 = .ok (.istore_n 2, 1) := by decide +kernel
theorem dX12_begin_2 : decode cX12_begin 2 = .ok (.iload_n 2, 1) := by decide +kernel
theorem dX12_begin_3 : decode cX12_begin 3 = .ok (.bipush 65, 2) := by decide +kernel
theorem dX12_begin_5 : decode cX12_begin 5 = .ok (.if_icmp .ge 13, 3) := by decide +kernel
theorem dX12_begin_8 : decode cX12_begin 8 = .ok (.aload_n 0, 1) := by decide +kernel
theorem dX12_begin_9 : decode cX12_begin 9 = .ok (.iload_n 2, 1) := by decide +kernel
theorem dX12_begin_10 : decode cX12_begin 10 = .ok (.iconst 0, 1) := by decide +kernel
theorem dX12_begin_11 : decode cX12_begin 11 = .ok (.iastore, 1) := by decide +kernel
theorem dX12_begin_12 : decode cX12_begin 12 = .ok (.iinc 2 1, 3) := by decide +kernel
theorem dX12_begin_15 : decode cX12_begin 15 = .ok (.goto (-13), 3) := by decide +kernel
theorem dX12_begin_18 : decode cX12_begin 18 = .ok (.aload_n 0, 1) := by decide +kernel
theorem dX12_begin_19 : decode cX12_begin 19 = .ok (.iconst 1, 1) := by decide +kernel
theorem dX12_begin_20 : decode cX12_begin 20 = .ok (.iload_n 1, 1) := by decide +kernel
theorem dX12_begin_21 : decode cX12_begin 21 = .ok (.iastore, 1) := by decide +kernel
theorem dX12_begin_22 : decode cX12_begin 22 = .ok (.return_, 1) := by decide +kernel
theorem dX12_candles_0 : decode cX12_candles 0 = .ok (.aload_n 0, 1) := by decide +kernel
theorem dX12_candles_1 : decode cX12_candles 1 = .ok (.getfield 7, 3) := by decide +kernel
theorem dX12_candles_4 : decode cX12_candles 4 = .ok (.iconst 0, 1) := by decide +kernel
theorem dX12_candles_5 : decode cX12_candles 5 = .ok (.iaload, 1) := by decide +kernel
theorem dX12_candles_6 : decode cX12_candles 6 = .ok (.ireturn, 1) := by decide +kernel
theorem dX12_isCandle_0 : decode cX12_isCandle 0 = .ok (.iload_n 1, 1) := by decide +kernel
theorem dX12_isCandle_1 : decode cX12_isCandle 1 = .ok (.i2l, 1) := by decide +kernel
theorem dX12_isCandle_2 : decode cX12_isCandle 2 = .ok (.lconst 0, 1) := by decide +kernel
theorem dX12_isCandle_3 : decode cX12_isCandle 3 = .ok (.aload_n 0, 1) := by decide +kernel
theorem dX12_isCandle_4 : decode cX12_isCandle 4 = .ok (.invokevirtual 57, 3) := by decide +kernel
theorem dX12_isCandle_7 : decode cX12_isCandle 7 = .ok (.iconst 1, 1) := by decide +kernel
theorem dX12_isCandle_8 : decode cX12_isCandle 8 = .ok (.isub, 1) := by decide +kernel
theorem dX12_isCandle_9 : decode cX12_isCandle 9 = .ok (.i2l, 1) := by decide +kernel
theorem dX12_isCandle_10 : decode cX12_isCandle 10 = .ok (.invokestatic 61, 3) := by decide +kernel
theorem dX12_isCandle_13 : decode cX12_isCandle 13 = .ok (.ireturn, 1) := by decide +kernel
theorem dX12_isCell_0 : decode cX12_isCell 0 = .ok (.iload_n 0, 1) := by decide +kernel
theorem dX12_isCell_1 : decode cX12_isCell 1 = .ok (.i2l, 1) := by decide +kernel
theorem dX12_isCell_2 : decode cX12_isCell 2 = .ok (.lconst 0, 1) := by decide +kernel
theorem dX12_isCell_3 : decode cX12_isCell 3 = .ok (.ldc2_w 65, 3) := by decide +kernel
theorem dX12_isCell_6 : decode cX12_isCell 6 = .ok (.invokestatic 61, 3) := by decide +kernel
theorem dX12_isCell_9 : decode cX12_isCell 9 = .ok (.ireturn, 1) := by decide +kernel
theorem dX12_isHour_0 : decode cX12_isHour 0 = .ok (.iload_n 0, 1) := by decide +kernel
theorem dX12_isHour_1 : decode cX12_isHour 1 = .ok (.i2l, 1) := by decide +kernel
theorem dX12_isHour_2 : decode cX12_isHour 2 = .ok (.lconst 0, 1) := by decide +kernel
theorem dX12_isHour_3 : decode cX12_isHour 3 = .ok (.ldc2_w 67, 3) := by decide +kernel
theorem dX12_isHour_6 : decode cX12_isHour 6 = .ok (.invokestatic 61, 3) := by decide +kernel
theorem dX12_isHour_9 : decode cX12_isHour 9 = .ok (.ireturn, 1) := by decide +kernel
theorem dX12_isOwner_0 : decode cX12_isOwner 0 = .ok (.iload_n 0, 1) := by decide +kernel
theorem dX12_isOwner_1 : decode cX12_isOwner 1 = .ok (.i2l, 1) := by decide +kernel
theorem dX12_isOwner_2 : decode cX12_isOwner 2 = .ok (.lconst 0, 1) := by decide +kernel
theorem dX12_isOwner_3 : decode cX12_isOwner 3 = .ok (.ldc2_w 69, 3) := by decide +kernel
theorem dX12_isOwner_6 : decode cX12_isOwner 6 = .ok (.invokestatic 61, 3) := by decide +kernel
theorem dX12_isOwner_9 : decode cX12_isOwner 9 = .ok (.ireturn, 1) := by decide +kernel
theorem dX12_isLight_0 : decode cX12_isLight 0 = .ok (.iload_n 0, 1) := by decide +kernel
theorem dX12_isLight_1 : decode cX12_isLight 1 = .ok (.i2l, 1) := by decide +kernel
theorem dX12_isLight_2 : decode cX12_isLight 2 = .ok (.lconst 1, 1) := by decide +kernel
theorem dX12_isLight_3 : decode cX12_isLight 3 = .ok (.ldc2_w 71, 3) := by decide +kernel
theorem dX12_isLight_6 : decode cX12_isLight 6 = .ok (.invokestatic 61, 3) := by decide +kernel
theorem dX12_isLight_9 : decode cX12_isLight 9 = .ok (.ireturn, 1) := by decide +kernel
theorem dX12_get_0 : decode cX12_get 0 = .ok (.aload_n 0, 1) := by decide +kernel
theorem dX12_get_1 : decode cX12_get 1 = .ok (.getfield 7, 3) := by decide +kernel
theorem dX12_get_4 : decode cX12_get 4 = .ok (.bipush 6, 2) := by decide +kernel
theorem dX12_get_6 : decode cX12_get 6 = .ok (.iconst 5, 1) := by decide +kernel
theorem dX12_get_7 : decode cX12_get 7 = .ok (.iload_n 1, 1) := by decide +kernel
theorem dX12_get_8 : decode cX12_get 8 = .ok (.imul, 1) := by decide +kernel
theorem dX12_get_9 : decode cX12_get 9 = .ok (.iadd, 1) := by decide +kernel
theorem dX12_get_10 : decode cX12_get 10 = .ok (.iload_n 2, 1) := by decide +kernel
theorem dX12_get_11 : decode cX12_get 11 = .ok (.iadd, 1) := by decide +kernel
theorem dX12_get_12 : decode cX12_get 12 = .ok (.iaload, 1) := by decide +kernel
theorem dX12_get_13 : decode cX12_get 13 = .ok (.ireturn, 1) := by decide +kernel
theorem dX12_valley_0 : decode cX12_valley 0 = .ok (.iload_n 1, 1) := by decide +kernel
theorem dX12_valley_1 : decode cX12_valley 1 = .ok (.i2l, 1) := by decide +kernel
theorem dX12_valley_2 : decode cX12_valley 2 = .ok (.lconst 0, 1) := by decide +kernel
theorem dX12_valley_3 : decode cX12_valley 3 = .ok (.ldc2_w 73, 3) := by decide +kernel
theorem dX12_valley_6 : decode cX12_valley 6 = .ok (.invokestatic 61, 3) := by decide +kernel
theorem dX12_valley_9 : decode cX12_valley 9 = .ok (.ifCond .ne 10, 3) := by decide +kernel
theorem dX12_valley_12 : decode cX12_valley 12 = .ok (.aload_n 0, 1) := by decide +kernel
theorem dX12_valley_13 : decode cX12_valley 13 = .ok (.bipush (-2), 2) := by decide +kernel
theorem dX12_valley_15 : decode cX12_valley 15 = .ok (.invokevirtual 75, 3) := by decide +kernel
theorem dX12_valley_18 : decode cX12_valley 18 = .ok (.ireturn, 1) := by decide +kernel
theorem dX12_valley_19 : decode cX12_valley 19 = .ok (.aload_n 0, 1) := by decide +kernel
theorem dX12_valley_20 : decode cX12_valley 20 = .ok (.invokevirtual 57, 3) := by decide +kernel
theorem dX12_valley_23 : decode cX12_valley 23 = .ok (.istore_n 2, 1) := by decide +kernel
theorem dX12_valley_24 : decode cX12_valley 24 = .ok (.aload_n 0, 1) := by decide +kernel
theorem dX12_valley_25 : decode cX12_valley 25 = .ok (.getfield 7, 3) := by decide +kernel
theorem dX12_valley_28 : decode cX12_valley 28 = .ok (.iload_n 1, 1) := by decide +kernel
theorem dX12_valley_29 : decode cX12_valley 29 = .ok (.invokestatic 79, 3) := by decide +kernel
theorem dX12_valley_32 : decode cX12_valley 32 = .ok (.iload_n 2, 1) := by decide +kernel
theorem dX12_valley_33 : decode cX12_valley 33 = .ok (.ireturn, 1) := by decide +kernel
theorem dX12_fog_0 : decode cX12_fog 0 = .ok (.iload_n 1, 1) := by decide +kernel
theorem dX12_fog_1 : decode cX12_fog 1 = .ok (.i2l, 1) := by decide +kernel
theorem dX12_fog_2 : decode cX12_fog 2 = .ok (.lconst 0, 1) := by decide +kernel
theorem dX12_fog_3 : decode cX12_fog 3 = .ok (.ldc2_w 73, 3) := by decide +kernel
theorem dX12_fog_6 : decode cX12_fog 6 = .ok (.invokestatic 61, 3) := by decide +kernel
theorem dX12_fog_9 : decode cX12_fog 9 = .ok (.ifCond .ne 10, 3) := by decide +kernel
theorem dX12_fog_12 : decode cX12_fog 12 = .ok (.aload_n 0, 1) := by decide +kernel
theorem dX12_fog_13 : decode cX12_fog 13 = .ok (.bipush (-2), 2) := by decide +kernel
theorem dX12_fog_15 : decode cX12_fog 15 = .ok (.invokevirtual 75, 3) := by decide +kernel
theorem dX12_fog_18 : decode cX12_fog 18 = .ok (.ireturn, 1) := by decide +kernel
theorem dX12_fog_19 : decode cX12_fog 19 = .ok (.aload_n 0, 1) := by decide +kernel
theorem dX12_fog_20 : decode cX12_fog 20 = .ok (.getfield 7, 3) := by decide +kernel
theorem dX12_fog_23 : decode cX12_fog 23 = .ok (.iconst 1, 1) := by decide +kernel
theorem dX12_fog_24 : decode cX12_fog 24 = .ok (.iaload, 1) := by decide +kernel
theorem dX12_fog_25 : decode cX12_fog 25 = .ok (.istore_n 2, 1) := by decide +kernel
theorem dX12_fog_26 : decode cX12_fog 26 = .ok (.aload_n 0, 1) := by decide +kernel
theorem dX12_fog_27 : decode cX12_fog 27 = .ok (.getfield 7, 3) := by decide +kernel
theorem dX12_fog_30 : decode cX12_fog 30 = .ok (.iconst 1, 1) := by decide +kernel
theorem dX12_fog_31 : decode cX12_fog 31 = .ok (.iload_n 1, 1) := by decide +kernel
theorem dX12_fog_32 : decode cX12_fog 32 = .ok (.iastore, 1) := by decide +kernel
theorem dX12_fog_33 : decode cX12_fog 33 = .ok (.iload_n 2, 1) := by decide +kernel
theorem dX12_fog_34 : decode cX12_fog 34 = .ok (.ireturn, 1) := by decide +kernel
theorem dX12_layCandle_0 : decode cX12_layCandle 0 = .ok (.bipush 6, 2) := by decide +kernel
theorem dX12_layCandle_2 : decode cX12_layCandle 2 = .ok (.iconst 5, 1) := by decide +kernel
theorem dX12_layCandle_3 : decode cX12_layCandle 3 = .ok (.aload_n 0, 1) := by decide +kernel
theorem dX12_layCandle_4 : decode cX12_layCandle 4 = .ok (.iconst 0, 1) := by decide +kernel
theorem dX12_layCandle_5 : decode cX12_layCandle 5 = .ok (.iaload, 1) := by decide +kernel
theorem dX12_layCandle_6 : decode cX12_layCandle 6 = .ok (.imul, 1) := by decide +kernel
theorem dX12_layCandle_7 : decode cX12_layCandle 7 = .ok (.iadd, 1) := by decide +kernel
theorem dX12_layCandle_8 : decode cX12_layCandle 8 = .ok (.istore 6, 2) := by decide +kernel
theorem dX12_layCandle_10 : decode cX12_layCandle 10 = .ok (.aload_n 0, 1) := by decide +kernel
theorem dX12_layCandle_11 : decode cX12_layCandle 11 = .ok (.iload 6, 2) := by decide +kernel
theorem dX12_layCandle_13 : decode cX12_layCandle 13 = .ok (.iconst 0, 1) := by decide +kernel
theorem dX12_layCandle_14 : decode cX12_layCandle 14 = .ok (.iadd, 1) := by decide +kernel
theorem dX12_layCandle_15 : decode cX12_layCandle 15 = .ok (.iload_n 1, 1) := by decide +kernel
theorem dX12_layCandle_16 : decode cX12_layCandle 16 = .ok (.iastore, 1) := by decide +kernel
theorem dX12_layCandle_17 : decode cX12_layCandle 17 = .ok (.aload_n 0, 1) := by decide +kernel
theorem dX12_layCandle_18 : decode cX12_layCandle 18 = .ok (.iload 6, 2) := by decide +kernel
theorem dX12_layCandle_20 : decode cX12_layCandle 20 = .ok (.iconst 1, 1) := by decide +kernel
theorem dX12_layCandle_21 : decode cX12_layCandle 21 = .ok (.iadd, 1) := by decide +kernel
theorem dX12_layCandle_22 : decode cX12_layCandle 22 = .ok (.iload_n 2, 1) := by decide +kernel
theorem dX12_layCandle_23 : decode cX12_layCandle 23 = .ok (.iastore, 1) := by decide +kernel
theorem dX12_layCandle_24 : decode cX12_layCandle 24 = .ok (.aload_n 0, 1) := by decide +kernel
theorem dX12_layCandle_25 : decode cX12_layCandle 25 = .ok (.iload 6, 2) := by decide +kernel
theorem dX12_layCandle_27 : decode cX12_layCandle 27 = .ok (.iconst 2, 1) := by decide +kernel
theorem dX12_layCandle_28 : decode cX12_layCandle 28 = .ok (.iadd, 1) := by decide +kernel
theorem dX12_layCandle_29 : decode cX12_layCandle 29 = .ok (.iload_n 3, 1) := by decide +kernel
theorem dX12_layCandle_30 : decode cX12_layCandle 30 = .ok (.iastore, 1) := by decide +kernel
theorem dX12_layCandle_31 : decode cX12_layCandle 31 = .ok (.aload_n 0, 1) := by decide +kernel
theorem dX12_layCandle_32 : decode cX12_layCandle 32 = .ok (.iload 6, 2) := by decide +kernel
theorem dX12_layCandle_34 : decode cX12_layCandle 34 = .ok (.iconst 3, 1) := by decide +kernel
theorem dX12_layCandle_35 : decode cX12_layCandle 35 = .ok (.iadd, 1) := by decide +kernel
theorem dX12_layCandle_36 : decode cX12_layCandle 36 = .ok (.iload 4, 2) := by decide +kernel
theorem dX12_layCandle_38 : decode cX12_layCandle 38 = .ok (.iastore, 1) := by decide +kernel
theorem dX12_layCandle_39 : decode cX12_layCandle 39 = .ok (.aload_n 0, 1) := by decide +kernel
theorem dX12_layCandle_40 : decode cX12_layCandle 40 = .ok (.iload 6, 2) := by decide +kernel
theorem dX12_layCandle_42 : decode cX12_layCandle 42 = .ok (.iconst 4, 1) := by decide +kernel
theorem dX12_layCandle_43 : decode cX12_layCandle 43 = .ok (.iadd, 1) := by decide +kernel
theorem dX12_layCandle_44 : decode cX12_layCandle 44 = .ok (.iload 5, 2) := by decide +kernel
theorem dX12_layCandle_46 : decode cX12_layCandle 46 = .ok (.iastore, 1) := by decide +kernel
theorem dX12_layCandle_47 : decode cX12_layCandle 47 = .ok (.aload_n 0, 1) := by decide +kernel
theorem dX12_layCandle_48 : decode cX12_layCandle 48 = .ok (.iconst 2, 1) := by decide +kernel
theorem dX12_layCandle_49 : decode cX12_layCandle 49 = .ok (.dup2, 1) := by decide +kernel
theorem dX12_layCandle_50 : decode cX12_layCandle 50 = .ok (.iaload, 1) := by decide +kernel
theorem dX12_layCandle_51 : decode cX12_layCandle 51 = .ok (.iconst 1, 1) := by decide +kernel
theorem dX12_layCandle_52 : decode cX12_layCandle 52 = .ok (.aload_n 0, 1) := by decide +kernel
theorem dX12_layCandle_53 : decode cX12_layCandle 53 = .ok (.iconst 0, 1) := by decide +kernel
theorem dX12_layCandle_54 : decode cX12_layCandle 54 = .ok (.iaload, 1) := by decide +kernel
theorem dX12_layCandle_55 : decode cX12_layCandle 55 = .ok (.ishl, 1) := by decide +kernel
theorem dX12_layCandle_56 : decode cX12_layCandle 56 = .ok (.ior, 1) := by decide +kernel
theorem dX12_layCandle_57 : decode cX12_layCandle 57 = .ok (.iastore, 1) := by decide +kernel
theorem dX12_layCandle_58 : decode cX12_layCandle 58 = .ok (.aload_n 0, 1) := by decide +kernel
theorem dX12_layCandle_59 : decode cX12_layCandle 59 = .ok (.iconst 0, 1) := by decide +kernel
theorem dX12_layCandle_60 : decode cX12_layCandle 60 = .ok (.dup2, 1) := by decide +kernel
theorem dX12_layCandle_61 : decode cX12_layCandle 61 = .ok (.iaload, 1) := by decide +kernel
theorem dX12_layCandle_62 : decode cX12_layCandle 62 = .ok (.iconst 1, 1) := by decide +kernel
theorem dX12_layCandle_63 : decode cX12_layCandle 63 = .ok (.iadd, 1) := by decide +kernel
theorem dX12_layCandle_64 : decode cX12_layCandle 64 = .ok (.iastore, 1) := by decide +kernel
theorem dX12_layCandle_65 : decode cX12_layCandle 65 = .ok (.return_, 1) := by decide +kernel
theorem dX12_candle_0 : decode cX12_candle 0 = .ok (.iload_n 1, 1) := by decide +kernel
theorem dX12_candle_1 : decode cX12_candle 1 = .ok (.i2l, 1) := by decide +kernel
theorem dX12_candle_2 : decode cX12_candle 2 = .ok (.lconst 0, 1) := by decide +kernel
theorem dX12_candle_3 : decode cX12_candle 3 = .ok (.ldc2_w 83, 3) := by decide +kernel
theorem dX12_candle_6 : decode cX12_candle 6 = .ok (.invokestatic 61, 3) := by decide +kernel
theorem dX12_candle_9 : decode cX12_candle 9 = .ok (.ifCond .eq 38, 3) := by decide +kernel
theorem dX12_candle_12 : decode cX12_candle 12 = .ok (.iload_n 2, 1) := by decide +kernel
theorem dX12_candle_13 : decode cX12_candle 13 = .ok (.invokestatic 85, 3) := by decide +kernel
theorem dX12_candle_16 : decode cX12_candle 16 = .ok (.ifCond .eq 31, 3) := by decide +kernel
theorem dX12_candle_19 : decode cX12_candle 19 = .ok (.iload_n 3, 1) := by decide +kernel
theorem dX12_candle_20 : decode cX12_candle 20 = .ok (.invokestatic 89, 3) := by decide +kernel
theorem dX12_candle_23 : decode cX12_candle 23 = .ok (.ifCond .eq 24, 3) := by decide +kernel
theorem dX12_candle_26 : decode cX12_candle 26 = .ok (.iload 4, 2) := by decide +kernel
theorem dX12_candle_28 : decode cX12_candle 28 = .ok (.invokestatic 92, 3) := by decide +kernel
theorem dX12_candle_31 : decode cX12_candle 31 = .ok (.ifCond .eq 16, 3) := by decide +kernel
theorem dX12_candle_34 : decode cX12_candle 34 = .ok (.iload 5, 2) := by decide +kernel
theorem dX12_candle_36 : decode cX12_candle 36 = .ok (.i2l, 1) := by decide +kernel
theorem dX12_candle_37 : decode cX12_candle 37 = .ok (.lconst 0, 1) := by decide +kernel
theorem dX12_candle_38 : decode cX12_candle 38 = .ok (.ldc2_w 95, 3) := by decide +kernel
theorem dX12_candle_41 : decode cX12_candle 41 = .ok (.invokestatic 61, 3) := by decide +kernel
theorem dX12_candle_44 : decode cX12_candle 44 = .ok (.ifCond .ne 10, 3) := by decide +kernel
theorem dX12_candle_47 : decode cX12_candle 47 = .ok (.aload_n 0, 1) := by decide +kernel
theorem dX12_candle_48 : decode cX12_candle 48 = .ok (.bipush (-2), 2) := by decide +kernel
theorem dX12_candle_50 : decode cX12_candle 50 = .ok (.invokevirtual 75, 3) := by decide +kernel
theorem dX12_candle_53 : decode cX12_candle 53 = .ok (.ireturn, 1) := by decide +kernel
theorem dX12_candle_54 : decode cX12_candle 54 = .ok (.aload_n 0, 1) := by decide +kernel
theorem dX12_candle_55 : decode cX12_candle 55 = .ok (.invokevirtual 57, 3) := by decide +kernel
theorem dX12_candle_58 : decode cX12_candle 58 = .ok (.bipush 7, 2) := by decide +kernel
theorem dX12_candle_60 : decode cX12_candle 60 = .ok (.if_icmp .ne 8, 3) := by decide +kernel
theorem dX12_candle_63 : decode cX12_candle 63 = .ok (.aload_n 0, 1) := by decide +kernel
theorem dX12_candle_64 : decode cX12_candle 64 = .ok (.invokevirtual 97, 3) := by decide +kernel
theorem dX12_candle_67 : decode cX12_candle 67 = .ok (.ireturn, 1) := by decide +kernel
theorem dX12_candle_68 : decode cX12_candle 68 = .ok (.aload_n 0, 1) := by decide +kernel
theorem dX12_candle_69 : decode cX12_candle 69 = .ok (.getfield 7, 3) := by decide +kernel
theorem dX12_candle_72 : decode cX12_candle 72 = .ok (.iload_n 1, 1) := by decide +kernel
theorem dX12_candle_73 : decode cX12_candle 73 = .ok (.iload_n 2, 1) := by decide +kernel
theorem dX12_candle_74 : decode cX12_candle 74 = .ok (.iload_n 3, 1) := by decide +kernel
theorem dX12_candle_75 : decode cX12_candle 75 = .ok (.iload 4, 2) := by decide +kernel
theorem dX12_candle_77 : decode cX12_candle 77 = .ok (.iload 5, 2) := by decide +kernel
theorem dX12_candle_79 : decode cX12_candle 79 = .ok (.invokestatic 100, 3) := by decide +kernel
theorem dX12_candle_82 : decode cX12_candle 82 = .ok (.aload_n 0, 1) := by decide +kernel
theorem dX12_candle_83 : decode cX12_candle 83 = .ok (.getfield 7, 3) := by decide +kernel
theorem dX12_candle_86 : decode cX12_candle 86 = .ok (.iconst 5, 1) := by decide +kernel
theorem dX12_candle_87 : decode cX12_candle 87 = .ok (.iconst 0, 1) := by decide +kernel
theorem dX12_candle_88 : decode cX12_candle 88 = .ok (.iastore, 1) := by decide +kernel
theorem dX12_candle_89 : decode cX12_candle 89 = .ok (.aload_n 0, 1) := by decide +kernel
theorem dX12_candle_90 : decode cX12_candle 90 = .ok (.invokevirtual 57, 3) := by decide +kernel
theorem dX12_candle_93 : decode cX12_candle 93 = .ok (.iconst 1, 1) := by decide +kernel
theorem dX12_candle_94 : decode cX12_candle 94 = .ok (.isub, 1) := by decide +kernel
theorem dX12_candle_95 : decode cX12_candle 95 = .ok (.ireturn, 1) := by decide +kernel
theorem dX12_keep_0 : decode cX12_keep 0 = .ok (.aload_n 0, 1) := by decide +kernel
theorem dX12_keep_1 : decode cX12_keep 1 = .ok (.getfield 7, 3) := by decide +kernel
theorem dX12_keep_4 : decode cX12_keep 4 = .ok (.iconst 5, 1) := by decide +kernel
theorem dX12_keep_5 : decode cX12_keep 5 = .ok (.iaload, 1) := by decide +kernel
theorem dX12_keep_6 : decode cX12_keep 6 = .ok (.bipush 8, 2) := by decide +kernel
theorem dX12_keep_8 : decode cX12_keep 8 = .ok (.if_icmp .ne 43, 3) := by decide +kernel
theorem dX12_keep_11 : decode cX12_keep 11 = .ok (.iconst 0, 1) := by decide +kernel
theorem dX12_keep_12 : decode cX12_keep 12 = .ok (.istore_n 1, 1) := by decide +kernel
theorem dX12_keep_13 : decode cX12_keep 13 = .ok (.iload_n 1, 1) := by decide +kernel
theorem dX12_keep_14 : decode cX12_keep 14 = .ok (.bipush 56, 2) := by decide +kernel
theorem dX12_keep_16 : decode cX12_keep 16 = .ok (.if_icmp .ge 27, 3) := by decide +kernel
theorem dX12_keep_19 : decode cX12_keep 19 = .ok (.aload_n 0, 1) := by decide +kernel
theorem dX12_keep_20 : decode cX12_keep 20 = .ok (.getfield 7, 3) := by decide +kernel
theorem dX12_keep_23 : decode cX12_keep 23 = .ok (.bipush 65, 2) := by decide +kernel
theorem dX12_keep_25 : decode cX12_keep 25 = .ok (.iload_n 1, 1) := by decide +kernel
theorem dX12_keep_26 : decode cX12_keep 26 = .ok (.iadd, 1) := by decide +kernel
theorem dX12_keep_27 : decode cX12_keep 27 = .ok (.aload_n 0, 1) := by decide +kernel
theorem dX12_keep_28 : decode cX12_keep 28 = .ok (.getfield 7, 3) := by decide +kernel
theorem dX12_keep_31 : decode cX12_keep 31 = .ok (.bipush 73, 2) := by decide +kernel
theorem dX12_keep_33 : decode cX12_keep 33 = .ok (.iload_n 1, 1) := by decide +kernel
theorem dX12_keep_34 : decode cX12_keep 34 = .ok (.iadd, 1) := by decide +kernel
theorem dX12_keep_35 : decode cX12_keep 35 = .ok (.iaload, 1) := by decide +kernel
theorem dX12_keep_36 : decode cX12_keep 36 = .ok (.iastore, 1) := by decide +kernel
theorem dX12_keep_37 : decode cX12_keep 37 = .ok (.iinc 1 1, 3) := by decide +kernel
theorem dX12_keep_40 : decode cX12_keep 40 = .ok (.goto (-27), 3) := by decide +kernel
theorem dX12_keep_43 : decode cX12_keep 43 = .ok (.aload_n 0, 1) := by decide +kernel
theorem dX12_keep_44 : decode cX12_keep 44 = .ok (.getfield 7, 3) := by decide +kernel
theorem dX12_keep_47 : decode cX12_keep 47 = .ok (.iconst 5, 1) := by decide +kernel
theorem dX12_keep_48 : decode cX12_keep 48 = .ok (.bipush 7, 2) := by decide +kernel
theorem dX12_keep_50 : decode cX12_keep 50 = .ok (.iastore, 1) := by decide +kernel
theorem dX12_keep_51 : decode cX12_keep 51 = .ok (.bipush 65, 2) := by decide +kernel
theorem dX12_keep_53 : decode cX12_keep 53 = .ok (.bipush 8, 2) := by decide +kernel
theorem dX12_keep_55 : decode cX12_keep 55 = .ok (.aload_n 0, 1) := by decide +kernel
theorem dX12_keep_56 : decode cX12_keep 56 = .ok (.getfield 7, 3) := by decide +kernel
theorem dX12_keep_59 : decode cX12_keep 59 = .ok (.iconst 5, 1) := by decide +kernel
theorem dX12_keep_60 : decode cX12_keep 60 = .ok (.iaload, 1) := by decide +kernel
theorem dX12_keep_61 : decode cX12_keep 61 = .ok (.imul, 1) := by decide +kernel
theorem dX12_keep_62 : decode cX12_keep 62 = .ok (.iadd, 1) := by decide +kernel
theorem dX12_keep_63 : decode cX12_keep 63 = .ok (.istore_n 1, 1) := by decide +kernel
theorem dX12_keep_64 : decode cX12_keep 64 = .ok (.iconst 0, 1) := by decide +kernel
theorem dX12_keep_65 : decode cX12_keep 65 = .ok (.istore_n 2, 1) := by decide +kernel
theorem dX12_keep_66 : decode cX12_keep 66 = .ok (.iload_n 2, 1) := by decide +kernel
theorem dX12_keep_67 : decode cX12_keep 67 = .ok (.bipush 7, 2) := by decide +kernel
theorem dX12_keep_69 : decode cX12_keep 69 = .ok (.if_icmp .ge 23, 3) := by decide +kernel
theorem dX12_keep_72 : decode cX12_keep 72 = .ok (.aload_n 0, 1) := by decide +kernel
theorem dX12_keep_73 : decode cX12_keep 73 = .ok (.getfield 7, 3) := by decide +kernel
theorem dX12_keep_76 : decode cX12_keep 76 = .ok (.iload_n 1, 1) := by decide +kernel
theorem dX12_keep_77 : decode cX12_keep 77 = .ok (.iload_n 2, 1) := by decide +kernel
theorem dX12_keep_78 : decode cX12_keep 78 = .ok (.iadd, 1) := by decide +kernel
theorem dX12_keep_79 : decode cX12_keep 79 = .ok (.aload_n 0, 1) := by decide +kernel
theorem dX12_keep_80 : decode cX12_keep 80 = .ok (.iload_n 2, 1) := by decide +kernel
theorem dX12_keep_81 : decode cX12_keep 81 = .ok (.iconst 1, 1) := by decide +kernel
theorem dX12_keep_82 : decode cX12_keep 82 = .ok (.invokevirtual 104, 3) := by decide +kernel
theorem dX12_keep_85 : decode cX12_keep 85 = .ok (.iastore, 1) := by decide +kernel
theorem dX12_keep_86 : decode cX12_keep 86 = .ok (.iinc 2 1, 3) := by decide +kernel
theorem dX12_keep_89 : decode cX12_keep 89 = .ok (.goto (-23), 3) := by decide +kernel
theorem dX12_keep_92 : decode cX12_keep 92 = .ok (.aload_n 0, 1) := by decide +kernel
theorem dX12_keep_93 : decode cX12_keep 93 = .ok (.getfield 7, 3) := by decide +kernel
theorem dX12_keep_96 : decode cX12_keep 96 = .ok (.iload_n 1, 1) := by decide +kernel
theorem dX12_keep_97 : decode cX12_keep 97 = .ok (.bipush 7, 2) := by decide +kernel
theorem dX12_keep_99 : decode cX12_keep 99 = .ok (.iadd, 1) := by decide +kernel
theorem dX12_keep_100 : decode cX12_keep 100 = .ok (.aload_n 0, 1) := by decide +kernel
theorem dX12_keep_101 : decode cX12_keep 101 = .ok (.getfield 7, 3) := by decide +kernel
theorem dX12_keep_104 : decode cX12_keep 104 = .ok (.iconst 2, 1) := by decide +kernel
theorem dX12_keep_105 : decode cX12_keep 105 = .ok (.iaload, 1) := by decide +kernel
theorem dX12_keep_106 : decode cX12_keep 106 = .ok (.iastore, 1) := by decide +kernel
theorem dX12_keep_107 : decode cX12_keep 107 = .ok (.aload_n 0, 1) := by decide +kernel
theorem dX12_keep_108 : decode cX12_keep 108 = .ok (.getfield 7, 3) := by decide +kernel
theorem dX12_keep_111 : decode cX12_keep 111 = .ok (.iconst 5, 1) := by decide +kernel
theorem dX12_keep_112 : decode cX12_keep 112 = .ok (.dup2, 1) := by decide +kernel
theorem dX12_keep_113 : decode cX12_keep 113 = .ok (.iaload, 1) := by decide +kernel
theorem dX12_keep_114 : decode cX12_keep 114 = .ok (.iconst 1, 1) := by decide +kernel
theorem dX12_keep_115 : decode cX12_keep 115 = .ok (.iadd, 1) := by decide +kernel
theorem dX12_keep_116 : decode cX12_keep 116 = .ok (.iastore, 1) := by decide +kernel
theorem dX12_keep_117 : decode cX12_keep 117 = .ok (.return_, 1) := by decide +kernel
theorem dX12_move_0 : decode cX12_move 0 = .ok (.aload_n 0, 1) := by decide +kernel
theorem dX12_move_1 : decode cX12_move 1 = .ok (.iload_n 1, 1) := by decide +kernel
theorem dX12_move_2 : decode cX12_move 2 = .ok (.invokevirtual 108, 3) := by decide +kernel
theorem dX12_move_5 : decode cX12_move 5 = .ok (.ifCond .eq 10, 3) := by decide +kernel
theorem dX12_move_8 : decode cX12_move 8 = .ok (.iload_n 2, 1) := by decide +kernel
theorem dX12_move_9 : decode cX12_move 9 = .ok (.invokestatic 85, 3) := by decide +kernel
theorem dX12_move_12 : decode cX12_move 12 = .ok (.ifCond .ne 10, 3) := by decide +kernel
theorem dX12_move_15 : decode cX12_move 15 = .ok (.aload_n 0, 1) := by decide +kernel
theorem dX12_move_16 : decode cX12_move 16 = .ok (.bipush (-2), 2) := by decide +kernel
theorem dX12_move_18 : decode cX12_move 18 = .ok (.invokevirtual 75, 3) := by decide +kernel
theorem dX12_move_21 : decode cX12_move 21 = .ok (.ireturn, 1) := by decide +kernel
theorem dX12_move_22 : decode cX12_move 22 = .ok (.aload_n 0, 1) := by decide +kernel
theorem dX12_move_23 : decode cX12_move 23 = .ok (.iload_n 1, 1) := by decide +kernel
theorem dX12_move_24 : decode cX12_move 24 = .ok (.iconst 1, 1) := by decide +kernel
theorem dX12_move_25 : decode cX12_move 25 = .ok (.invokevirtual 104, 3) := by decide +kernel
theorem dX12_move_28 : decode cX12_move 28 = .ok (.istore_n 3, 1) := by decide +kernel
theorem dX12_move_29 : decode cX12_move 29 = .ok (.aload_n 0, 1) := by decide +kernel
theorem dX12_move_30 : decode cX12_move 30 = .ok (.invokevirtual 111, 3) := by decide +kernel
theorem dX12_move_33 : decode cX12_move 33 = .ok (.aload_n 0, 1) := by decide +kernel
theorem dX12_move_34 : decode cX12_move 34 = .ok (.getfield 7, 3) := by decide +kernel
theorem dX12_move_37 : decode cX12_move 37 = .ok (.bipush 6, 2) := by decide +kernel
theorem dX12_move_39 : decode cX12_move 39 = .ok (.iconst 5, 1) := by decide +kernel
theorem dX12_move_40 : decode cX12_move 40 = .ok (.iload_n 1, 1) := by decide +kernel
theorem dX12_move_41 : decode cX12_move 41 = .ok (.imul, 1) := by decide +kernel
theorem dX12_move_42 : decode cX12_move 42 = .ok (.iadd, 1) := by decide +kernel
theorem dX12_move_43 : decode cX12_move 43 = .ok (.iconst 1, 1) := by decide +kernel
theorem dX12_move_44 : decode cX12_move 44 = .ok (.iadd, 1) := by decide +kernel
theorem dX12_move_45 : decode cX12_move 45 = .ok (.iload_n 2, 1) := by decide +kernel
theorem dX12_move_46 : decode cX12_move 46 = .ok (.iastore, 1) := by decide +kernel
theorem dX12_move_47 : decode cX12_move 47 = .ok (.iload_n 3, 1) := by decide +kernel
theorem dX12_move_48 : decode cX12_move 48 = .ok (.ireturn, 1) := by decide +kernel
theorem dX12_light_0 : decode cX12_light 0 = .ok (.aload_n 0, 1) := by decide +kernel
theorem dX12_light_1 : decode cX12_light 1 = .ok (.iload_n 1, 1) := by decide +kernel
theorem dX12_light_2 : decode cX12_light 2 = .ok (.invokevirtual 108, 3) := by decide +kernel
theorem dX12_light_5 : decode cX12_light 5 = .ok (.ifCond .eq 13, 3) := by decide +kernel
theorem dX12_light_8 : decode cX12_light 8 = .ok (.iload_n 2, 1) := by decide +kernel
theorem dX12_light_9 : decode cX12_light 9 = .ok (.i2l, 1) := by decide +kernel
theorem dX12_light_10 : decode cX12_light 10 = .ok (.lconst 0, 1) := by decide +kernel
theorem dX12_light_11 : decode cX12_light 11 = .ok (.lconst 1, 1) := by decide +kernel
theorem dX12_light_12 : decode cX12_light 12 = .ok (.invokestatic 61, 3) := by decide +kernel
theorem dX12_light_15 : decode cX12_light 15 = .ok (.ifCond .ne 10, 3) := by decide +kernel
theorem dX12_light_18 : decode cX12_light 18 = .ok (.aload_n 0, 1) := by decide +kernel
theorem dX12_light_19 : decode cX12_light 19 = .ok (.bipush (-2), 2) := by decide +kernel
theorem dX12_light_21 : decode cX12_light 21 = .ok (.invokevirtual 75, 3) := by decide +kernel
theorem dX12_light_24 : decode cX12_light 24 = .ok (.ireturn, 1) := by decide +kernel
theorem dX12_light_25 : decode cX12_light 25 = .ok (.aload_n 0, 1) := by decide +kernel
theorem dX12_light_26 : decode cX12_light 26 = .ok (.getfield 7, 3) := by decide +kernel
theorem dX12_light_29 : decode cX12_light 29 = .ok (.iconst 2, 1) := by decide +kernel
theorem dX12_light_30 : decode cX12_light 30 = .ok (.iaload, 1) := by decide +kernel
theorem dX12_light_31 : decode cX12_light 31 = .ok (.iload_n 1, 1) := by decide +kernel
theorem dX12_light_32 : decode cX12_light 32 = .ok (.ishr, 1) := by decide +kernel
theorem dX12_light_33 : decode cX12_light 33 = .ok (.iconst 1, 1) := by decide +kernel
theorem dX12_light_34 : decode cX12_light 34 = .ok (.iand, 1) := by decide +kernel
theorem dX12_light_35 : decode cX12_light 35 = .ok (.iload_n 2, 1) := by decide +kernel
theorem dX12_light_36 : decode cX12_light 36 = .ok (.if_icmp .ne 8, 3) := by decide +kernel
theorem dX12_light_39 : decode cX12_light 39 = .ok (.aload_n 0, 1) := by decide +kernel
theorem dX12_light_40 : decode cX12_light 40 = .ok (.invokevirtual 114, 3) := by decide +kernel
theorem dX12_light_43 : decode cX12_light 43 = .ok (.ireturn, 1) := by decide +kernel
theorem dX12_light_44 : decode cX12_light 44 = .ok (.aload_n 0, 1) := by decide +kernel
theorem dX12_light_45 : decode cX12_light 45 = .ok (.invokevirtual 111, 3) := by decide +kernel
theorem dX12_light_48 : decode cX12_light 48 = .ok (.aload_n 0, 1) := by decide +kernel
theorem dX12_light_49 : decode cX12_light 49 = .ok (.getfield 7, 3) := by decide +kernel
theorem dX12_light_52 : decode cX12_light 52 = .ok (.iconst 2, 1) := by decide +kernel
theorem dX12_light_53 : decode cX12_light 53 = .ok (.dup2, 1) := by decide +kernel
theorem dX12_light_54 : decode cX12_light 54 = .ok (.iaload, 1) := by decide +kernel
theorem dX12_light_55 : decode cX12_light 55 = .ok (.iconst 1, 1) := by decide +kernel
theorem dX12_light_56 : decode cX12_light 56 = .ok (.iload_n 1, 1) := by decide +kernel
theorem dX12_light_57 : decode cX12_light 57 = .ok (.ishl, 1) := by decide +kernel
theorem dX12_light_58 : decode cX12_light 58 = .ok (.ixor, 1) := by decide +kernel
theorem dX12_light_59 : decode cX12_light 59 = .ok (.iastore, 1) := by decide +kernel
theorem dX12_light_60 : decode cX12_light 60 = .ok (.iconst 1, 1) := by decide +kernel
theorem dX12_light_61 : decode cX12_light 61 = .ok (.ireturn, 1) := by decide +kernel
theorem dX12_undo_0 : decode cX12_undo 0 = .ok (.aload_n 0, 1) := by decide +kernel
theorem dX12_undo_1 : decode cX12_undo 1 = .ok (.getfield 7, 3) := by decide +kernel
theorem dX12_undo_4 : decode cX12_undo 4 = .ok (.iconst 5, 1) := by decide +kernel
theorem dX12_undo_5 : decode cX12_undo 5 = .ok (.iaload, 1) := by decide +kernel
theorem dX12_undo_6 : decode cX12_undo 6 = .ok (.ifCond .ne 8, 3) := by decide +kernel
theorem dX12_undo_9 : decode cX12_undo 9 = .ok (.aload_n 0, 1) := by decide +kernel
theorem dX12_undo_10 : decode cX12_undo 10 = .ok (.invokevirtual 114, 3) := by decide +kernel
theorem dX12_undo_13 : decode cX12_undo 13 = .ok (.ireturn, 1) := by decide +kernel
theorem dX12_undo_14 : decode cX12_undo 14 = .ok (.aload_n 0, 1) := by decide +kernel
theorem dX12_undo_15 : decode cX12_undo 15 = .ok (.getfield 7, 3) := by decide +kernel
theorem dX12_undo_18 : decode cX12_undo 18 = .ok (.iconst 5, 1) := by decide +kernel
theorem dX12_undo_19 : decode cX12_undo 19 = .ok (.dup2, 1) := by decide +kernel
theorem dX12_undo_20 : decode cX12_undo 20 = .ok (.iaload, 1) := by decide +kernel
theorem dX12_undo_21 : decode cX12_undo 21 = .ok (.iconst 1, 1) := by decide +kernel
theorem dX12_undo_22 : decode cX12_undo 22 = .ok (.isub, 1) := by decide +kernel
theorem dX12_undo_23 : decode cX12_undo 23 = .ok (.iastore, 1) := by decide +kernel
theorem dX12_undo_24 : decode cX12_undo 24 = .ok (.bipush 65, 2) := by decide +kernel
theorem dX12_undo_26 : decode cX12_undo 26 = .ok (.bipush 8, 2) := by decide +kernel
theorem dX12_undo_28 : decode cX12_undo 28 = .ok (.aload_n 0, 1) := by decide +kernel
theorem dX12_undo_29 : decode cX12_undo 29 = .ok (.getfield 7, 3) := by decide +kernel
theorem dX12_undo_32 : decode cX12_undo 32 = .ok (.iconst 5, 1) := by decide +kernel
theorem dX12_undo_33 : decode cX12_undo 33 = .ok (.iaload, 1) := by decide +kernel
theorem dX12_undo_34 : decode cX12_undo 34 = .ok (.imul, 1) := by decide +kernel
theorem dX12_undo_35 : decode cX12_undo 35 = .ok (.iadd, 1) := by decide +kernel
theorem dX12_undo_36 : decode cX12_undo 36 = .ok (.istore_n 1, 1) := by decide +kernel
theorem dX12_undo_37 : decode cX12_undo 37 = .ok (.iconst 0, 1) := by decide +kernel
theorem dX12_undo_38 : decode cX12_undo 38 = .ok (.istore_n 2, 1) := by decide +kernel
theorem dX12_undo_39 : decode cX12_undo 39 = .ok (.iload_n 2, 1) := by decide +kernel
theorem dX12_undo_40 : decode cX12_undo 40 = .ok (.bipush 7, 2) := by decide +kernel
theorem dX12_undo_42 : decode cX12_undo 42 = .ok (.if_icmp .ge 30, 3) := by decide +kernel
theorem dX12_undo_45 : decode cX12_undo 45 = .ok (.aload_n 0, 1) := by decide +kernel
theorem dX12_undo_46 : decode cX12_undo 46 = .ok (.getfield 7, 3) := by decide +kernel
theorem dX12_undo_49 : decode cX12_undo 49 = .ok (.bipush 6, 2) := by decide +kernel
theorem dX12_undo_51 : decode cX12_undo 51 = .ok (.iconst 5, 1) := by decide +kernel
theorem dX12_undo_52 : decode cX12_undo 52 = .ok (.iload_n 2, 1) := by decide +kernel
theorem dX12_undo_53 : decode cX12_undo 53 = .ok (.imul, 1) := by decide +kernel
theorem dX12_undo_54 : decode cX12_undo 54 = .ok (.iadd, 1) := by decide +kernel
theorem dX12_undo_55 : decode cX12_undo 55 = .ok (.iconst 1, 1) := by decide +kernel
theorem dX12_undo_56 : decode cX12_undo 56 = .ok (.iadd, 1) := by decide +kernel
theorem dX12_undo_57 : decode cX12_undo 57 = .ok (.aload_n 0, 1) := by decide +kernel
theorem dX12_undo_58 : decode cX12_undo 58 = .ok (.getfield 7, 3) := by decide +kernel
theorem dX12_undo_61 : decode cX12_undo 61 = .ok (.iload_n 1, 1) := by decide +kernel
theorem dX12_undo_62 : decode cX12_undo 62 = .ok (.iload_n 2, 1) := by decide +kernel
theorem dX12_undo_63 : decode cX12_undo 63 = .ok (.iadd, 1) := by decide +kernel
theorem dX12_undo_64 : decode cX12_undo 64 = .ok (.iaload, 1) := by decide +kernel
theorem dX12_undo_65 : decode cX12_undo 65 = .ok (.iastore, 1) := by decide +kernel
theorem dX12_undo_66 : decode cX12_undo 66 = .ok (.iinc 2 1, 3) := by decide +kernel
theorem dX12_undo_69 : decode cX12_undo 69 = .ok (.goto (-30), 3) := by decide +kernel
theorem dX12_undo_72 : decode cX12_undo 72 = .ok (.aload_n 0, 1) := by decide +kernel
theorem dX12_undo_73 : decode cX12_undo 73 = .ok (.getfield 7, 3) := by decide +kernel
theorem dX12_undo_76 : decode cX12_undo 76 = .ok (.iconst 2, 1) := by decide +kernel
theorem dX12_undo_77 : decode cX12_undo 77 = .ok (.aload_n 0, 1) := by decide +kernel
theorem dX12_undo_78 : decode cX12_undo 78 = .ok (.getfield 7, 3) := by decide +kernel
theorem dX12_undo_81 : decode cX12_undo 81 = .ok (.iload_n 1, 1) := by decide +kernel
theorem dX12_undo_82 : decode cX12_undo 82 = .ok (.bipush 7, 2) := by decide +kernel
theorem dX12_undo_84 : decode cX12_undo 84 = .ok (.iadd, 1) := by decide +kernel
theorem dX12_undo_85 : decode cX12_undo 85 = .ok (.iaload, 1) := by decide +kernel
theorem dX12_undo_86 : decode cX12_undo 86 = .ok (.iastore, 1) := by decide +kernel
theorem dX12_undo_87 : decode cX12_undo 87 = .ok (.aload_n 0, 1) := by decide +kernel
theorem dX12_undo_88 : decode cX12_undo 88 = .ok (.getfield 7, 3) := by decide +kernel
theorem dX12_undo_91 : decode cX12_undo 91 = .ok (.iconst 2, 1) := by decide +kernel
theorem dX12_undo_92 : decode cX12_undo 92 = .ok (.iaload, 1) := by decide +kernel
theorem dX12_undo_93 : decode cX12_undo 93 = .ok (.ireturn, 1) := by decide +kernel
theorem dX12_plain_0 : decode cX12_plain 0 = .ok (.iload_n 0, 1) := by decide +kernel
theorem dX12_plain_1 : decode cX12_plain 1 = .ok (.iload_n 1, 1) := by decide +kernel
theorem dX12_plain_2 : decode cX12_plain 2 = .ok (.if_icmp .le 9, 3) := by decide +kernel
theorem dX12_plain_5 : decode cX12_plain 5 = .ok (.iload_n 0, 1) := by decide +kernel
theorem dX12_plain_6 : decode cX12_plain 6 = .ok (.iload_n 1, 1) := by decide +kernel
theorem dX12_plain_7 : decode cX12_plain 7 = .ok (.isub, 1) := by decide +kernel
theorem dX12_plain_8 : decode cX12_plain 8 = .ok (.goto 4, 3) := by decide +kernel
theorem dX12_plain_11 : decode cX12_plain 11 = .ok (.iconst 0, 1) := by decide +kernel
theorem dX12_plain_12 : decode cX12_plain 12 = .ok (.ireturn, 1) := by decide +kernel
theorem dX12_wick_0 : decode cX12_wick 0 = .ok (.iload_n 0, 1) := by decide +kernel
theorem dX12_wick_1 : decode cX12_wick 1 = .ok (.iload_n 1, 1) := by decide +kernel
theorem dX12_wick_2 : decode cX12_wick 2 = .ok (.if_icmp .le 11, 3) := by decide +kernel
theorem dX12_wick_5 : decode cX12_wick 5 = .ok (.iload_n 0, 1) := by decide +kernel
theorem dX12_wick_6 : decode cX12_wick 6 = .ok (.iload_n 1, 1) := by decide +kernel
theorem dX12_wick_7 : decode cX12_wick 7 = .ok (.isub, 1) := by decide +kernel
theorem dX12_wick_8 : decode cX12_wick 8 = .ok (.iconst 3, 1) := by decide +kernel
theorem dX12_wick_9 : decode cX12_wick 9 = .ok (.iadd, 1) := by decide +kernel
theorem dX12_wick_10 : decode cX12_wick 10 = .ok (.goto 4, 3) := by decide +kernel
theorem dX12_wick_13 : decode cX12_wick 13 = .ok (.iconst 0, 1) := by decide +kernel
theorem dX12_wick_14 : decode cX12_wick 14 = .ok (.ireturn, 1) := by decide +kernel
theorem dX12_strength_0 : decode cX12_strength 0 = .ok (.iload_n 0, 1) := by decide +kernel
theorem dX12_strength_1 : decode cX12_strength 1 = .ok (.tableswitch 77 1 5 #[35, 41, 41, 58, 66], 35) := by decide +kernel
theorem dX12_strength_36 : decode cX12_strength 36 = .ok (.iload_n 1, 1) := by decide +kernel
theorem dX12_strength_37 : decode cX12_strength 37 = .ok (.iload_n 2, 1) := by decide +kernel
theorem dX12_strength_38 : decode cX12_strength 38 = .ok (.invokestatic 117, 3) := by decide +kernel
theorem dX12_strength_41 : decode cX12_strength 41 = .ok (.ireturn, 1) := by decide +kernel
theorem dX12_strength_42 : decode cX12_strength 42 = .ok (.iload_n 1, 1) := by decide +kernel
theorem dX12_strength_43 : decode cX12_strength 43 = .ok (.iload_n 2, 1) := by decide +kernel
theorem dX12_strength_44 : decode cX12_strength 44 = .ok (.iconst 2, 1) := by decide +kernel
theorem dX12_strength_45 : decode cX12_strength 45 = .ok (.if_icmp .le 9, 3) := by decide +kernel
theorem dX12_strength_48 : decode cX12_strength 48 = .ok (.iload_n 2, 1) := by decide +kernel
theorem dX12_strength_49 : decode cX12_strength 49 = .ok (.iconst 2, 1) := by decide +kernel
theorem dX12_strength_50 : decode cX12_strength 50 = .ok (.isub, 1) := by decide +kernel
theorem dX12_strength_51 : decode cX12_strength 51 = .ok (.goto 4, 3) := by decide +kernel
theorem dX12_strength_54 : decode cX12_strength 54 = .ok (.iconst 0, 1) := by decide +kernel
theorem dX12_strength_55 : decode cX12_strength 55 = .ok (.invokestatic 120, 3) := by decide +kernel
theorem dX12_strength_58 : decode cX12_strength 58 = .ok (.ireturn, 1) := by decide +kernel
theorem dX12_strength_59 : decode cX12_strength 59 = .ok (.iload_n 1, 1) := by decide +kernel
theorem dX12_strength_60 : decode cX12_strength 60 = .ok (.iload_n 2, 1) := by decide +kernel
theorem dX12_strength_61 : decode cX12_strength 61 = .ok (.invokestatic 117, 3) := by decide +kernel
theorem dX12_strength_64 : decode cX12_strength 64 = .ok (.iconst 2, 1) := by decide +kernel
theorem dX12_strength_65 : decode cX12_strength 65 = .ok (.idiv, 1) := by decide +kernel
theorem dX12_strength_66 : decode cX12_strength 66 = .ok (.ireturn, 1) := by decide +kernel
theorem dX12_strength_67 : decode cX12_strength 67 = .ok (.iload_n 1, 1) := by decide +kernel
theorem dX12_strength_68 : decode cX12_strength 68 = .ok (.iload_n 2, 1) := by decide +kernel
theorem dX12_strength_69 : decode cX12_strength 69 = .ok (.if_icmp .le 7, 3) := by decide +kernel
theorem dX12_strength_72 : decode cX12_strength 72 = .ok (.iconst 1, 1) := by decide +kernel
theorem dX12_strength_73 : decode cX12_strength 73 = .ok (.goto 4, 3) := by decide +kernel
theorem dX12_strength_76 : decode cX12_strength 76 = .ok (.iconst 0, 1) := by decide +kernel
theorem dX12_strength_77 : decode cX12_strength 77 = .ok (.ireturn, 1) := by decide +kernel
theorem dX12_strength_78 : decode cX12_strength 78 = .ok (.iload_n 1, 1) := by decide +kernel
theorem dX12_strength_79 : decode cX12_strength 79 = .ok (.iload_n 2, 1) := by decide +kernel
theorem dX12_strength_80 : decode cX12_strength 80 = .ok (.invokestatic 120, 3) := by decide +kernel
theorem dX12_strength_83 : decode cX12_strength 83 = .ok (.ireturn, 1) := by decide +kernel
theorem dX12_burnsFor_0 : decode cX12_burnsFor 0 = .ok (.iload_n 0, 1) := by decide +kernel
theorem dX12_burnsFor_1 : decode cX12_burnsFor 1 = .ok (.iconst 1, 1) := by decide +kernel
theorem dX12_burnsFor_2 : decode cX12_burnsFor 2 = .ok (.if_icmp .ne 9, 3) := by decide +kernel
theorem dX12_burnsFor_5 : decode cX12_burnsFor 5 = .ok (.iload_n 1, 1) := by decide +kernel
theorem dX12_burnsFor_6 : decode cX12_burnsFor 6 = .ok (.iconst 2, 1) := by decide +kernel
theorem dX12_burnsFor_7 : decode cX12_burnsFor 7 = .ok (.idiv, 1) := by decide +kernel
theorem dX12_burnsFor_8 : decode cX12_burnsFor 8 = .ok (.goto 38, 3) := by decide +kernel
theorem dX12_burnsFor_11 : decode cX12_burnsFor 11 = .ok (.iload_n 0, 1) := by decide +kernel
theorem dX12_burnsFor_12 : decode cX12_burnsFor 12 = .ok (.iconst 3, 1) := by decide +kernel
theorem dX12_burnsFor_13 : decode cX12_burnsFor 13 = .ok (.if_icmp .ne 9, 3) := by decide +kernel
theorem dX12_burnsFor_16 : decode cX12_burnsFor 16 = .ok (.iconst 2, 1) := by decide +kernel
theorem dX12_burnsFor_17 : decode cX12_burnsFor 17 = .ok (.iload_n 1, 1) := by decide +kernel
theorem dX12_burnsFor_18 : decode cX12_burnsFor 18 = .ok (.imul, 1) := by decide +kernel
theorem dX12_burnsFor_19 : decode cX12_burnsFor 19 = .ok (.goto 27, 3) := by decide +kernel
theorem dX12_burnsFor_22 : decode cX12_burnsFor 22 = .ok (.iload_n 0, 1) := by decide +kernel
theorem dX12_burnsFor_23 : decode cX12_burnsFor 23 = .ok (.iconst 4, 1) := by decide +kernel
theorem dX12_burnsFor_24 : decode cX12_burnsFor 24 = .ok (.if_icmp .ne 11, 3) := by decide +kernel
theorem dX12_burnsFor_27 : decode cX12_burnsFor 27 = .ok (.iload_n 1, 1) := by decide +kernel
theorem dX12_burnsFor_28 : decode cX12_burnsFor 28 = .ok (.iconst 2, 1) := by decide +kernel
theorem dX12_burnsFor_29 : decode cX12_burnsFor 29 = .ok (.idiv, 1) := by decide +kernel
theorem dX12_burnsFor_30 : decode cX12_burnsFor 30 = .ok (.iconst 2, 1) := by decide +kernel
theorem dX12_burnsFor_31 : decode cX12_burnsFor 31 = .ok (.iadd, 1) := by decide +kernel
theorem dX12_burnsFor_32 : decode cX12_burnsFor 32 = .ok (.goto 14, 3) := by decide +kernel
theorem dX12_burnsFor_35 : decode cX12_burnsFor 35 = .ok (.iload_n 0, 1) := by decide +kernel
theorem dX12_burnsFor_36 : decode cX12_burnsFor 36 = .ok (.iconst 5, 1) := by decide +kernel
theorem dX12_burnsFor_37 : decode cX12_burnsFor 37 = .ok (.if_icmp .ne 8, 3) := by decide +kernel
theorem dX12_burnsFor_40 : decode cX12_burnsFor 40 = .ok (.bipush 12, 2) := by decide +kernel
theorem dX12_burnsFor_42 : decode cX12_burnsFor 42 = .ok (.goto 4, 3) := by decide +kernel
theorem dX12_burnsFor_45 : decode cX12_burnsFor 45 = .ok (.iload_n 1, 1) := by decide +kernel
theorem dX12_burnsFor_46 : decode cX12_burnsFor 46 = .ok (.ireturn, 1) := by decide +kernel
theorem dX12_apart_0 : decode cX12_apart 0 = .ok (.iload_n 0, 1) := by decide +kernel
theorem dX12_apart_1 : decode cX12_apart 1 = .ok (.iload_n 1, 1) := by decide +kernel
theorem dX12_apart_2 : decode cX12_apart 2 = .ok (.if_icmp .le 9, 3) := by decide +kernel
theorem dX12_apart_5 : decode cX12_apart 5 = .ok (.iload_n 0, 1) := by decide +kernel
theorem dX12_apart_6 : decode cX12_apart 6 = .ok (.iload_n 1, 1) := by decide +kernel
theorem dX12_apart_7 : decode cX12_apart 7 = .ok (.isub, 1) := by decide +kernel
theorem dX12_apart_8 : decode cX12_apart 8 = .ok (.goto 6, 3) := by decide +kernel
theorem dX12_apart_11 : decode cX12_apart 11 = .ok (.iload_n 1, 1) := by decide +kernel
theorem dX12_apart_12 : decode cX12_apart 12 = .ok (.iload_n 0, 1) := by decide +kernel
theorem dX12_apart_13 : decode cX12_apart 13 = .ok (.isub, 1) := by decide +kernel
theorem dX12_apart_14 : decode cX12_apart 14 = .ok (.ireturn, 1) := by decide +kernel
theorem dX12_far_0 : decode cX12_far 0 = .ok (.iload_n 0, 1) := by decide +kernel
theorem dX12_far_1 : decode cX12_far 1 = .ok (.bipush 8, 2) := by decide +kernel
theorem dX12_far_3 : decode cX12_far 3 = .ok (.irem, 1) := by decide +kernel
theorem dX12_far_4 : decode cX12_far 4 = .ok (.iload_n 1, 1) := by decide +kernel
theorem dX12_far_5 : decode cX12_far 5 = .ok (.bipush 8, 2) := by decide +kernel
theorem dX12_far_7 : decode cX12_far 7 = .ok (.irem, 1) := by decide +kernel
theorem dX12_far_8 : decode cX12_far 8 = .ok (.invokestatic 123, 3) := by decide +kernel
theorem dX12_far_11 : decode cX12_far 11 = .ok (.iload_n 0, 1) := by decide +kernel
theorem dX12_far_12 : decode cX12_far 12 = .ok (.bipush 8, 2) := by decide +kernel
theorem dX12_far_14 : decode cX12_far 14 = .ok (.idiv, 1) := by decide +kernel
theorem dX12_far_15 : decode cX12_far 15 = .ok (.iload_n 1, 1) := by decide +kernel
theorem dX12_far_16 : decode cX12_far 16 = .ok (.bipush 8, 2) := by decide +kernel
theorem dX12_far_18 : decode cX12_far 18 = .ok (.idiv, 1) := by decide +kernel
theorem dX12_far_19 : decode cX12_far 19 = .ok (.invokestatic 123, 3) := by decide +kernel
theorem dX12_far_22 : decode cX12_far 22 = .ok (.iadd, 1) := by decide +kernel
theorem dX12_far_23 : decode cX12_far 23 = .ok (.ireturn, 1) := by decide +kernel
theorem dX12_layHand_0 : decode cX12_layHand 0 = .ok (.aload_n 0, 1) := by decide +kernel
theorem dX12_layHand_1 : decode cX12_layHand 1 = .ok (.aload_n 0, 1) := by decide +kernel
theorem dX12_layHand_2 : decode cX12_layHand 2 = .ok (.getfield 7, 3) := by decide +kernel
theorem dX12_layHand_5 : decode cX12_layHand 5 = .ok (.iconst 2, 1) := by decide +kernel
theorem dX12_layHand_6 : decode cX12_layHand 6 = .ok (.iaload, 1) := by decide +kernel
theorem dX12_layHand_7 : decode cX12_layHand 7 = .ok (.putfield 126, 3) := by decide +kernel
theorem dX12_layHand_10 : decode cX12_layHand 10 = .ok (.iconst 0, 1) := by decide +kernel
theorem dX12_layHand_11 : decode cX12_layHand 11 = .ok (.istore_n 1, 1) := by decide +kernel
theorem dX12_layHand_12 : decode cX12_layHand 12 = .ok (.iload_n 1, 1) := by decide +kernel
theorem dX12_layHand_13 : decode cX12_layHand 13 = .ok (.aload_n 0, 1) := by decide +kernel
theorem dX12_layHand_14 : decode cX12_layHand 14 = .ok (.invokevirtual 57, 3) := by decide +kernel
theorem dX12_layHand_17 : decode cX12_layHand 17 = .ok (.if_icmp .ge 33, 3) := by decide +kernel
theorem dX12_layHand_20 : decode cX12_layHand 20 = .ok (.aload_n 0, 1) := by decide +kernel
theorem dX12_layHand_21 : decode cX12_layHand 21 = .ok (.getfield 27, 3) := by decide +kernel
theorem dX12_layHand_24 : decode cX12_layHand 24 = .ok (.iload_n 1, 1) := by decide +kernel
theorem dX12_layHand_25 : decode cX12_layHand 25 = .ok (.aload_n 0, 1) := by decide +kernel
theorem dX12_layHand_26 : decode cX12_layHand 26 = .ok (.iload_n 1, 1) := by decide +kernel
theorem dX12_layHand_27 : decode cX12_layHand 27 = .ok (.iconst 1, 1) := by decide +kernel
theorem dX12_layHand_28 : decode cX12_layHand 28 = .ok (.invokevirtual 104, 3) := by decide +kernel
theorem dX12_layHand_31 : decode cX12_layHand 31 = .ok (.iastore, 1) := by decide +kernel
theorem dX12_layHand_32 : decode cX12_layHand 32 = .ok (.aload_n 0, 1) := by decide +kernel
theorem dX12_layHand_33 : decode cX12_layHand 33 = .ok (.getfield 30, 3) := by decide +kernel
theorem dX12_layHand_36 : decode cX12_layHand 36 = .ok (.iload_n 1, 1) := by decide +kernel
theorem dX12_layHand_37 : decode cX12_layHand 37 = .ok (.aload_n 0, 1) := by decide +kernel
theorem dX12_layHand_38 : decode cX12_layHand 38 = .ok (.iload_n 1, 1) := by decide +kernel
theorem dX12_layHand_39 : decode cX12_layHand 39 = .ok (.iconst 3, 1) := by decide +kernel
theorem dX12_layHand_40 : decode cX12_layHand 40 = .ok (.invokevirtual 104, 3) := by decide +kernel
theorem dX12_layHand_43 : decode cX12_layHand 43 = .ok (.iastore, 1) := by decide +kernel
theorem dX12_layHand_44 : decode cX12_layHand 44 = .ok (.iinc 1 1, 3) := by decide +kernel
theorem dX12_layHand_47 : decode cX12_layHand 47 = .ok (.goto (-35), 3) := by decide +kernel
theorem dX12_layHand_50 : decode cX12_layHand 50 = .ok (.return_, 1) := by decide +kernel
theorem dX12_lightOf_0 : decode cX12_lightOf 0 = .ok (.aload_n 0, 1) := by decide +kernel
theorem dX12_lightOf_1 : decode cX12_lightOf 1 = .ok (.iload_n 1, 1) := by decide +kernel
theorem dX12_lightOf_2 : decode cX12_lightOf 2 = .ok (.iconst 0, 1) := by decide +kernel
theorem dX12_lightOf_3 : decode cX12_lightOf 3 = .ok (.invokevirtual 104, 3) := by decide +kernel
theorem dX12_lightOf_6 : decode cX12_lightOf 6 = .ok (.istore 4, 2) := by decide +kernel
theorem dX12_lightOf_8 : decode cX12_lightOf 8 = .ok (.aload_n 0, 1) := by decide +kernel
theorem dX12_lightOf_9 : decode cX12_lightOf 9 = .ok (.getfield 126, 3) := by decide +kernel
theorem dX12_lightOf_12 : decode cX12_lightOf 12 = .ok (.iload_n 1, 1) := by decide +kernel
theorem dX12_lightOf_13 : decode cX12_lightOf 13 = .ok (.ishr, 1) := by decide +kernel
theorem dX12_lightOf_14 : decode cX12_lightOf 14 = .ok (.iconst 1, 1) := by decide +kernel
theorem dX12_lightOf_15 : decode cX12_lightOf 15 = .ok (.iand, 1) := by decide +kernel
theorem dX12_lightOf_16 : decode cX12_lightOf 16 = .ok (.iconst 1, 1) := by decide +kernel
theorem dX12_lightOf_17 : decode cX12_lightOf 17 = .ok (.if_icmp .ne 22, 3) := by decide +kernel
theorem dX12_lightOf_20 : decode cX12_lightOf 20 = .ok (.iload_n 3, 1) := by decide +kernel
theorem dX12_lightOf_21 : decode cX12_lightOf 21 = .ok (.iload 4, 2) := by decide +kernel
theorem dX12_lightOf_23 : decode cX12_lightOf 23 = .ok (.aload_n 0, 1) := by decide +kernel
theorem dX12_lightOf_24 : decode cX12_lightOf 24 = .ok (.iload_n 1, 1) := by decide +kernel
theorem dX12_lightOf_25 : decode cX12_lightOf 25 = .ok (.iconst 4, 1) := by decide +kernel
theorem dX12_lightOf_26 : decode cX12_lightOf 26 = .ok (.invokevirtual 104, 3) := by decide +kernel
theorem dX12_lightOf_29 : decode cX12_lightOf 29 = .ok (.invokestatic 130, 3) := by decide +kernel
theorem dX12_lightOf_32 : decode cX12_lightOf 32 = .ok (.if_icmp .ge 7, 3) := by decide +kernel
theorem dX12_lightOf_35 : decode cX12_lightOf 35 = .ok (.iconst 1, 1) := by decide +kernel
theorem dX12_lightOf_36 : decode cX12_lightOf 36 = .ok (.goto 4, 3) := by decide +kernel
theorem dX12_lightOf_39 : decode cX12_lightOf 39 = .ok (.iconst 0, 1) := by decide +kernel
theorem dX12_lightOf_40 : decode cX12_lightOf 40 = .ok (.istore 5, 2) := by decide +kernel
theorem dX12_lightOf_42 : decode cX12_lightOf 42 = .ok (.iload 4, 2) := by decide +kernel
theorem dX12_lightOf_44 : decode cX12_lightOf 44 = .ok (.aload_n 0, 1) := by decide +kernel
theorem dX12_lightOf_45 : decode cX12_lightOf 45 = .ok (.iload_n 1, 1) := by decide +kernel
theorem dX12_lightOf_46 : decode cX12_lightOf 46 = .ok (.iconst 2, 1) := by decide +kernel
theorem dX12_lightOf_47 : decode cX12_lightOf 47 = .ok (.invokevirtual 104, 3) := by decide +kernel
theorem dX12_lightOf_50 : decode cX12_lightOf 50 = .ok (.aload_n 0, 1) := by decide +kernel
theorem dX12_lightOf_51 : decode cX12_lightOf 51 = .ok (.getfield 27, 3) := by decide +kernel
theorem dX12_lightOf_54 : decode cX12_lightOf 54 = .ok (.iload_n 1, 1) := by decide +kernel
theorem dX12_lightOf_55 : decode cX12_lightOf 55 = .ok (.iaload, 1) := by decide +kernel
theorem dX12_lightOf_56 : decode cX12_lightOf 56 = .ok (.iload_n 2, 1) := by decide +kernel
theorem dX12_lightOf_57 : decode cX12_lightOf 57 = .ok (.invokestatic 133, 3) := by decide +kernel
theorem dX12_lightOf_60 : decode cX12_lightOf 60 = .ok (.invokestatic 136, 3) := by decide +kernel
theorem dX12_lightOf_63 : decode cX12_lightOf 63 = .ok (.aload_n 0, 1) := by decide +kernel
theorem dX12_lightOf_64 : decode cX12_lightOf 64 = .ok (.getfield 7, 3) := by decide +kernel
theorem dX12_lightOf_67 : decode cX12_lightOf 67 = .ok (.iconst 1, 1) := by decide +kernel
theorem dX12_lightOf_68 : decode cX12_lightOf 68 = .ok (.iaload, 1) := by decide +kernel
theorem dX12_lightOf_69 : decode cX12_lightOf 69 = .ok (.isub, 1) := by decide +kernel
theorem dX12_lightOf_70 : decode cX12_lightOf 70 = .ok (.istore 6, 2) := by decide +kernel
theorem dX12_lightOf_72 : decode cX12_lightOf 72 = .ok (.iload 5, 2) := by decide +kernel
theorem dX12_lightOf_74 : decode cX12_lightOf 74 = .ok (.ifCond .eq 13, 3) := by decide +kernel
theorem dX12_lightOf_77 : decode cX12_lightOf 77 = .ok (.iload 6, 2) := by decide +kernel
theorem dX12_lightOf_79 : decode cX12_lightOf 79 = .ok (.ifCond .le 8, 3) := by decide +kernel
theorem dX12_lightOf_82 : decode cX12_lightOf 82 = .ok (.iload 6, 2) := by decide +kernel
theorem dX12_lightOf_84 : decode cX12_lightOf 84 = .ok (.goto 4, 3) := by decide +kernel
theorem dX12_lightOf_87 : decode cX12_lightOf 87 = .ok (.iconst 0, 1) := by decide +kernel
theorem dX12_lightOf_88 : decode cX12_lightOf 88 = .ok (.ireturn, 1) := by decide +kernel
theorem dX12_lightIn_0 : decode cX12_lightIn 0 = .ok (.iconst 0, 1) := by decide +kernel
theorem dX12_lightIn_1 : decode cX12_lightIn 1 = .ok (.istore_n 3, 1) := by decide +kernel
theorem dX12_lightIn_2 : decode cX12_lightIn 2 = .ok (.iconst 0, 1) := by decide +kernel
theorem dX12_lightIn_3 : decode cX12_lightIn 3 = .ok (.istore 4, 2) := by decide +kernel
theorem dX12_lightIn_5 : decode cX12_lightIn 5 = .ok (.iload 4, 2) := by decide +kernel
theorem dX12_lightIn_7 : decode cX12_lightIn 7 = .ok (.aload_n 0, 1) := by decide +kernel
theorem dX12_lightIn_8 : decode cX12_lightIn 8 = .ok (.invokevirtual 57, 3) := by decide +kernel
theorem dX12_lightIn_11 : decode cX12_lightIn 11 = .ok (.if_icmp .ge 32, 3) := by decide +kernel
theorem dX12_lightIn_14 : decode cX12_lightIn 14 = .ok (.aload_n 0, 1) := by decide +kernel
theorem dX12_lightIn_15 : decode cX12_lightIn 15 = .ok (.iload 4, 2) := by decide +kernel
theorem dX12_lightIn_17 : decode cX12_lightIn 17 = .ok (.iload_n 1, 1) := by decide +kernel
theorem dX12_lightIn_18 : decode cX12_lightIn 18 = .ok (.iload_n 2, 1) := by decide +kernel
theorem dX12_lightIn_19 : decode cX12_lightIn 19 = .ok (.invokevirtual 140, 3) := by decide +kernel
theorem dX12_lightIn_22 : decode cX12_lightIn 22 = .ok (.istore 5, 2) := by decide +kernel
theorem dX12_lightIn_24 : decode cX12_lightIn 24 = .ok (.iload 5, 2) := by decide +kernel
theorem dX12_lightIn_26 : decode cX12_lightIn 26 = .ok (.iload_n 3, 1) := by decide +kernel
theorem dX12_lightIn_27 : decode cX12_lightIn 27 = .ok (.if_icmp .le 8, 3) := by decide +kernel
theorem dX12_lightIn_30 : decode cX12_lightIn 30 = .ok (.iload 5, 2) := by decide +kernel
theorem dX12_lightIn_32 : decode cX12_lightIn 32 = .ok (.goto 4, 3) := by decide +kernel
theorem dX12_lightIn_35 : decode cX12_lightIn 35 = .ok (.iload_n 3, 1) := by decide +kernel
theorem dX12_lightIn_36 : decode cX12_lightIn 36 = .ok (.istore_n 3, 1) := by decide +kernel
theorem dX12_lightIn_37 : decode cX12_lightIn 37 = .ok (.iinc 4 1, 3) := by decide +kernel
theorem dX12_lightIn_40 : decode cX12_lightIn 40 = .ok (.goto (-35), 3) := by decide +kernel
theorem dX12_lightIn_43 : decode cX12_lightIn 43 = .ok (.iload_n 3, 1) := by decide +kernel
theorem dX12_lightIn_44 : decode cX12_lightIn 44 = .ok (.ireturn, 1) := by decide +kernel
theorem dX12_whose_0 : decode cX12_whose 0 = .ok (.aload_n 0, 1) := by decide +kernel
theorem dX12_whose_1 : decode cX12_whose 1 = .ok (.iload_n 1, 1) := by decide +kernel
theorem dX12_whose_2 : decode cX12_whose 2 = .ok (.iload_n 2, 1) := by decide +kernel
theorem dX12_whose_3 : decode cX12_whose 3 = .ok (.invokevirtual 143, 3) := by decide +kernel
theorem dX12_whose_6 : decode cX12_whose 6 = .ok (.istore_n 3, 1) := by decide +kernel
theorem dX12_whose_7 : decode cX12_whose 7 = .ok (.iconst (-1), 1) := by decide +kernel
theorem dX12_whose_8 : decode cX12_whose 8 = .ok (.istore 4, 2) := by decide +kernel
theorem dX12_whose_10 : decode cX12_whose 10 = .ok (.iconst 0, 1) := by decide +kernel
theorem dX12_whose_11 : decode cX12_whose 11 = .ok (.istore 5, 2) := by decide +kernel
theorem dX12_whose_13 : decode cX12_whose 13 = .ok (.iload 5, 2) := by decide +kernel
theorem dX12_whose_15 : decode cX12_whose 15 = .ok (.aload_n 0, 1) := by decide +kernel
theorem dX12_whose_16 : decode cX12_whose 16 = .ok (.invokevirtual 57, 3) := by decide +kernel
theorem dX12_whose_19 : decode cX12_whose 19 = .ok (.if_icmp .ge 74, 3) := by decide +kernel
theorem dX12_whose_22 : decode cX12_whose 22 = .ok (.iload_n 3, 1) := by decide +kernel
theorem dX12_whose_23 : decode cX12_whose 23 = .ok (.ifCond .le 70, 3) := by decide +kernel
theorem dX12_whose_26 : decode cX12_whose 26 = .ok (.aload_n 0, 1) := by decide +kernel
theorem dX12_whose_27 : decode cX12_whose 27 = .ok (.iload 5, 2) := by decide +kernel
theorem dX12_whose_29 : decode cX12_whose 29 = .ok (.iload_n 1, 1) := by decide +kernel
theorem dX12_whose_30 : decode cX12_whose 30 = .ok (.iload_n 2, 1) := by decide +kernel
theorem dX12_whose_31 : decode cX12_whose 31 = .ok (.invokevirtual 140, 3) := by decide +kernel
theorem dX12_whose_34 : decode cX12_whose 34 = .ok (.iload_n 3, 1) := by decide +kernel
theorem dX12_whose_35 : decode cX12_whose 35 = .ok (.if_icmp .ne 7, 3) := by decide +kernel
theorem dX12_whose_38 : decode cX12_whose 38 = .ok (.iconst 1, 1) := by decide +kernel
theorem dX12_whose_39 : decode cX12_whose 39 = .ok (.goto 4, 3) := by decide +kernel
theorem dX12_whose_42 : decode cX12_whose 42 = .ok (.iconst 0, 1) := by decide +kernel
theorem dX12_whose_43 : decode cX12_whose 43 = .ok (.istore 6, 2) := by decide +kernel
theorem dX12_whose_45 : decode cX12_whose 45 = .ok (.iload 6, 2) := by decide +kernel
theorem dX12_whose_47 : decode cX12_whose 47 = .ok (.ifCond .eq 15, 3) := by decide +kernel
theorem dX12_whose_50 : decode cX12_whose 50 = .ok (.iload 4, 2) := by decide +kernel
theorem dX12_whose_52 : decode cX12_whose 52 = .ok (.aload_n 0, 1) := by decide +kernel
theorem dX12_whose_53 : decode cX12_whose 53 = .ok (.getfield 30, 3) := by decide +kernel
theorem dX12_whose_56 : decode cX12_whose 56 = .ok (.iload 5, 2) := by decide +kernel
theorem dX12_whose_58 : decode cX12_whose 58 = .ok (.iaload, 1) := by decide +kernel
theorem dX12_whose_59 : decode cX12_whose 59 = .ok (.if_icmp .ne 8, 3) := by decide +kernel
theorem dX12_whose_62 : decode cX12_whose 62 = .ok (.iload 4, 2) := by decide +kernel
theorem dX12_whose_64 : decode cX12_whose 64 = .ok (.goto 21, 3) := by decide +kernel
theorem dX12_whose_67 : decode cX12_whose 67 = .ok (.iload 4, 2) := by decide +kernel
theorem dX12_whose_69 : decode cX12_whose 69 = .ok (.iconst (-1), 1) := by decide +kernel
theorem dX12_whose_70 : decode cX12_whose 70 = .ok (.if_icmp .ne 13, 3) := by decide +kernel
theorem dX12_whose_73 : decode cX12_whose 73 = .ok (.aload_n 0, 1) := by decide +kernel
theorem dX12_whose_74 : decode cX12_whose 74 = .ok (.getfield 30, 3) := by decide +kernel
theorem dX12_whose_77 : decode cX12_whose 77 = .ok (.iload 5, 2) := by decide +kernel
theorem dX12_whose_79 : decode cX12_whose 79 = .ok (.iaload, 1) := by decide +kernel
theorem dX12_whose_80 : decode cX12_whose 80 = .ok (.goto 5, 3) := by decide +kernel
theorem dX12_whose_83 : decode cX12_whose 83 = .ok (.bipush (-2), 2) := by decide +kernel
theorem dX12_whose_85 : decode cX12_whose 85 = .ok (.istore 4, 2) := by decide +kernel
theorem dX12_whose_87 : decode cX12_whose 87 = .ok (.iinc 5 1, 3) := by decide +kernel
theorem dX12_whose_90 : decode cX12_whose 90 = .ok (.goto (-77), 3) := by decide +kernel
theorem dX12_whose_93 : decode cX12_whose 93 = .ok (.iload 4, 2) := by decide +kernel
theorem dX12_whose_95 : decode cX12_whose 95 = .ok (.ireturn, 1) := by decide +kernel
end
section
theorem dX12_acresOf_0 : decode cX12_acresOf 0 = .ok (.iconst 0, 1) := by decide +kernel
theorem dX12_acresOf_1 : decode cX12_acresOf 1 = .ok (.istore_n 3, 1) := by decide +kernel
theorem dX12_acresOf_2 : decode cX12_acresOf 2 = .ok (.iconst 0, 1) := by decide +kernel
theorem dX12_acresOf_3 : decode cX12_acresOf 3 = .ok (.istore 4, 2) := by decide +kernel
theorem dX12_acresOf_5 : decode cX12_acresOf 5 = .ok (.iload 4, 2) := by decide +kernel
theorem dX12_acresOf_7 : decode cX12_acresOf 7 = .ok (.bipush 64, 2) := by decide +kernel
theorem dX12_acresOf_9 : decode cX12_acresOf 9 = .ok (.if_icmp .ge 28, 3) := by decide +kernel
theorem dX12_acresOf_12 : decode cX12_acresOf 12 = .ok (.iload_n 3, 1) := by decide +kernel
theorem dX12_acresOf_13 : decode cX12_acresOf 13 = .ok (.aload_n 0, 1) := by decide +kernel
theorem dX12_acresOf_14 : decode cX12_acresOf 14 = .ok (.iload 4, 2) := by decide +kernel
theorem dX12_acresOf_16 : decode cX12_acresOf 16 = .ok (.iload_n 2, 1) := by decide +kernel
theorem dX12_acresOf_17 : decode cX12_acresOf 17 = .ok (.invokevirtual 146, 3) := by decide +kernel
theorem dX12_acresOf_20 : decode cX12_acresOf 20 = .ok (.iload_n 1, 1) := by decide +kernel
theorem dX12_acresOf_21 : decode cX12_acresOf 21 = .ok (.if_icmp .ne 7, 3) := by decide +kernel
theorem dX12_acresOf_24 : decode cX12_acresOf 24 = .ok (.iconst 1, 1) := by decide +kernel
theorem dX12_acresOf_25 : decode cX12_acresOf 25 = .ok (.goto 4, 3) := by decide +kernel
theorem dX12_acresOf_28 : decode cX12_acresOf 28 = .ok (.iconst 0, 1) := by decide +kernel
theorem dX12_acresOf_29 : decode cX12_acresOf 29 = .ok (.iadd, 1) := by decide +kernel
theorem dX12_acresOf_30 : decode cX12_acresOf 30 = .ok (.istore_n 3, 1) := by decide +kernel
theorem dX12_acresOf_31 : decode cX12_acresOf 31 = .ok (.iinc 4 1, 3) := by decide +kernel
theorem dX12_acresOf_34 : decode cX12_acresOf 34 = .ok (.goto (-29), 3) := by decide +kernel
theorem dX12_acresOf_37 : decode cX12_acresOf 37 = .ok (.iload_n 3, 1) := by decide +kernel
theorem dX12_acresOf_38 : decode cX12_acresOf 38 = .ok (.ireturn, 1) := by decide +kernel
theorem dX12_of_0 : decode cX12_of 0 = .ok (.aload_n 0, 1) := by decide +kernel
theorem dX12_of_1 : decode cX12_of 1 = .ok (.iload_n 1, 1) := by decide +kernel
theorem dX12_of_2 : decode cX12_of 2 = .ok (.invokevirtual 108, 3) := by decide +kernel
theorem dX12_of_5 : decode cX12_of 5 = .ok (.ifCond .eq 15, 3) := by decide +kernel
theorem dX12_of_8 : decode cX12_of 8 = .ok (.iload_n 2, 1) := by decide +kernel
theorem dX12_of_9 : decode cX12_of 9 = .ok (.i2l, 1) := by decide +kernel
theorem dX12_of_10 : decode cX12_of 10 = .ok (.lconst 0, 1) := by decide +kernel
theorem dX12_of_11 : decode cX12_of 11 = .ok (.ldc2_w 149, 3) := by decide +kernel
theorem dX12_of_14 : decode cX12_of 14 = .ok (.invokestatic 61, 3) := by decide +kernel
theorem dX12_of_17 : decode cX12_of 17 = .ok (.ifCond .ne 10, 3) := by decide +kernel
theorem dX12_of_20 : decode cX12_of 20 = .ok (.aload_n 0, 1) := by decide +kernel
theorem dX12_of_21 : decode cX12_of 21 = .ok (.bipush (-2), 2) := by decide +kernel
theorem dX12_of_23 : decode cX12_of 23 = .ok (.invokevirtual 75, 3) := by decide +kernel
theorem dX12_of_26 : decode cX12_of 26 = .ok (.ireturn, 1) := by decide +kernel
theorem dX12_of_27 : decode cX12_of 27 = .ok (.iload_n 2, 1) := by decide +kernel
theorem dX12_of_28 : decode cX12_of 28 = .ok (.iconst 5, 1) := by decide +kernel
theorem dX12_of_29 : decode cX12_of 29 = .ok (.if_icmp .ne 16, 3) := by decide +kernel
theorem dX12_of_32 : decode cX12_of 32 = .ok (.aload_n 0, 1) := by decide +kernel
theorem dX12_of_33 : decode cX12_of 33 = .ok (.getfield 7, 3) := by decide +kernel
theorem dX12_of_36 : decode cX12_of 36 = .ok (.iconst 2, 1) := by decide +kernel
theorem dX12_of_37 : decode cX12_of 37 = .ok (.iaload, 1) := by decide +kernel
theorem dX12_of_38 : decode cX12_of 38 = .ok (.iload_n 1, 1) := by decide +kernel
theorem dX12_of_39 : decode cX12_of 39 = .ok (.ishr, 1) := by decide +kernel
theorem dX12_of_40 : decode cX12_of 40 = .ok (.iconst 1, 1) := by decide +kernel
theorem dX12_of_41 : decode cX12_of 41 = .ok (.iand, 1) := by decide +kernel
theorem dX12_of_42 : decode cX12_of 42 = .ok (.goto 33, 3) := by decide +kernel
theorem dX12_of_45 : decode cX12_of 45 = .ok (.iload_n 2, 1) := by decide +kernel
theorem dX12_of_46 : decode cX12_of 46 = .ok (.bipush 6, 2) := by decide +kernel
theorem dX12_of_48 : decode cX12_of 48 = .ok (.if_icmp .ne 21, 3) := by decide +kernel
theorem dX12_of_51 : decode cX12_of 51 = .ok (.aload_n 0, 1) := by decide +kernel
theorem dX12_of_52 : decode cX12_of 52 = .ok (.iload_n 1, 1) := by decide +kernel
theorem dX12_of_53 : decode cX12_of 53 = .ok (.iconst 0, 1) := by decide +kernel
theorem dX12_of_54 : decode cX12_of 54 = .ok (.invokevirtual 104, 3) := by decide +kernel
theorem dX12_of_57 : decode cX12_of 57 = .ok (.aload_n 0, 1) := by decide +kernel
theorem dX12_of_58 : decode cX12_of 58 = .ok (.iload_n 1, 1) := by decide +kernel
theorem dX12_of_59 : decode cX12_of 59 = .ok (.iconst 4, 1) := by decide +kernel
theorem dX12_of_60 : decode cX12_of 60 = .ok (.invokevirtual 104, 3) := by decide +kernel
theorem dX12_of_63 : decode cX12_of 63 = .ok (.invokestatic 130, 3) := by decide +kernel
theorem dX12_of_66 : decode cX12_of 66 = .ok (.goto 9, 3) := by decide +kernel
theorem dX12_of_69 : decode cX12_of 69 = .ok (.aload_n 0, 1) := by decide +kernel
theorem dX12_of_70 : decode cX12_of 70 = .ok (.iload_n 1, 1) := by decide +kernel
theorem dX12_of_71 : decode cX12_of 71 = .ok (.iload_n 2, 1) := by decide +kernel
theorem dX12_of_72 : decode cX12_of 72 = .ok (.invokevirtual 104, 3) := by decide +kernel
theorem dX12_of_75 : decode cX12_of 75 = .ok (.ireturn, 1) := by decide +kernel
theorem dX12_shines_0 : decode cX12_shines 0 = .ok (.aload_n 0, 1) := by decide +kernel
theorem dX12_shines_1 : decode cX12_shines 1 = .ok (.iload_n 1, 1) := by decide +kernel
theorem dX12_shines_2 : decode cX12_shines 2 = .ok (.invokevirtual 108, 3) := by decide +kernel
theorem dX12_shines_5 : decode cX12_shines 5 = .ok (.ifCond .eq 17, 3) := by decide +kernel
theorem dX12_shines_8 : decode cX12_shines 8 = .ok (.iload_n 2, 1) := by decide +kernel
theorem dX12_shines_9 : decode cX12_shines 9 = .ok (.invokestatic 85, 3) := by decide +kernel
theorem dX12_shines_12 : decode cX12_shines 12 = .ok (.ifCond .eq 10, 3) := by decide +kernel
theorem dX12_shines_15 : decode cX12_shines 15 = .ok (.iload_n 3, 1) := by decide +kernel
theorem dX12_shines_16 : decode cX12_shines 16 = .ok (.invokestatic 151, 3) := by decide +kernel
theorem dX12_shines_19 : decode cX12_shines 19 = .ok (.ifCond .ne 10, 3) := by decide +kernel
theorem dX12_shines_22 : decode cX12_shines 22 = .ok (.aload_n 0, 1) := by decide +kernel
theorem dX12_shines_23 : decode cX12_shines 23 = .ok (.bipush (-2), 2) := by decide +kernel
theorem dX12_shines_25 : decode cX12_shines 25 = .ok (.invokevirtual 75, 3) := by decide +kernel
theorem dX12_shines_28 : decode cX12_shines 28 = .ok (.ireturn, 1) := by decide +kernel
theorem dX12_shines_29 : decode cX12_shines 29 = .ok (.aload_n 0, 1) := by decide +kernel
theorem dX12_shines_30 : decode cX12_shines 30 = .ok (.invokevirtual 154, 3) := by decide +kernel
theorem dX12_shines_33 : decode cX12_shines 33 = .ok (.aload_n 0, 1) := by decide +kernel
theorem dX12_shines_34 : decode cX12_shines 34 = .ok (.iload_n 1, 1) := by decide +kernel
theorem dX12_shines_35 : decode cX12_shines 35 = .ok (.iload_n 2, 1) := by decide +kernel
theorem dX12_shines_36 : decode cX12_shines 36 = .ok (.iload_n 3, 1) := by decide +kernel
theorem dX12_shines_37 : decode cX12_shines 37 = .ok (.invokevirtual 140, 3) := by decide +kernel
theorem dX12_shines_40 : decode cX12_shines 40 = .ok (.ireturn, 1) := by decide +kernel
theorem dX12_cell_0 : decode cX12_cell 0 = .ok (.iload_n 1, 1) := by decide +kernel
theorem dX12_cell_1 : decode cX12_cell 1 = .ok (.invokestatic 85, 3) := by decide +kernel
theorem dX12_cell_4 : decode cX12_cell 4 = .ok (.ifCond .eq 22, 3) := by decide +kernel
theorem dX12_cell_7 : decode cX12_cell 7 = .ok (.iload_n 2, 1) := by decide +kernel
theorem dX12_cell_8 : decode cX12_cell 8 = .ok (.invokestatic 151, 3) := by decide +kernel
theorem dX12_cell_11 : decode cX12_cell 11 = .ok (.ifCond .eq 15, 3) := by decide +kernel
theorem dX12_cell_14 : decode cX12_cell 14 = .ok (.iload_n 3, 1) := by decide +kernel
theorem dX12_cell_15 : decode cX12_cell 15 = .ok (.i2l, 1) := by decide +kernel
theorem dX12_cell_16 : decode cX12_cell 16 = .ok (.lconst 0, 1) := by decide +kernel
theorem dX12_cell_17 : decode cX12_cell 17 = .ok (.ldc2_w 157, 3) := by decide +kernel
theorem dX12_cell_20 : decode cX12_cell 20 = .ok (.invokestatic 61, 3) := by decide +kernel
theorem dX12_cell_23 : decode cX12_cell 23 = .ok (.ifCond .ne 10, 3) := by decide +kernel
theorem dX12_cell_26 : decode cX12_cell 26 = .ok (.aload_n 0, 1) := by decide +kernel
theorem dX12_cell_27 : decode cX12_cell 27 = .ok (.bipush (-10), 2) := by decide +kernel
theorem dX12_cell_29 : decode cX12_cell 29 = .ok (.invokevirtual 75, 3) := by decide +kernel
theorem dX12_cell_32 : decode cX12_cell 32 = .ok (.ireturn, 1) := by decide +kernel
theorem dX12_cell_33 : decode cX12_cell 33 = .ok (.aload_n 0, 1) := by decide +kernel
theorem dX12_cell_34 : decode cX12_cell 34 = .ok (.invokevirtual 154, 3) := by decide +kernel
theorem dX12_cell_37 : decode cX12_cell 37 = .ok (.aload_n 0, 1) := by decide +kernel
theorem dX12_cell_38 : decode cX12_cell 38 = .ok (.iload_n 1, 1) := by decide +kernel
theorem dX12_cell_39 : decode cX12_cell 39 = .ok (.iload_n 2, 1) := by decide +kernel
theorem dX12_cell_40 : decode cX12_cell 40 = .ok (.invokevirtual 146, 3) := by decide +kernel
theorem dX12_cell_43 : decode cX12_cell 43 = .ok (.istore 4, 2) := by decide +kernel
theorem dX12_cell_45 : decode cX12_cell 45 = .ok (.iload_n 3, 1) := by decide +kernel
theorem dX12_cell_46 : decode cX12_cell 46 = .ok (.ifCond .ne 12, 3) := by decide +kernel
theorem dX12_cell_49 : decode cX12_cell 49 = .ok (.aload_n 0, 1) := by decide +kernel
theorem dX12_cell_50 : decode cX12_cell 50 = .ok (.iload_n 1, 1) := by decide +kernel
theorem dX12_cell_51 : decode cX12_cell 51 = .ok (.iload_n 2, 1) := by decide +kernel
theorem dX12_cell_52 : decode cX12_cell 52 = .ok (.invokevirtual 143, 3) := by decide +kernel
theorem dX12_cell_55 : decode cX12_cell 55 = .ok (.goto 36, 3) := by decide +kernel
theorem dX12_cell_58 : decode cX12_cell 58 = .ok (.iload_n 3, 1) := by decide +kernel
theorem dX12_cell_59 : decode cX12_cell 59 = .ok (.iconst 1, 1) := by decide +kernel
theorem dX12_cell_60 : decode cX12_cell 60 = .ok (.if_icmp .ne 19, 3) := by decide +kernel
theorem dX12_cell_63 : decode cX12_cell 63 = .ok (.iload 4, 2) := by decide +kernel
theorem dX12_cell_65 : decode cX12_cell 65 = .ok (.bipush (-2), 2) := by decide +kernel
theorem dX12_cell_67 : decode cX12_cell 67 = .ok (.if_icmp .ne 7, 3) := by decide +kernel
theorem dX12_cell_70 : decode cX12_cell 70 = .ok (.iconst (-1), 1) := by decide +kernel
theorem dX12_cell_71 : decode cX12_cell 71 = .ok (.goto 20, 3) := by decide +kernel
theorem dX12_cell_74 : decode cX12_cell 74 = .ok (.iload 4, 2) := by decide +kernel
theorem dX12_cell_76 : decode cX12_cell 76 = .ok (.goto 15, 3) := by decide +kernel
theorem dX12_cell_79 : decode cX12_cell 79 = .ok (.iload 4, 2) := by decide +kernel
theorem dX12_cell_81 : decode cX12_cell 81 = .ok (.bipush (-2), 2) := by decide +kernel
theorem dX12_cell_83 : decode cX12_cell 83 = .ok (.if_icmp .ne 7, 3) := by decide +kernel
theorem dX12_cell_86 : decode cX12_cell 86 = .ok (.iconst 1, 1) := by decide +kernel
theorem dX12_cell_87 : decode cX12_cell 87 = .ok (.goto 4, 3) := by decide +kernel
theorem dX12_cell_90 : decode cX12_cell 90 = .ok (.iconst 0, 1) := by decide +kernel
theorem dX12_cell_91 : decode cX12_cell 91 = .ok (.ireturn, 1) := by decide +kernel
theorem dX12_listOf_0 : decode cX12_listOf 0 = .ok (.iconst 0, 1) := by decide +kernel
theorem dX12_listOf_1 : decode cX12_listOf 1 = .ok (.istore 4, 2) := by decide +kernel
theorem dX12_listOf_3 : decode cX12_listOf 3 = .ok (.bipush (-5), 2) := by decide +kernel
theorem dX12_listOf_5 : decode cX12_listOf 5 = .ok (.istore 5, 2) := by decide +kernel
theorem dX12_listOf_7 : decode cX12_listOf 7 = .ok (.aload_n 0, 1) := by decide +kernel
theorem dX12_listOf_8 : decode cX12_listOf 8 = .ok (.invokevirtual 154, 3) := by decide +kernel
theorem dX12_listOf_11 : decode cX12_listOf 11 = .ok (.iconst 0, 1) := by decide +kernel
theorem dX12_listOf_12 : decode cX12_listOf 12 = .ok (.istore 6, 2) := by decide +kernel
theorem dX12_listOf_14 : decode cX12_listOf 14 = .ok (.iload 6, 2) := by decide +kernel
theorem dX12_listOf_16 : decode cX12_listOf 16 = .ok (.bipush 64, 2) := by decide +kernel
theorem dX12_listOf_18 : decode cX12_listOf 18 = .ok (.if_icmp .ge 38, 3) := by decide +kernel
theorem dX12_listOf_21 : decode cX12_listOf 21 = .ok (.aload_n 0, 1) := by decide +kernel
theorem dX12_listOf_22 : decode cX12_listOf 22 = .ok (.iload 6, 2) := by decide +kernel
theorem dX12_listOf_24 : decode cX12_listOf 24 = .ok (.iload_n 2, 1) := by decide +kernel
theorem dX12_listOf_25 : decode cX12_listOf 25 = .ok (.invokevirtual 146, 3) := by decide +kernel
theorem dX12_listOf_28 : decode cX12_listOf 28 = .ok (.iload_n 1, 1) := by decide +kernel
theorem dX12_listOf_29 : decode cX12_listOf 29 = .ok (.if_icmp .ne 21, 3) := by decide +kernel
theorem dX12_listOf_32 : decode cX12_listOf 32 = .ok (.iload 4, 2) := by decide +kernel
theorem dX12_listOf_34 : decode cX12_listOf 34 = .ok (.iload_n 3, 1) := by decide +kernel
theorem dX12_listOf_35 : decode cX12_listOf 35 = .ok (.if_icmp .ne 8, 3) := by decide +kernel
theorem dX12_listOf_38 : decode cX12_listOf 38 = .ok (.iload 6, 2) := by decide +kernel
theorem dX12_listOf_40 : decode cX12_listOf 40 = .ok (.goto 5, 3) := by decide +kernel
theorem dX12_listOf_43 : decode cX12_listOf 43 = .ok (.iload 5, 2) := by decide +kernel
theorem dX12_listOf_45 : decode cX12_listOf 45 = .ok (.istore 5, 2) := by decide +kernel
theorem dX12_listOf_47 : decode cX12_listOf 47 = .ok (.iinc 4 1, 3) := by decide +kernel
theorem dX12_listOf_50 : decode cX12_listOf 50 = .ok (.iinc 6 1, 3) := by decide +kernel
theorem dX12_listOf_53 : decode cX12_listOf 53 = .ok (.goto (-39), 3) := by decide +kernel
theorem dX12_listOf_56 : decode cX12_listOf 56 = .ok (.iload_n 3, 1) := by decide +kernel
theorem dX12_listOf_57 : decode cX12_listOf 57 = .ok (.iconst (-1), 1) := by decide +kernel
theorem dX12_listOf_58 : decode cX12_listOf 58 = .ok (.if_icmp .ne 8, 3) := by decide +kernel
theorem dX12_listOf_61 : decode cX12_listOf 61 = .ok (.iload 4, 2) := by decide +kernel
theorem dX12_listOf_63 : decode cX12_listOf 63 = .ok (.goto 5, 3) := by decide +kernel
theorem dX12_listOf_66 : decode cX12_listOf 66 = .ok (.iload 5, 2) := by decide +kernel
theorem dX12_listOf_68 : decode cX12_listOf 68 = .ok (.ireturn, 1) := by decide +kernel
theorem dX12_acres_0 : decode cX12_acres 0 = .ok (.iload_n 1, 1) := by decide +kernel
theorem dX12_acres_1 : decode cX12_acres 1 = .ok (.invokestatic 92, 3) := by decide +kernel
theorem dX12_acres_4 : decode cX12_acres 4 = .ok (.ifCond .eq 25, 3) := by decide +kernel
theorem dX12_acres_7 : decode cX12_acres 7 = .ok (.iload_n 2, 1) := by decide +kernel
theorem dX12_acres_8 : decode cX12_acres 8 = .ok (.invokestatic 151, 3) := by decide +kernel
theorem dX12_acres_11 : decode cX12_acres 11 = .ok (.ifCond .eq 18, 3) := by decide +kernel
theorem dX12_acres_14 : decode cX12_acres 14 = .ok (.iload_n 3, 1) := by decide +kernel
theorem dX12_acres_15 : decode cX12_acres 15 = .ok (.iconst (-1), 1) := by decide +kernel
theorem dX12_acres_16 : decode cX12_acres 16 = .ok (.if_icmp .lt 13, 3) := by decide +kernel
theorem dX12_acres_19 : decode cX12_acres 19 = .ok (.aload_n 0, 1) := by decide +kernel
theorem dX12_acres_20 : decode cX12_acres 20 = .ok (.iload_n 1, 1) := by decide +kernel
theorem dX12_acres_21 : decode cX12_acres 21 = .ok (.iload_n 2, 1) := by decide +kernel
theorem dX12_acres_22 : decode cX12_acres 22 = .ok (.iload_n 3, 1) := by decide +kernel
theorem dX12_acres_23 : decode cX12_acres 23 = .ok (.invokevirtual 159, 3) := by decide +kernel
theorem dX12_acres_26 : decode cX12_acres 26 = .ok (.goto 9, 3) := by decide +kernel
theorem dX12_acres_29 : decode cX12_acres 29 = .ok (.aload_n 0, 1) := by decide +kernel
theorem dX12_acres_30 : decode cX12_acres 30 = .ok (.bipush (-10), 2) := by decide +kernel
theorem dX12_acres_32 : decode cX12_acres 32 = .ok (.invokevirtual 75, 3) := by decide +kernel
theorem dX12_acres_35 : decode cX12_acres 35 = .ok (.ireturn, 1) := by decide +kernel
theorem dX12_hedges_0 : decode cX12_hedges 0 = .ok (.iload_n 1, 1) := by decide +kernel
theorem dX12_hedges_1 : decode cX12_hedges 1 = .ok (.invokestatic 151, 3) := by decide +kernel
theorem dX12_hedges_4 : decode cX12_hedges 4 = .ok (.ifCond .eq 19, 3) := by decide +kernel
theorem dX12_hedges_7 : decode cX12_hedges 7 = .ok (.iload_n 2, 1) := by decide +kernel
theorem dX12_hedges_8 : decode cX12_hedges 8 = .ok (.iconst (-1), 1) := by decide +kernel
theorem dX12_hedges_9 : decode cX12_hedges 9 = .ok (.if_icmp .lt 14, 3) := by decide +kernel
theorem dX12_hedges_12 : decode cX12_hedges 12 = .ok (.aload_n 0, 1) := by decide +kernel
theorem dX12_hedges_13 : decode cX12_hedges 13 = .ok (.bipush (-2), 2) := by decide +kernel
theorem dX12_hedges_15 : decode cX12_hedges 15 = .ok (.iload_n 1, 1) := by decide +kernel
theorem dX12_hedges_16 : decode cX12_hedges 16 = .ok (.iload_n 2, 1) := by decide +kernel
theorem dX12_hedges_17 : decode cX12_hedges 17 = .ok (.invokevirtual 159, 3) := by decide +kernel
theorem dX12_hedges_20 : decode cX12_hedges 20 = .ok (.goto 9, 3) := by decide +kernel
theorem dX12_hedges_23 : decode cX12_hedges 23 = .ok (.aload_n 0, 1) := by decide +kernel
theorem dX12_hedges_24 : decode cX12_hedges 24 = .ok (.bipush (-10), 2) := by decide +kernel
theorem dX12_hedges_26 : decode cX12_hedges 26 = .ok (.invokevirtual 75, 3) := by decide +kernel
theorem dX12_hedges_29 : decode cX12_hedges 29 = .ok (.ireturn, 1) := by decide +kernel
theorem dX12_dark_0 : decode cX12_dark 0 = .ok (.iload_n 1, 1) := by decide +kernel
theorem dX12_dark_1 : decode cX12_dark 1 = .ok (.invokestatic 85, 3) := by decide +kernel
theorem dX12_dark_4 : decode cX12_dark 4 = .ok (.ifCond .eq 17, 3) := by decide +kernel
theorem dX12_dark_7 : decode cX12_dark 7 = .ok (.iload_n 2, 1) := by decide +kernel
theorem dX12_dark_8 : decode cX12_dark 8 = .ok (.invokestatic 151, 3) := by decide +kernel
theorem dX12_dark_11 : decode cX12_dark 11 = .ok (.ifCond .eq 10, 3) := by decide +kernel
theorem dX12_dark_14 : decode cX12_dark 14 = .ok (.iload_n 3, 1) := by decide +kernel
theorem dX12_dark_15 : decode cX12_dark 15 = .ok (.invokestatic 89, 3) := by decide +kernel
theorem dX12_dark_18 : decode cX12_dark 18 = .ok (.ifCond .ne 10, 3) := by decide +kernel
theorem dX12_dark_21 : decode cX12_dark 21 = .ok (.aload_n 0, 1) := by decide +kernel
theorem dX12_dark_22 : decode cX12_dark 22 = .ok (.bipush (-2), 2) := by decide +kernel
theorem dX12_dark_24 : decode cX12_dark 24 = .ok (.invokevirtual 75, 3) := by decide +kernel
theorem dX12_dark_27 : decode cX12_dark 27 = .ok (.ireturn, 1) := by decide +kernel
theorem dX12_dark_28 : decode cX12_dark 28 = .ok (.aload_n 0, 1) := by decide +kernel
theorem dX12_dark_29 : decode cX12_dark 29 = .ok (.invokevirtual 154, 3) := by decide +kernel
theorem dX12_dark_32 : decode cX12_dark 32 = .ok (.iload_n 2, 1) := by decide +kernel
theorem dX12_dark_33 : decode cX12_dark 33 = .ok (.istore 4, 2) := by decide +kernel
theorem dX12_dark_35 : decode cX12_dark 35 = .ok (.iload 4, 2) := by decide +kernel
theorem dX12_dark_37 : decode cX12_dark 37 = .ok (.bipush 12, 2) := by decide +kernel
theorem dX12_dark_39 : decode cX12_dark 39 = .ok (.if_icmp .ge 20, 3) := by decide +kernel
theorem dX12_dark_42 : decode cX12_dark 42 = .ok (.aload_n 0, 1) := by decide +kernel
theorem dX12_dark_43 : decode cX12_dark 43 = .ok (.iload_n 1, 1) := by decide +kernel
theorem dX12_dark_44 : decode cX12_dark 44 = .ok (.iload 4, 2) := by decide +kernel
theorem dX12_dark_46 : decode cX12_dark 46 = .ok (.invokevirtual 143, 3) := by decide +kernel
theorem dX12_dark_49 : decode cX12_dark 49 = .ok (.iload_n 3, 1) := by decide +kernel
theorem dX12_dark_50 : decode cX12_dark 50 = .ok (.if_icmp .lt 9, 3) := by decide +kernel
theorem dX12_dark_53 : decode cX12_dark 53 = .ok (.iinc 4 1, 3) := by decide +kernel
theorem dX12_dark_56 : decode cX12_dark 56 = .ok (.goto (-21), 3) := by decide +kernel
theorem dX12_dark_59 : decode cX12_dark 59 = .ok (.iload 4, 2) := by decide +kernel
theorem dX12_dark_61 : decode cX12_dark 61 = .ok (.ireturn, 1) := by decide +kernel
theorem dX12_want_0 : decode cX12_want 0 = .ok (.iload_n 1, 1) := by decide +kernel
theorem dX12_want_1 : decode cX12_want 1 = .ok (.invokestatic 85, 3) := by decide +kernel
theorem dX12_want_4 : decode cX12_want 4 = .ok (.ifCond .ne 10, 3) := by decide +kernel
theorem dX12_want_7 : decode cX12_want 7 = .ok (.aload_n 0, 1) := by decide +kernel
theorem dX12_want_8 : decode cX12_want 8 = .ok (.bipush (-2), 2) := by decide +kernel
theorem dX12_want_10 : decode cX12_want 10 = .ok (.invokevirtual 75, 3) := by decide +kernel
theorem dX12_want_13 : decode cX12_want 13 = .ok (.ireturn, 1) := by decide +kernel
theorem dX12_want_14 : decode cX12_want 14 = .ok (.aload_n 0, 1) := by decide +kernel
theorem dX12_want_15 : decode cX12_want 15 = .ok (.getfield 7, 3) := by decide +kernel
theorem dX12_want_18 : decode cX12_want 18 = .ok (.iconst 3, 1) := by decide +kernel
theorem dX12_want_19 : decode cX12_want 19 = .ok (.iaload, 1) := by decide +kernel
theorem dX12_want_20 : decode cX12_want 20 = .ok (.bipush 6, 2) := by decide +kernel
theorem dX12_want_22 : decode cX12_want 22 = .ok (.if_icmp .ne 8, 3) := by decide +kernel
theorem dX12_want_25 : decode cX12_want 25 = .ok (.aload_n 0, 1) := by decide +kernel
theorem dX12_want_26 : decode cX12_want 26 = .ok (.invokevirtual 97, 3) := by decide +kernel
theorem dX12_want_29 : decode cX12_want 29 = .ok (.ireturn, 1) := by decide +kernel
theorem dX12_want_30 : decode cX12_want 30 = .ok (.aload_n 0, 1) := by decide +kernel
theorem dX12_want_31 : decode cX12_want 31 = .ok (.getfield 7, 3) := by decide +kernel
theorem dX12_want_34 : decode cX12_want 34 = .ok (.bipush 41, 2) := by decide +kernel
theorem dX12_want_36 : decode cX12_want 36 = .ok (.aload_n 0, 1) := by decide +kernel
theorem dX12_want_37 : decode cX12_want 37 = .ok (.getfield 7, 3) := by decide +kernel
theorem dX12_want_40 : decode cX12_want 40 = .ok (.iconst 3, 1) := by decide +kernel
theorem dX12_want_41 : decode cX12_want 41 = .ok (.iaload, 1) := by decide +kernel
theorem dX12_want_42 : decode cX12_want 42 = .ok (.iadd, 1) := by decide +kernel
theorem dX12_want_43 : decode cX12_want 43 = .ok (.iload_n 1, 1) := by decide +kernel
theorem dX12_want_44 : decode cX12_want 44 = .ok (.iastore, 1) := by decide +kernel
theorem dX12_want_45 : decode cX12_want 45 = .ok (.aload_n 0, 1) := by decide +kernel
theorem dX12_want_46 : decode cX12_want 46 = .ok (.getfield 7, 3) := by decide +kernel
theorem dX12_want_49 : decode cX12_want 49 = .ok (.iconst 3, 1) := by decide +kernel
theorem dX12_want_50 : decode cX12_want 50 = .ok (.dup2, 1) := by decide +kernel
theorem dX12_want_51 : decode cX12_want 51 = .ok (.iaload, 1) := by decide +kernel
theorem dX12_want_52 : decode cX12_want 52 = .ok (.iconst 1, 1) := by decide +kernel
theorem dX12_want_53 : decode cX12_want 53 = .ok (.iadd, 1) := by decide +kernel
theorem dX12_want_54 : decode cX12_want 54 = .ok (.iastore, 1) := by decide +kernel
theorem dX12_want_55 : decode cX12_want 55 = .ok (.aload_n 0, 1) := by decide +kernel
theorem dX12_want_56 : decode cX12_want 56 = .ok (.getfield 7, 3) := by decide +kernel
theorem dX12_want_59 : decode cX12_want 59 = .ok (.iconst 3, 1) := by decide +kernel
theorem dX12_want_60 : decode cX12_want 60 = .ok (.iaload, 1) := by decide +kernel
theorem dX12_want_61 : decode cX12_want 61 = .ok (.ireturn, 1) := by decide +kernel
theorem dX12_forget_0 : decode cX12_forget 0 = .ok (.aload_n 0, 1) := by decide +kernel
theorem dX12_forget_1 : decode cX12_forget 1 = .ok (.getfield 7, 3) := by decide +kernel
theorem dX12_forget_4 : decode cX12_forget 4 = .ok (.iconst 3, 1) := by decide +kernel
theorem dX12_forget_5 : decode cX12_forget 5 = .ok (.iaload, 1) := by decide +kernel
theorem dX12_forget_6 : decode cX12_forget 6 = .ok (.istore_n 1, 1) := by decide +kernel
theorem dX12_forget_7 : decode cX12_forget 7 = .ok (.aload_n 0, 1) := by decide +kernel
theorem dX12_forget_8 : decode cX12_forget 8 = .ok (.getfield 7, 3) := by decide +kernel
theorem dX12_forget_11 : decode cX12_forget 11 = .ok (.iconst 3, 1) := by decide +kernel
theorem dX12_forget_12 : decode cX12_forget 12 = .ok (.iconst 0, 1) := by decide +kernel
theorem dX12_forget_13 : decode cX12_forget 13 = .ok (.iastore, 1) := by decide +kernel
theorem dX12_forget_14 : decode cX12_forget 14 = .ok (.iload_n 1, 1) := by decide +kernel
theorem dX12_forget_15 : decode cX12_forget 15 = .ok (.ireturn, 1) := by decide +kernel
theorem dX12_areLight_0 : decode cX12_areLight 0 = .ok (.iconst 1, 1) := by decide +kernel
theorem dX12_areLight_1 : decode cX12_areLight 1 = .ok (.istore_n 3, 1) := by decide +kernel
theorem dX12_areLight_2 : decode cX12_areLight 2 = .ok (.iconst 0, 1) := by decide +kernel
theorem dX12_areLight_3 : decode cX12_areLight 3 = .ok (.istore 4, 2) := by decide +kernel
theorem dX12_areLight_5 : decode cX12_areLight 5 = .ok (.iload 4, 2) := by decide +kernel
theorem dX12_areLight_7 : decode cX12_areLight 7 = .ok (.aload_n 0, 1) := by decide +kernel
theorem dX12_areLight_8 : decode cX12_areLight 8 = .ok (.getfield 7, 3) := by decide +kernel
theorem dX12_areLight_11 : decode cX12_areLight 11 = .ok (.iconst 3, 1) := by decide +kernel
theorem dX12_areLight_12 : decode cX12_areLight 12 = .ok (.iaload, 1) := by decide +kernel
theorem dX12_areLight_13 : decode cX12_areLight 13 = .ok (.if_icmp .ge 38, 3) := by decide +kernel
theorem dX12_areLight_16 : decode cX12_areLight 16 = .ok (.iload_n 3, 1) := by decide +kernel
theorem dX12_areLight_17 : decode cX12_areLight 17 = .ok (.ifCond .eq 34, 3) := by decide +kernel
theorem dX12_areLight_20 : decode cX12_areLight 20 = .ok (.aload_n 0, 1) := by decide +kernel
theorem dX12_areLight_21 : decode cX12_areLight 21 = .ok (.aload_n 0, 1) := by decide +kernel
theorem dX12_areLight_22 : decode cX12_areLight 22 = .ok (.getfield 7, 3) := by decide +kernel
theorem dX12_areLight_25 : decode cX12_areLight 25 = .ok (.bipush 41, 2) := by decide +kernel
theorem dX12_areLight_27 : decode cX12_areLight 27 = .ok (.iload 4, 2) := by decide +kernel
theorem dX12_areLight_29 : decode cX12_areLight 29 = .ok (.iadd, 1) := by decide +kernel
theorem dX12_areLight_30 : decode cX12_areLight 30 = .ok (.iaload, 1) := by decide +kernel
theorem dX12_areLight_31 : decode cX12_areLight 31 = .ok (.iload_n 1, 1) := by decide +kernel
theorem dX12_areLight_32 : decode cX12_areLight 32 = .ok (.invokevirtual 143, 3) := by decide +kernel
theorem dX12_areLight_35 : decode cX12_areLight 35 = .ok (.iload_n 2, 1) := by decide +kernel
theorem dX12_areLight_36 : decode cX12_areLight 36 = .ok (.if_icmp .lt 7, 3) := by decide +kernel
theorem dX12_areLight_39 : decode cX12_areLight 39 = .ok (.iconst 1, 1) := by decide +kernel
theorem dX12_areLight_40 : decode cX12_areLight 40 = .ok (.goto 4, 3) := by decide +kernel
theorem dX12_areLight_43 : decode cX12_areLight 43 = .ok (.iconst 0, 1) := by decide +kernel
theorem dX12_areLight_44 : decode cX12_areLight 44 = .ok (.istore_n 3, 1) := by decide +kernel
theorem dX12_areLight_45 : decode cX12_areLight 45 = .ok (.iinc 4 1, 3) := by decide +kernel
theorem dX12_areLight_48 : decode cX12_areLight 48 = .ok (.goto (-43), 3) := by decide +kernel
theorem dX12_areLight_51 : decode cX12_areLight 51 = .ok (.iload_n 3, 1) := by decide +kernel
theorem dX12_areLight_52 : decode cX12_areLight 52 = .ok (.ireturn, 1) := by decide +kernel
theorem dX12_tallowOf_0 : decode cX12_tallowOf 0 = .ok (.iconst 0, 1) := by decide +kernel
theorem dX12_tallowOf_1 : decode cX12_tallowOf 1 = .ok (.istore_n 2, 1) := by decide +kernel
theorem dX12_tallowOf_2 : decode cX12_tallowOf 2 = .ok (.iconst 0, 1) := by decide +kernel
theorem dX12_tallowOf_3 : decode cX12_tallowOf 3 = .ok (.istore_n 3, 1) := by decide +kernel
theorem dX12_tallowOf_4 : decode cX12_tallowOf 4 = .ok (.iload_n 3, 1) := by decide +kernel
theorem dX12_tallowOf_5 : decode cX12_tallowOf 5 = .ok (.aload_n 0, 1) := by decide +kernel
theorem dX12_tallowOf_6 : decode cX12_tallowOf 6 = .ok (.invokevirtual 57, 3) := by decide +kernel
theorem dX12_tallowOf_9 : decode cX12_tallowOf 9 = .ok (.if_icmp .ge 31, 3) := by decide +kernel
theorem dX12_tallowOf_12 : decode cX12_tallowOf 12 = .ok (.iload_n 2, 1) := by decide +kernel
theorem dX12_tallowOf_13 : decode cX12_tallowOf 13 = .ok (.iload_n 1, 1) := by decide +kernel
theorem dX12_tallowOf_14 : decode cX12_tallowOf 14 = .ok (.iload_n 3, 1) := by decide +kernel
theorem dX12_tallowOf_15 : decode cX12_tallowOf 15 = .ok (.ishr, 1) := by decide +kernel
theorem dX12_tallowOf_16 : decode cX12_tallowOf 16 = .ok (.iconst 1, 1) := by decide +kernel
theorem dX12_tallowOf_17 : decode cX12_tallowOf 17 = .ok (.iand, 1) := by decide +kernel
theorem dX12_tallowOf_18 : decode cX12_tallowOf 18 = .ok (.iconst 1, 1) := by decide +kernel
theorem dX12_tallowOf_19 : decode cX12_tallowOf 19 = .ok (.if_icmp .ne 12, 3) := by decide +kernel
theorem dX12_tallowOf_22 : decode cX12_tallowOf 22 = .ok (.aload_n 0, 1) := by decide +kernel
theorem dX12_tallowOf_23 : decode cX12_tallowOf 23 = .ok (.iload_n 3, 1) := by decide +kernel
theorem dX12_tallowOf_24 : decode cX12_tallowOf 24 = .ok (.iconst 4, 1) := by decide +kernel
theorem dX12_tallowOf_25 : decode cX12_tallowOf 25 = .ok (.invokevirtual 104, 3) := by decide +kernel
theorem dX12_tallowOf_28 : decode cX12_tallowOf 28 = .ok (.goto 4, 3) := by decide +kernel
theorem dX12_tallowOf_31 : decode cX12_tallowOf 31 = .ok (.iconst 0, 1) := by decide +kernel
theorem dX12_tallowOf_32 : decode cX12_tallowOf 32 = .ok (.iadd, 1) := by decide +kernel
theorem dX12_tallowOf_33 : decode cX12_tallowOf 33 = .ok (.istore_n 2, 1) := by decide +kernel
theorem dX12_tallowOf_34 : decode cX12_tallowOf 34 = .ok (.iinc 3 1, 3) := by decide +kernel
theorem dX12_tallowOf_37 : decode cX12_tallowOf 37 = .ok (.goto (-33), 3) := by decide +kernel
theorem dX12_tallowOf_40 : decode cX12_tallowOf 40 = .ok (.iload_n 2, 1) := by decide +kernel
theorem dX12_tallowOf_41 : decode cX12_tallowOf 41 = .ok (.ireturn, 1) := by decide +kernel
theorem dX12_lighting_0 : decode cX12_lighting 0 = .ok (.iload_n 1, 1) := by decide +kernel
theorem dX12_lighting_1 : decode cX12_lighting 1 = .ok (.invokestatic 151, 3) := by decide +kernel
theorem dX12_lighting_4 : decode cX12_lighting 4 = .ok (.ifCond .eq 10, 3) := by decide +kernel
theorem dX12_lighting_7 : decode cX12_lighting 7 = .ok (.iload_n 2, 1) := by decide +kernel
theorem dX12_lighting_8 : decode cX12_lighting 8 = .ok (.invokestatic 89, 3) := by decide +kernel
theorem dX12_lighting_11 : decode cX12_lighting 11 = .ok (.ifCond .ne 10, 3) := by decide +kernel
theorem dX12_lighting_14 : decode cX12_lighting 14 = .ok (.aload_n 0, 1) := by decide +kernel
theorem dX12_lighting_15 : decode cX12_lighting 15 = .ok (.bipush (-2), 2) := by decide +kernel
theorem dX12_lighting_17 : decode cX12_lighting 17 = .ok (.invokevirtual 75, 3) := by decide +kernel
theorem dX12_lighting_20 : decode cX12_lighting 20 = .ok (.ireturn, 1) := by decide +kernel
theorem dX12_lighting_21 : decode cX12_lighting 21 = .ok (.iconst (-1), 1) := by decide +kernel
theorem dX12_lighting_22 : decode cX12_lighting 22 = .ok (.istore_n 3, 1) := by decide +kernel
theorem dX12_lighting_23 : decode cX12_lighting 23 = .ok (.aload_n 0, 1) := by decide +kernel
theorem dX12_lighting_24 : decode cX12_lighting 24 = .ok (.invokevirtual 154, 3) := by decide +kernel
theorem dX12_lighting_27 : decode cX12_lighting 27 = .ok (.iconst 0, 1) := by decide +kernel
theorem dX12_lighting_28 : decode cX12_lighting 28 = .ok (.istore 4, 2) := by decide +kernel
theorem dX12_lighting_30 : decode cX12_lighting 30 = .ok (.iload 4, 2) := by decide +kernel
theorem dX12_lighting_32 : decode cX12_lighting 32 = .ok (.iconst 1, 1) := by decide +kernel
theorem dX12_lighting_33 : decode cX12_lighting 33 = .ok (.aload_n 0, 1) := by decide +kernel
theorem dX12_lighting_34 : decode cX12_lighting 34 = .ok (.invokevirtual 57, 3) := by decide +kernel
theorem dX12_lighting_37 : decode cX12_lighting 37 = .ok (.ishl, 1) := by decide +kernel
theorem dX12_lighting_38 : decode cX12_lighting 38 = .ok (.if_icmp .ge 60, 3) := by decide +kernel
theorem dX12_lighting_41 : decode cX12_lighting 41 = .ok (.iload_n 3, 1) := by decide +kernel
theorem dX12_lighting_42 : decode cX12_lighting 42 = .ok (.iconst (-1), 1) := by decide +kernel
theorem dX12_lighting_43 : decode cX12_lighting 43 = .ok (.if_icmp .eq 15, 3) := by decide +kernel
theorem dX12_lighting_46 : decode cX12_lighting 46 = .ok (.iload 4, 2) := by decide +kernel
theorem dX12_lighting_48 : decode cX12_lighting 48 = .ok (.invokestatic 162, 3) := by decide +kernel
theorem dX12_lighting_51 : decode cX12_lighting 51 = .ok (.iload_n 3, 1) := by decide +kernel
theorem dX12_lighting_52 : decode cX12_lighting 52 = .ok (.invokestatic 162, 3) := by decide +kernel
theorem dX12_lighting_55 : decode cX12_lighting 55 = .ok (.if_icmp .ge 7, 3) := by decide +kernel
theorem dX12_lighting_58 : decode cX12_lighting 58 = .ok (.iconst 1, 1) := by decide +kernel
theorem dX12_lighting_59 : decode cX12_lighting 59 = .ok (.goto 4, 3) := by decide +kernel
theorem dX12_lighting_62 : decode cX12_lighting 62 = .ok (.iconst 0, 1) := by decide +kernel
theorem dX12_lighting_63 : decode cX12_lighting 63 = .ok (.istore 5, 2) := by decide +kernel
theorem dX12_lighting_65 : decode cX12_lighting 65 = .ok (.aload_n 0, 1) := by decide +kernel
theorem dX12_lighting_66 : decode cX12_lighting 66 = .ok (.iload 4, 2) := by decide +kernel
theorem dX12_lighting_68 : decode cX12_lighting 68 = .ok (.putfield 126, 3) := by decide +kernel
theorem dX12_lighting_71 : decode cX12_lighting 71 = .ok (.iload 5, 2) := by decide +kernel
theorem dX12_lighting_73 : decode cX12_lighting 73 = .ok (.ifCond .eq 17, 3) := by decide +kernel
theorem dX12_lighting_76 : decode cX12_lighting 76 = .ok (.aload_n 0, 1) := by decide +kernel
theorem dX12_lighting_77 : decode cX12_lighting 77 = .ok (.iload_n 1, 1) := by decide +kernel
theorem dX12_lighting_78 : decode cX12_lighting 78 = .ok (.iload_n 2, 1) := by decide +kernel
theorem dX12_lighting_79 : decode cX12_lighting 79 = .ok (.invokevirtual 165, 3) := by decide +kernel
theorem dX12_lighting_82 : decode cX12_lighting 82 = .ok (.ifCond .eq 8, 3) := by decide +kernel
theorem dX12_lighting_85 : decode cX12_lighting 85 = .ok (.iload 4, 2) := by decide +kernel
theorem dX12_lighting_87 : decode cX12_lighting 87 = .ok (.goto 4, 3) := by decide +kernel
theorem dX12_lighting_90 : decode cX12_lighting 90 = .ok (.iload_n 3, 1) := by decide +kernel
theorem dX12_lighting_91 : decode cX12_lighting 91 = .ok (.istore_n 3, 1) := by decide +kernel
theorem dX12_lighting_92 : decode cX12_lighting 92 = .ok (.iinc 4 1, 3) := by decide +kernel
theorem dX12_lighting_95 : decode cX12_lighting 95 = .ok (.goto (-65), 3) := by decide +kernel
theorem dX12_lighting_98 : decode cX12_lighting 98 = .ok (.iload_n 3, 1) := by decide +kernel
theorem dX12_lighting_99 : decode cX12_lighting 99 = .ok (.ireturn, 1) := by decide +kernel
theorem dX12_tallow_0 : decode cX12_tallow 0 = .ok (.iload_n 1, 1) := by decide +kernel
theorem dX12_tallow_1 : decode cX12_tallow 1 = .ok (.invokestatic 151, 3) := by decide +kernel
theorem dX12_tallow_4 : decode cX12_tallow 4 = .ok (.ifCond .eq 10, 3) := by decide +kernel
theorem dX12_tallow_7 : decode cX12_tallow 7 = .ok (.iload_n 2, 1) := by decide +kernel
theorem dX12_tallow_8 : decode cX12_tallow 8 = .ok (.invokestatic 89, 3) := by decide +kernel
theorem dX12_tallow_11 : decode cX12_tallow 11 = .ok (.ifCond .ne 10, 3) := by decide +kernel
theorem dX12_tallow_14 : decode cX12_tallow 14 = .ok (.aload_n 0, 1) := by decide +kernel
theorem dX12_tallow_15 : decode cX12_tallow 15 = .ok (.bipush (-2), 2) := by decide +kernel
theorem dX12_tallow_17 : decode cX12_tallow 17 = .ok (.invokevirtual 75, 3) := by decide +kernel
theorem dX12_tallow_20 : decode cX12_tallow 20 = .ok (.ireturn, 1) := by decide +kernel
theorem dX12_tallow_21 : decode cX12_tallow 21 = .ok (.iconst (-1), 1) := by decide +kernel
theorem dX12_tallow_22 : decode cX12_tallow 22 = .ok (.istore_n 3, 1) := by decide +kernel
theorem dX12_tallow_23 : decode cX12_tallow 23 = .ok (.aload_n 0, 1) := by decide +kernel
theorem dX12_tallow_24 : decode cX12_tallow 24 = .ok (.invokevirtual 154, 3) := by decide +kernel
theorem dX12_tallow_27 : decode cX12_tallow 27 = .ok (.iconst 0, 1) := by decide +kernel
theorem dX12_tallow_28 : decode cX12_tallow 28 = .ok (.istore 4, 2) := by decide +kernel
theorem dX12_tallow_30 : decode cX12_tallow 30 = .ok (.iload 4, 2) := by decide +kernel
theorem dX12_tallow_32 : decode cX12_tallow 32 = .ok (.iconst 1, 1) := by decide +kernel
theorem dX12_tallow_33 : decode cX12_tallow 33 = .ok (.aload_n 0, 1) := by decide +kernel
theorem dX12_tallow_34 : decode cX12_tallow 34 = .ok (.invokevirtual 57, 3) := by decide +kernel
theorem dX12_tallow_37 : decode cX12_tallow 37 = .ok (.ishl, 1) := by decide +kernel
theorem dX12_tallow_38 : decode cX12_tallow 38 = .ok (.if_icmp .ge 62, 3) := by decide +kernel
theorem dX12_tallow_41 : decode cX12_tallow 41 = .ok (.iload_n 3, 1) := by decide +kernel
theorem dX12_tallow_42 : decode cX12_tallow 42 = .ok (.iconst (-1), 1) := by decide +kernel
theorem dX12_tallow_43 : decode cX12_tallow 43 = .ok (.if_icmp .eq 13, 3) := by decide +kernel
theorem dX12_tallow_46 : decode cX12_tallow 46 = .ok (.aload_n 0, 1) := by decide +kernel
theorem dX12_tallow_47 : decode cX12_tallow 47 = .ok (.iload 4, 2) := by decide +kernel
theorem dX12_tallow_49 : decode cX12_tallow 49 = .ok (.invokevirtual 169, 3) := by decide +kernel
theorem dX12_tallow_52 : decode cX12_tallow 52 = .ok (.iload_n 3, 1) := by decide +kernel
theorem dX12_tallow_53 : decode cX12_tallow 53 = .ok (.if_icmp .ge 7, 3) := by decide +kernel
theorem dX12_tallow_56 : decode cX12_tallow 56 = .ok (.iconst 1, 1) := by decide +kernel
theorem dX12_tallow_57 : decode cX12_tallow 57 = .ok (.goto 4, 3) := by decide +kernel
theorem dX12_tallow_60 : decode cX12_tallow 60 = .ok (.iconst 0, 1) := by decide +kernel
theorem dX12_tallow_61 : decode cX12_tallow 61 = .ok (.istore 5, 2) := by decide +kernel
theorem dX12_tallow_63 : decode cX12_tallow 63 = .ok (.aload_n 0, 1) := by decide +kernel
theorem dX12_tallow_64 : decode cX12_tallow 64 = .ok (.iload 4, 2) := by decide +kernel
theorem dX12_tallow_66 : decode cX12_tallow 66 = .ok (.putfield 126, 3) := by decide +kernel
theorem dX12_tallow_69 : decode cX12_tallow 69 = .ok (.iload 5, 2) := by decide +kernel
theorem dX12_tallow_71 : decode cX12_tallow 71 = .ok (.ifCond .eq 21, 3) := by decide +kernel
theorem dX12_tallow_74 : decode cX12_tallow 74 = .ok (.aload_n 0, 1) := by decide +kernel
theorem dX12_tallow_75 : decode cX12_tallow 75 = .ok (.iload_n 1, 1) := by decide +kernel
theorem dX12_tallow_76 : decode cX12_tallow 76 = .ok (.iload_n 2, 1) := by decide +kernel
theorem dX12_tallow_77 : decode cX12_tallow 77 = .ok (.invokevirtual 165, 3) := by decide +kernel
theorem dX12_tallow_80 : decode cX12_tallow 80 = .ok (.ifCond .eq 12, 3) := by decide +kernel
theorem dX12_tallow_83 : decode cX12_tallow 83 = .ok (.aload_n 0, 1) := by decide +kernel
theorem dX12_tallow_84 : decode cX12_tallow 84 = .ok (.iload 4, 2) := by decide +kernel
theorem dX12_tallow_86 : decode cX12_tallow 86 = .ok (.invokevirtual 169, 3) := by decide +kernel
theorem dX12_tallow_89 : decode cX12_tallow 89 = .ok (.goto 4, 3) := by decide +kernel
theorem dX12_tallow_92 : decode cX12_tallow 92 = .ok (.iload_n 3, 1) := by decide +kernel
theorem dX12_tallow_93 : decode cX12_tallow 93 = .ok (.istore_n 3, 1) := by decide +kernel
theorem dX12_tallow_94 : decode cX12_tallow 94 = .ok (.iinc 4 1, 3) := by decide +kernel
theorem dX12_tallow_97 : decode cX12_tallow 97 = .ok (.goto (-67), 3) := by decide +kernel
theorem dX12_tallow_100 : decode cX12_tallow 100 = .ok (.iload_n 3, 1) := by decide +kernel
theorem dX12_tallow_101 : decode cX12_tallow 101 = .ok (.ireturn, 1) := by decide +kernel
theorem dX12_put_0 : decode cX12_put 0 = .ok (.aload_n 0, 1) := by decide +kernel
theorem dX12_put_1 : decode cX12_put 1 = .ok (.iload_n 1, 1) := by decide +kernel
theorem dX12_put_2 : decode cX12_put 2 = .ok (.invokevirtual 108, 3) := by decide +kernel
theorem dX12_put_5 : decode cX12_put 5 = .ok (.ifCond .eq 10, 3) := by decide +kernel
theorem dX12_put_8 : decode cX12_put 8 = .ok (.iload_n 2, 1) := by decide +kernel
theorem dX12_put_9 : decode cX12_put 9 = .ok (.invokestatic 151, 3) := by decide +kernel
theorem dX12_put_12 : decode cX12_put 12 = .ok (.ifCond .ne 10, 3) := by decide +kernel
theorem dX12_put_15 : decode cX12_put 15 = .ok (.aload_n 0, 1) := by decide +kernel
theorem dX12_put_16 : decode cX12_put 16 = .ok (.bipush (-2), 2) := by decide +kernel
theorem dX12_put_18 : decode cX12_put 18 = .ok (.invokevirtual 75, 3) := by decide +kernel
theorem dX12_put_21 : decode cX12_put 21 = .ok (.ireturn, 1) := by decide +kernel
theorem dX12_put_22 : decode cX12_put 22 = .ok (.iconst 0, 1) := by decide +kernel
theorem dX12_put_23 : decode cX12_put 23 = .ok (.istore_n 3, 1) := by decide +kernel
theorem dX12_put_24 : decode cX12_put 24 = .ok (.iconst (-1), 1) := by decide +kernel
theorem dX12_put_25 : decode cX12_put 25 = .ok (.istore 4, 2) := by decide +kernel
theorem dX12_put_27 : decode cX12_put 27 = .ok (.aload_n 0, 1) := by decide +kernel
theorem dX12_put_28 : decode cX12_put 28 = .ok (.invokevirtual 154, 3) := by decide +kernel
theorem dX12_put_31 : decode cX12_put 31 = .ok (.iconst 0, 1) := by decide +kernel
theorem dX12_put_32 : decode cX12_put 32 = .ok (.istore 5, 2) := by decide +kernel
theorem dX12_put_34 : decode cX12_put 34 = .ok (.iload 5, 2) := by decide +kernel
theorem dX12_put_36 : decode cX12_put 36 = .ok (.bipush 64, 2) := by decide +kernel
theorem dX12_put_38 : decode cX12_put 38 = .ok (.if_icmp .ge 60, 3) := by decide +kernel
theorem dX12_put_41 : decode cX12_put 41 = .ok (.aload_n 0, 1) := by decide +kernel
theorem dX12_put_42 : decode cX12_put 42 = .ok (.getfield 27, 3) := by decide +kernel
theorem dX12_put_45 : decode cX12_put 45 = .ok (.iload_n 1, 1) := by decide +kernel
theorem dX12_put_46 : decode cX12_put 46 = .ok (.iload 5, 2) := by decide +kernel
theorem dX12_put_48 : decode cX12_put 48 = .ok (.iastore, 1) := by decide +kernel
theorem dX12_put_49 : decode cX12_put 49 = .ok (.aload_n 0, 1) := by decide +kernel
theorem dX12_put_50 : decode cX12_put 50 = .ok (.aload_n 0, 1) := by decide +kernel
theorem dX12_put_51 : decode cX12_put 51 = .ok (.getfield 30, 3) := by decide +kernel
theorem dX12_put_54 : decode cX12_put 54 = .ok (.iload_n 1, 1) := by decide +kernel
theorem dX12_put_55 : decode cX12_put 55 = .ok (.iaload, 1) := by decide +kernel
theorem dX12_put_56 : decode cX12_put 56 = .ok (.iload_n 2, 1) := by decide +kernel
theorem dX12_put_57 : decode cX12_put 57 = .ok (.invokevirtual 172, 3) := by decide +kernel
theorem dX12_put_60 : decode cX12_put 60 = .ok (.istore 6, 2) := by decide +kernel
theorem dX12_put_62 : decode cX12_put 62 = .ok (.iload 6, 2) := by decide +kernel
theorem dX12_put_64 : decode cX12_put 64 = .ok (.iload 4, 2) := by decide +kernel
theorem dX12_put_66 : decode cX12_put 66 = .ok (.if_icmp .le 8, 3) := by decide +kernel
theorem dX12_put_69 : decode cX12_put 69 = .ok (.iload 5, 2) := by decide +kernel
theorem dX12_put_71 : decode cX12_put 71 = .ok (.goto 4, 3) := by decide +kernel
theorem dX12_put_74 : decode cX12_put 74 = .ok (.iload_n 3, 1) := by decide +kernel
theorem dX12_put_75 : decode cX12_put 75 = .ok (.istore_n 3, 1) := by decide +kernel
theorem dX12_put_76 : decode cX12_put 76 = .ok (.iload 6, 2) := by decide +kernel
theorem dX12_put_78 : decode cX12_put 78 = .ok (.iload 4, 2) := by decide +kernel
theorem dX12_put_80 : decode cX12_put 80 = .ok (.if_icmp .le 8, 3) := by decide +kernel
theorem dX12_put_83 : decode cX12_put 83 = .ok (.iload 6, 2) := by decide +kernel
theorem dX12_put_85 : decode cX12_put 85 = .ok (.goto 5, 3) := by decide +kernel
theorem dX12_put_88 : decode cX12_put 88 = .ok (.iload 4, 2) := by decide +kernel
theorem dX12_put_90 : decode cX12_put 90 = .ok (.istore 4, 2) := by decide +kernel
theorem dX12_put_92 : decode cX12_put 92 = .ok (.iinc 5 1, 3) := by decide +kernel
theorem dX12_put_95 : decode cX12_put 95 = .ok (.goto (-61), 3) := by decide +kernel
theorem dX12_put_98 : decode cX12_put 98 = .ok (.iload_n 3, 1) := by decide +kernel
theorem dX12_put_99 : decode cX12_put 99 = .ok (.ireturn, 1) := by decide +kernel
theorem dX12_isBeside_0 : decode cX12_isBeside 0 = .ok (.iload_n 1, 1) := by decide +kernel
theorem dX12_isBeside_1 : decode cX12_isBeside 1 = .ok (.iload_n 2, 1) := by decide +kernel
theorem dX12_isBeside_2 : decode cX12_isBeside 2 = .ok (.invokestatic 133, 3) := by decide +kernel
theorem dX12_isBeside_5 : decode cX12_isBeside 5 = .ok (.iconst 1, 1) := by decide +kernel
theorem dX12_isBeside_6 : decode cX12_isBeside 6 = .ok (.if_icmp .ne 7, 3) := by decide +kernel
theorem dX12_isBeside_9 : decode cX12_isBeside 9 = .ok (.iconst 1, 1) := by decide +kernel
theorem dX12_isBeside_10 : decode cX12_isBeside 10 = .ok (.goto 4, 3) := by decide +kernel
theorem dX12_isBeside_13 : decode cX12_isBeside 13 = .ok (.iconst 0, 1) := by decide +kernel
theorem dX12_isBeside_14 : decode cX12_isBeside 14 = .ok (.ireturn, 1) := by decide +kernel
theorem dX12_laySteps_0 : decode cX12_laySteps 0 = .ok (.iconst 0, 1) := by decide +kernel
theorem dX12_laySteps_1 : decode cX12_laySteps 1 = .ok (.istore 4, 2) := by decide +kernel
theorem dX12_laySteps_3 : decode cX12_laySteps 3 = .ok (.iload 4, 2) := by decide +kernel
theorem dX12_laySteps_5 : decode cX12_laySteps 5 = .ok (.bipush 64, 2) := by decide +kernel
theorem dX12_laySteps_7 : decode cX12_laySteps 7 = .ok (.if_icmp .ge 39, 3) := by decide +kernel
theorem dX12_laySteps_10 : decode cX12_laySteps 10 = .ok (.aload_n 0, 1) := by decide +kernel
theorem dX12_laySteps_11 : decode cX12_laySteps 11 = .ok (.getfield 33, 3) := by decide +kernel
theorem dX12_laySteps_14 : decode cX12_laySteps 14 = .ok (.iload 4, 2) := by decide +kernel
theorem dX12_laySteps_16 : decode cX12_laySteps 16 = .ok (.iload 4, 2) := by decide +kernel
theorem dX12_laySteps_18 : decode cX12_laySteps 18 = .ok (.iload_n 1, 1) := by decide +kernel
theorem dX12_laySteps_19 : decode cX12_laySteps 19 = .ok (.if_icmp .ne 18, 3) := by decide +kernel
theorem dX12_laySteps_22 : decode cX12_laySteps 22 = .ok (.aload_n 0, 1) := by decide +kernel
theorem dX12_laySteps_23 : decode cX12_laySteps 23 = .ok (.iload 4, 2) := by decide +kernel
theorem dX12_laySteps_25 : decode cX12_laySteps 25 = .ok (.iload_n 2, 1) := by decide +kernel
theorem dX12_laySteps_26 : decode cX12_laySteps 26 = .ok (.invokevirtual 143, 3) := by decide +kernel
theorem dX12_laySteps_29 : decode cX12_laySteps 29 = .ok (.iload_n 3, 1) := by decide +kernel
theorem dX12_laySteps_30 : decode cX12_laySteps 30 = .ok (.if_icmp .ge 7, 3) := by decide +kernel
theorem dX12_laySteps_33 : decode cX12_laySteps 33 = .ok (.iconst 0, 1) := by decide +kernel
theorem dX12_laySteps_34 : decode cX12_laySteps 34 = .ok (.goto 5, 3) := by decide +kernel
theorem dX12_laySteps_37 : decode cX12_laySteps 37 = .ok (.ldc 175, 2) := by decide +kernel
theorem dX12_laySteps_39 : decode cX12_laySteps 39 = .ok (.iastore, 1) := by decide +kernel
theorem dX12_laySteps_40 : decode cX12_laySteps 40 = .ok (.iinc 4 1, 3) := by decide +kernel
theorem dX12_laySteps_43 : decode cX12_laySteps 43 = .ok (.goto (-40), 3) := by decide +kernel
theorem dX12_laySteps_46 : decode cX12_laySteps 46 = .ok (.iconst 1, 1) := by decide +kernel
theorem dX12_laySteps_47 : decode cX12_laySteps 47 = .ok (.istore 4, 2) := by decide +kernel
theorem dX12_laySteps_49 : decode cX12_laySteps 49 = .ok (.iload 4, 2) := by decide +kernel
theorem dX12_laySteps_51 : decode cX12_laySteps 51 = .ok (.ifCond .eq 149, 3) := by decide +kernel
theorem dX12_laySteps_54 : decode cX12_laySteps 54 = .ok (.iconst 0, 1) := by decide +kernel
theorem dX12_laySteps_55 : decode cX12_laySteps 55 = .ok (.istore 4, 2) := by decide +kernel
theorem dX12_laySteps_57 : decode cX12_laySteps 57 = .ok (.iconst 0, 1) := by decide +kernel
theorem dX12_laySteps_58 : decode cX12_laySteps 58 = .ok (.istore 5, 2) := by decide +kernel
theorem dX12_laySteps_60 : decode cX12_laySteps 60 = .ok (.iload 5, 2) := by decide +kernel
theorem dX12_laySteps_62 : decode cX12_laySteps 62 = .ok (.bipush 64, 2) := by decide +kernel
theorem dX12_laySteps_64 : decode cX12_laySteps 64 = .ok (.if_icmp .ge 133, 3) := by decide +kernel
theorem dX12_laySteps_67 : decode cX12_laySteps 67 = .ok (.aload_n 0, 1) := by decide +kernel
theorem dX12_laySteps_68 : decode cX12_laySteps 68 = .ok (.iload 5, 2) := by decide +kernel
theorem dX12_laySteps_70 : decode cX12_laySteps 70 = .ok (.iload_n 2, 1) := by decide +kernel
theorem dX12_laySteps_71 : decode cX12_laySteps 71 = .ok (.invokevirtual 143, 3) := by decide +kernel
theorem dX12_laySteps_74 : decode cX12_laySteps 74 = .ok (.iload_n 3, 1) := by decide +kernel
theorem dX12_laySteps_75 : decode cX12_laySteps 75 = .ok (.if_icmp .ge 7, 3) := by decide +kernel
theorem dX12_laySteps_78 : decode cX12_laySteps 78 = .ok (.iconst 1, 1) := by decide +kernel
theorem dX12_laySteps_79 : decode cX12_laySteps 79 = .ok (.goto 4, 3) := by decide +kernel
theorem dX12_laySteps_82 : decode cX12_laySteps 82 = .ok (.iconst 0, 1) := by decide +kernel
theorem dX12_laySteps_83 : decode cX12_laySteps 83 = .ok (.istore 6, 2) := by decide +kernel
theorem dX12_laySteps_85 : decode cX12_laySteps 85 = .ok (.iconst 0, 1) := by decide +kernel
theorem dX12_laySteps_86 : decode cX12_laySteps 86 = .ok (.istore 7, 2) := by decide +kernel
theorem dX12_laySteps_88 : decode cX12_laySteps 88 = .ok (.iload 7, 2) := by decide +kernel
theorem dX12_laySteps_90 : decode cX12_laySteps 90 = .ok (.bipush 64, 2) := by decide +kernel
theorem dX12_laySteps_92 : decode cX12_laySteps 92 = .ok (.if_icmp .ge 99, 3) := by decide +kernel
theorem dX12_laySteps_95 : decode cX12_laySteps 95 = .ok (.iload 6, 2) := by decide +kernel
theorem dX12_laySteps_97 : decode cX12_laySteps 97 = .ok (.ifCond .eq 94, 3) := by decide +kernel
theorem dX12_laySteps_100 : decode cX12_laySteps 100 = .ok (.aload_n 0, 1) := by decide +kernel
theorem dX12_laySteps_101 : decode cX12_laySteps 101 = .ok (.iload 5, 2) := by decide +kernel
theorem dX12_laySteps_103 : decode cX12_laySteps 103 = .ok (.iload 7, 2) := by decide +kernel
theorem dX12_laySteps_105 : decode cX12_laySteps 105 = .ok (.invokevirtual 176, 3) := by decide +kernel
theorem dX12_laySteps_108 : decode cX12_laySteps 108 = .ok (.ifCond .eq 26, 3) := by decide +kernel
theorem dX12_laySteps_111 : decode cX12_laySteps 111 = .ok (.aload_n 0, 1) := by decide +kernel
theorem dX12_laySteps_112 : decode cX12_laySteps 112 = .ok (.getfield 33, 3) := by decide +kernel
theorem dX12_laySteps_115 : decode cX12_laySteps 115 = .ok (.iload 7, 2) := by decide +kernel
theorem dX12_laySteps_117 : decode cX12_laySteps 117 = .ok (.iaload, 1) := by decide +kernel
theorem dX12_laySteps_118 : decode cX12_laySteps 118 = .ok (.iconst 1, 1) := by decide +kernel
theorem dX12_laySteps_119 : decode cX12_laySteps 119 = .ok (.iadd, 1) := by decide +kernel
theorem dX12_laySteps_120 : decode cX12_laySteps 120 = .ok (.aload_n 0, 1) := by decide +kernel
theorem dX12_laySteps_121 : decode cX12_laySteps 121 = .ok (.getfield 33, 3) := by decide +kernel
theorem dX12_laySteps_124 : decode cX12_laySteps 124 = .ok (.iload 5, 2) := by decide +kernel
theorem dX12_laySteps_126 : decode cX12_laySteps 126 = .ok (.iaload, 1) := by decide +kernel
theorem dX12_laySteps_127 : decode cX12_laySteps 127 = .ok (.if_icmp .ge 7, 3) := by decide +kernel
theorem dX12_laySteps_130 : decode cX12_laySteps 130 = .ok (.iconst 1, 1) := by decide +kernel
theorem dX12_laySteps_131 : decode cX12_laySteps 131 = .ok (.goto 4, 3) := by decide +kernel
theorem dX12_laySteps_134 : decode cX12_laySteps 134 = .ok (.iconst 0, 1) := by decide +kernel
theorem dX12_laySteps_135 : decode cX12_laySteps 135 = .ok (.istore 8, 2) := by decide +kernel
theorem dX12_laySteps_137 : decode cX12_laySteps 137 = .ok (.aload_n 0, 1) := by decide +kernel
theorem dX12_laySteps_138 : decode cX12_laySteps 138 = .ok (.getfield 33, 3) := by decide +kernel
theorem dX12_laySteps_141 : decode cX12_laySteps 141 = .ok (.iload 5, 2) := by decide +kernel
theorem dX12_laySteps_143 : decode cX12_laySteps 143 = .ok (.iload 8, 2) := by decide +kernel
theorem dX12_laySteps_145 : decode cX12_laySteps 145 = .ok (.ifCond .eq 15, 3) := by decide +kernel
theorem dX12_laySteps_148 : decode cX12_laySteps 148 = .ok (.aload_n 0, 1) := by decide +kernel
theorem dX12_laySteps_149 : decode cX12_laySteps 149 = .ok (.getfield 33, 3) := by decide +kernel
theorem dX12_laySteps_152 : decode cX12_laySteps 152 = .ok (.iload 7, 2) := by decide +kernel
theorem dX12_laySteps_154 : decode cX12_laySteps 154 = .ok (.iaload, 1) := by decide +kernel
theorem dX12_laySteps_155 : decode cX12_laySteps 155 = .ok (.iconst 1, 1) := by decide +kernel
theorem dX12_laySteps_156 : decode cX12_laySteps 156 = .ok (.iadd, 1) := by decide +kernel
theorem dX12_laySteps_157 : decode cX12_laySteps 157 = .ok (.goto 10, 3) := by decide +kernel
theorem dX12_laySteps_160 : decode cX12_laySteps 160 = .ok (.aload_n 0, 1) := by decide +kernel
theorem dX12_laySteps_161 : decode cX12_laySteps 161 = .ok (.getfield 33, 3) := by decide +kernel
theorem dX12_laySteps_164 : decode cX12_laySteps 164 = .ok (.iload 5, 2) := by decide +kernel
theorem dX12_laySteps_166 : decode cX12_laySteps 166 = .ok (.iaload, 1) := by decide +kernel
theorem dX12_laySteps_167 : decode cX12_laySteps 167 = .ok (.iastore, 1) := by decide +kernel
theorem dX12_laySteps_168 : decode cX12_laySteps 168 = .ok (.iload 4, 2) := by decide +kernel
theorem dX12_laySteps_170 : decode cX12_laySteps 170 = .ok (.ifCond .ne 8, 3) := by decide +kernel
theorem dX12_laySteps_173 : decode cX12_laySteps 173 = .ok (.iload 8, 2) := by decide +kernel
theorem dX12_laySteps_175 : decode cX12_laySteps 175 = .ok (.ifCond .eq 7, 3) := by decide +kernel
theorem dX12_laySteps_178 : decode cX12_laySteps 178 = .ok (.iconst 1, 1) := by decide +kernel
theorem dX12_laySteps_179 : decode cX12_laySteps 179 = .ok (.goto 4, 3) := by decide +kernel
theorem dX12_laySteps_182 : decode cX12_laySteps 182 = .ok (.iconst 0, 1) := by decide +kernel
theorem dX12_laySteps_183 : decode cX12_laySteps 183 = .ok (.istore 4, 2) := by decide +kernel
theorem dX12_laySteps_185 : decode cX12_laySteps 185 = .ok (.iinc 7 1, 3) := by decide +kernel
theorem dX12_laySteps_188 : decode cX12_laySteps 188 = .ok (.goto (-100), 3) := by decide +kernel
theorem dX12_laySteps_191 : decode cX12_laySteps 191 = .ok (.iinc 5 1, 3) := by decide +kernel
theorem dX12_laySteps_194 : decode cX12_laySteps 194 = .ok (.goto (-134), 3) := by decide +kernel
theorem dX12_laySteps_197 : decode cX12_laySteps 197 = .ok (.goto (-148), 3) := by decide +kernel
theorem dX12_laySteps_200 : decode cX12_laySteps 200 = .ok (.return_, 1) := by decide +kernel
theorem dX12_thief_0 : decode cX12_thief 0 = .ok (.iload_n 1, 1) := by decide +kernel
theorem dX12_thief_1 : decode cX12_thief 1 = .ok (.invokestatic 85, 3) := by decide +kernel
theorem dX12_thief_4 : decode cX12_thief 4 = .ok (.ifCond .eq 36, 3) := by decide +kernel
theorem dX12_thief_7 : decode cX12_thief 7 = .ok (.iload_n 2, 1) := by decide +kernel
theorem dX12_thief_8 : decode cX12_thief 8 = .ok (.invokestatic 85, 3) := by decide +kernel
theorem dX12_thief_11 : decode cX12_thief 11 = .ok (.ifCond .eq 29, 3) := by decide +kernel
theorem dX12_thief_14 : decode cX12_thief 14 = .ok (.iload_n 3, 1) := by decide +kernel
theorem dX12_thief_15 : decode cX12_thief 15 = .ok (.invokestatic 151, 3) := by decide +kernel
theorem dX12_thief_18 : decode cX12_thief 18 = .ok (.ifCond .eq 22, 3) := by decide +kernel
theorem dX12_thief_21 : decode cX12_thief 21 = .ok (.iload 4, 2) := by decide +kernel
theorem dX12_thief_23 : decode cX12_thief 23 = .ok (.invokestatic 89, 3) := by decide +kernel
theorem dX12_thief_26 : decode cX12_thief 26 = .ok (.ifCond .eq 14, 3) := by decide +kernel
theorem dX12_thief_29 : decode cX12_thief 29 = .ok (.iload 5, 2) := by decide +kernel
theorem dX12_thief_31 : decode cX12_thief 31 = .ok (.i2l, 1) := by decide +kernel
theorem dX12_thief_32 : decode cX12_thief 32 = .ok (.lconst 0, 1) := by decide +kernel
theorem dX12_thief_33 : decode cX12_thief 33 = .ok (.lconst 1, 1) := by decide +kernel
theorem dX12_thief_34 : decode cX12_thief 34 = .ok (.invokestatic 61, 3) := by decide +kernel
theorem dX12_thief_37 : decode cX12_thief 37 = .ok (.ifCond .ne 10, 3) := by decide +kernel
theorem dX12_thief_40 : decode cX12_thief 40 = .ok (.aload_n 0, 1) := by decide +kernel
theorem dX12_thief_41 : decode cX12_thief 41 = .ok (.bipush (-2), 2) := by decide +kernel
theorem dX12_thief_43 : decode cX12_thief 43 = .ok (.invokevirtual 75, 3) := by decide +kernel
theorem dX12_thief_46 : decode cX12_thief 46 = .ok (.ireturn, 1) := by decide +kernel
theorem dX12_thief_47 : decode cX12_thief 47 = .ok (.aload_n 0, 1) := by decide +kernel
theorem dX12_thief_48 : decode cX12_thief 48 = .ok (.invokevirtual 154, 3) := by decide +kernel
theorem dX12_thief_51 : decode cX12_thief 51 = .ok (.aload_n 0, 1) := by decide +kernel
theorem dX12_thief_52 : decode cX12_thief 52 = .ok (.iload_n 2, 1) := by decide +kernel
theorem dX12_thief_53 : decode cX12_thief 53 = .ok (.iload_n 3, 1) := by decide +kernel
theorem dX12_thief_54 : decode cX12_thief 54 = .ok (.iload 4, 2) := by decide +kernel
theorem dX12_thief_56 : decode cX12_thief 56 = .ok (.invokevirtual 179, 3) := by decide +kernel
theorem dX12_thief_59 : decode cX12_thief 59 = .ok (.aload_n 0, 1) := by decide +kernel
theorem dX12_thief_60 : decode cX12_thief 60 = .ok (.getfield 33, 3) := by decide +kernel
theorem dX12_thief_63 : decode cX12_thief 63 = .ok (.iload_n 1, 1) := by decide +kernel
theorem dX12_thief_64 : decode cX12_thief 64 = .ok (.iaload, 1) := by decide +kernel
theorem dX12_thief_65 : decode cX12_thief 65 = .ok (.ldc 175, 2) := by decide +kernel
theorem dX12_thief_67 : decode cX12_thief 67 = .ok (.if_icmp .lt 5, 3) := by decide +kernel
theorem dX12_thief_70 : decode cX12_thief 70 = .ok (.iconst (-1), 1) := by decide +kernel
theorem dX12_thief_71 : decode cX12_thief 71 = .ok (.ireturn, 1) := by decide +kernel
theorem dX12_thief_72 : decode cX12_thief 72 = .ok (.iload_n 1, 1) := by decide +kernel
theorem dX12_thief_73 : decode cX12_thief 73 = .ok (.istore 6, 2) := by decide +kernel
theorem dX12_thief_75 : decode cX12_thief 75 = .ok (.bipush 63, 2) := by decide +kernel
theorem dX12_thief_77 : decode cX12_thief 77 = .ok (.istore 7, 2) := by decide +kernel
theorem dX12_thief_79 : decode cX12_thief 79 = .ok (.iload 7, 2) := by decide +kernel
theorem dX12_thief_81 : decode cX12_thief 81 = .ok (.ifCond .lt 51, 3) := by decide +kernel
theorem dX12_thief_84 : decode cX12_thief 84 = .ok (.iload_n 1, 1) := by decide +kernel
theorem dX12_thief_85 : decode cX12_thief 85 = .ok (.iload_n 2, 1) := by decide +kernel
theorem dX12_thief_86 : decode cX12_thief 86 = .ok (.if_icmp .eq 46, 3) := by decide +kernel
theorem dX12_thief_89 : decode cX12_thief 89 = .ok (.aload_n 0, 1) := by decide +kernel
theorem dX12_thief_90 : decode cX12_thief 90 = .ok (.iload_n 1, 1) := by decide +kernel
theorem dX12_thief_91 : decode cX12_thief 91 = .ok (.iload 7, 2) := by decide +kernel
theorem dX12_thief_93 : decode cX12_thief 93 = .ok (.invokevirtual 176, 3) := by decide +kernel
theorem dX12_thief_96 : decode cX12_thief 96 = .ok (.ifCond .eq 26, 3) := by decide +kernel
theorem dX12_thief_99 : decode cX12_thief 99 = .ok (.aload_n 0, 1) := by decide +kernel
theorem dX12_thief_100 : decode cX12_thief 100 = .ok (.getfield 33, 3) := by decide +kernel
theorem dX12_thief_103 : decode cX12_thief 103 = .ok (.iload 7, 2) := by decide +kernel
theorem dX12_thief_105 : decode cX12_thief 105 = .ok (.iaload, 1) := by decide +kernel
theorem dX12_thief_106 : decode cX12_thief 106 = .ok (.aload_n 0, 1) := by decide +kernel
theorem dX12_thief_107 : decode cX12_thief 107 = .ok (.getfield 33, 3) := by decide +kernel
theorem dX12_thief_110 : decode cX12_thief 110 = .ok (.iload_n 1, 1) := by decide +kernel
theorem dX12_thief_111 : decode cX12_thief 111 = .ok (.iaload, 1) := by decide +kernel
theorem dX12_thief_112 : decode cX12_thief 112 = .ok (.iconst 1, 1) := by decide +kernel
theorem dX12_thief_113 : decode cX12_thief 113 = .ok (.isub, 1) := by decide +kernel
theorem dX12_thief_114 : decode cX12_thief 114 = .ok (.if_icmp .ne 8, 3) := by decide +kernel
theorem dX12_thief_117 : decode cX12_thief 117 = .ok (.iload 7, 2) := by decide +kernel
theorem dX12_thief_119 : decode cX12_thief 119 = .ok (.goto 5, 3) := by decide +kernel
theorem dX12_thief_122 : decode cX12_thief 122 = .ok (.iload 6, 2) := by decide +kernel
theorem dX12_thief_124 : decode cX12_thief 124 = .ok (.istore 6, 2) := by decide +kernel
theorem dX12_thief_126 : decode cX12_thief 126 = .ok (.iinc 7 (-1), 3) := by decide +kernel
theorem dX12_thief_129 : decode cX12_thief 129 = .ok (.goto (-50), 3) := by decide +kernel
theorem dX12_thief_132 : decode cX12_thief 132 = .ok (.iload 5, 2) := by decide +kernel
theorem dX12_thief_134 : decode cX12_thief 134 = .ok (.ifCond .ne 12, 3) := by decide +kernel
theorem dX12_thief_137 : decode cX12_thief 137 = .ok (.aload_n 0, 1) := by decide +kernel
theorem dX12_thief_138 : decode cX12_thief 138 = .ok (.getfield 33, 3) := by decide +kernel
theorem dX12_thief_141 : decode cX12_thief 141 = .ok (.iload_n 1, 1) := by decide +kernel
theorem dX12_thief_142 : decode cX12_thief 142 = .ok (.iaload, 1) := by decide +kernel
theorem dX12_thief_143 : decode cX12_thief 143 = .ok (.goto 5, 3) := by decide +kernel
theorem dX12_thief_146 : decode cX12_thief 146 = .ok (.iload 6, 2) := by decide +kernel
theorem dX12_thief_148 : decode cX12_thief 148 = .ok (.ireturn, 1) := by decide +kernel
theorem dX12_wedding_0 : decode cX12_wedding 0 = .ok (.iload_n 1, 1) := by decide +kernel
theorem dX12_wedding_1 : decode cX12_wedding 1 = .ok (.invokestatic 92, 3) := by decide +kernel
theorem dX12_wedding_4 : decode cX12_wedding 4 = .ok (.ifCond .eq 22, 3) := by decide +kernel
theorem dX12_wedding_7 : decode cX12_wedding 7 = .ok (.iload_n 2, 1) := by decide +kernel
theorem dX12_wedding_8 : decode cX12_wedding 8 = .ok (.invokestatic 92, 3) := by decide +kernel
theorem dX12_wedding_11 : decode cX12_wedding 11 = .ok (.ifCond .eq 15, 3) := by decide +kernel
theorem dX12_wedding_14 : decode cX12_wedding 14 = .ok (.iload_n 1, 1) := by decide +kernel
theorem dX12_wedding_15 : decode cX12_wedding 15 = .ok (.iload_n 2, 1) := by decide +kernel
theorem dX12_wedding_16 : decode cX12_wedding 16 = .ok (.if_icmp .eq 10, 3) := by decide +kernel
theorem dX12_wedding_19 : decode cX12_wedding 19 = .ok (.iload_n 3, 1) := by decide +kernel
theorem dX12_wedding_20 : decode cX12_wedding 20 = .ok (.invokestatic 151, 3) := by decide +kernel
theorem dX12_wedding_23 : decode cX12_wedding 23 = .ok (.ifCond .ne 10, 3) := by decide +kernel
theorem dX12_wedding_26 : decode cX12_wedding 26 = .ok (.aload_n 0, 1) := by decide +kernel
theorem dX12_wedding_27 : decode cX12_wedding 27 = .ok (.bipush (-100), 2) := by decide +kernel
theorem dX12_wedding_29 : decode cX12_wedding 29 = .ok (.invokevirtual 75, 3) := by decide +kernel
theorem dX12_wedding_32 : decode cX12_wedding 32 = .ok (.ireturn, 1) := by decide +kernel
theorem dX12_wedding_33 : decode cX12_wedding 33 = .ok (.aload_n 0, 1) := by decide +kernel
theorem dX12_wedding_34 : decode cX12_wedding 34 = .ok (.invokevirtual 154, 3) := by decide +kernel
theorem dX12_wedding_37 : decode cX12_wedding 37 = .ok (.aload_n 0, 1) := by decide +kernel
theorem dX12_wedding_38 : decode cX12_wedding 38 = .ok (.iload_n 1, 1) := by decide +kernel
theorem dX12_wedding_39 : decode cX12_wedding 39 = .ok (.iload_n 3, 1) := by decide +kernel
theorem dX12_wedding_40 : decode cX12_wedding 40 = .ok (.invokevirtual 172, 3) := by decide +kernel
theorem dX12_wedding_43 : decode cX12_wedding 43 = .ok (.aload_n 0, 1) := by decide +kernel
theorem dX12_wedding_44 : decode cX12_wedding 44 = .ok (.iload_n 2, 1) := by decide +kernel
theorem dX12_wedding_45 : decode cX12_wedding 45 = .ok (.iload_n 3, 1) := by decide +kernel
theorem dX12_wedding_46 : decode cX12_wedding 46 = .ok (.invokevirtual 172, 3) := by decide +kernel
theorem dX12_wedding_49 : decode cX12_wedding 49 = .ok (.iadd, 1) := by decide +kernel
theorem dX12_wedding_50 : decode cX12_wedding 50 = .ok (.istore 4, 2) := by decide +kernel
theorem dX12_wedding_52 : decode cX12_wedding 52 = .ok (.iconst 0, 1) := by decide +kernel
theorem dX12_wedding_53 : decode cX12_wedding 53 = .ok (.istore 5, 2) := by decide +kernel
theorem dX12_wedding_55 : decode cX12_wedding 55 = .ok (.iload 5, 2) := by decide +kernel
theorem dX12_wedding_57 : decode cX12_wedding 57 = .ok (.aload_n 0, 1) := by decide +kernel
theorem dX12_wedding_58 : decode cX12_wedding 58 = .ok (.invokevirtual 57, 3) := by decide +kernel
theorem dX12_wedding_61 : decode cX12_wedding 61 = .ok (.if_icmp .ge 38, 3) := by decide +kernel
theorem dX12_wedding_64 : decode cX12_wedding 64 = .ok (.aload_n 0, 1) := by decide +kernel
theorem dX12_wedding_65 : decode cX12_wedding 65 = .ok (.getfield 30, 3) := by decide +kernel
theorem dX12_wedding_68 : decode cX12_wedding 68 = .ok (.iload 5, 2) := by decide +kernel
theorem dX12_wedding_70 : decode cX12_wedding 70 = .ok (.aload_n 0, 1) := by decide +kernel
theorem dX12_wedding_71 : decode cX12_wedding 71 = .ok (.getfield 30, 3) := by decide +kernel
theorem dX12_wedding_74 : decode cX12_wedding 74 = .ok (.iload 5, 2) := by decide +kernel
theorem dX12_wedding_76 : decode cX12_wedding 76 = .ok (.iaload, 1) := by decide +kernel
theorem dX12_wedding_77 : decode cX12_wedding 77 = .ok (.iload_n 2, 1) := by decide +kernel
theorem dX12_wedding_78 : decode cX12_wedding 78 = .ok (.if_icmp .ne 7, 3) := by decide +kernel
theorem dX12_wedding_81 : decode cX12_wedding 81 = .ok (.iload_n 1, 1) := by decide +kernel
theorem dX12_wedding_82 : decode cX12_wedding 82 = .ok (.goto 10, 3) := by decide +kernel
theorem dX12_wedding_85 : decode cX12_wedding 85 = .ok (.aload_n 0, 1) := by decide +kernel
theorem dX12_wedding_86 : decode cX12_wedding 86 = .ok (.getfield 30, 3) := by decide +kernel
theorem dX12_wedding_89 : decode cX12_wedding 89 = .ok (.iload 5, 2) := by decide +kernel
theorem dX12_wedding_91 : decode cX12_wedding 91 = .ok (.iaload, 1) := by decide +kernel
theorem dX12_wedding_92 : decode cX12_wedding 92 = .ok (.iastore, 1) := by decide +kernel
theorem dX12_wedding_93 : decode cX12_wedding 93 = .ok (.iinc 5 1, 3) := by decide +kernel
theorem dX12_wedding_96 : decode cX12_wedding 96 = .ok (.goto (-41), 3) := by decide +kernel
theorem dX12_wedding_99 : decode cX12_wedding 99 = .ok (.aload_n 0, 1) := by decide +kernel
theorem dX12_wedding_100 : decode cX12_wedding 100 = .ok (.iload_n 1, 1) := by decide +kernel
theorem dX12_wedding_101 : decode cX12_wedding 101 = .ok (.iload_n 3, 1) := by decide +kernel
theorem dX12_wedding_102 : decode cX12_wedding 102 = .ok (.invokevirtual 172, 3) := by decide +kernel
theorem dX12_wedding_105 : decode cX12_wedding 105 = .ok (.iload 4, 2) := by decide +kernel
theorem dX12_wedding_107 : decode cX12_wedding 107 = .ok (.isub, 1) := by decide +kernel
theorem dX12_wedding_108 : decode cX12_wedding 108 = .ok (.ireturn, 1) := by decide +kernel
theorem dX12_ownOf_0 : decode cX12_ownOf 0 = .ok (.iconst 0, 1) := by decide +kernel
theorem dX12_ownOf_1 : decode cX12_ownOf 1 = .ok (.istore_n 2, 1) := by decide +kernel
theorem dX12_ownOf_2 : decode cX12_ownOf 2 = .ok (.iconst 0, 1) := by decide +kernel
theorem dX12_ownOf_3 : decode cX12_ownOf 3 = .ok (.istore_n 3, 1) := by decide +kernel
theorem dX12_ownOf_4 : decode cX12_ownOf 4 = .ok (.iload_n 3, 1) := by decide +kernel
theorem dX12_ownOf_5 : decode cX12_ownOf 5 = .ok (.aload_n 0, 1) := by decide +kernel
theorem dX12_ownOf_6 : decode cX12_ownOf 6 = .ok (.invokevirtual 57, 3) := by decide +kernel
theorem dX12_ownOf_9 : decode cX12_ownOf 9 = .ok (.if_icmp .ge 29, 3) := by decide +kernel
theorem dX12_ownOf_12 : decode cX12_ownOf 12 = .ok (.iload_n 2, 1) := by decide +kernel
theorem dX12_ownOf_13 : decode cX12_ownOf 13 = .ok (.aload_n 0, 1) := by decide +kernel
theorem dX12_ownOf_14 : decode cX12_ownOf 14 = .ok (.iload_n 3, 1) := by decide +kernel
theorem dX12_ownOf_15 : decode cX12_ownOf 15 = .ok (.iconst 3, 1) := by decide +kernel
theorem dX12_ownOf_16 : decode cX12_ownOf 16 = .ok (.invokevirtual 104, 3) := by decide +kernel
theorem dX12_ownOf_19 : decode cX12_ownOf 19 = .ok (.iload_n 1, 1) := by decide +kernel
theorem dX12_ownOf_20 : decode cX12_ownOf 20 = .ok (.if_icmp .ne 9, 3) := by decide +kernel
theorem dX12_ownOf_23 : decode cX12_ownOf 23 = .ok (.iconst 1, 1) := by decide +kernel
theorem dX12_ownOf_24 : decode cX12_ownOf 24 = .ok (.iload_n 3, 1) := by decide +kernel
theorem dX12_ownOf_25 : decode cX12_ownOf 25 = .ok (.ishl, 1) := by decide +kernel
theorem dX12_ownOf_26 : decode cX12_ownOf 26 = .ok (.goto 4, 3) := by decide +kernel
theorem dX12_ownOf_29 : decode cX12_ownOf 29 = .ok (.iconst 0, 1) := by decide +kernel
theorem dX12_ownOf_30 : decode cX12_ownOf 30 = .ok (.ior, 1) := by decide +kernel
theorem dX12_ownOf_31 : decode cX12_ownOf 31 = .ok (.istore_n 2, 1) := by decide +kernel
theorem dX12_ownOf_32 : decode cX12_ownOf 32 = .ok (.iinc 3 1, 3) := by decide +kernel
theorem dX12_ownOf_35 : decode cX12_ownOf 35 = .ok (.goto (-31), 3) := by decide +kernel
theorem dX12_ownOf_38 : decode cX12_ownOf 38 = .ok (.iload_n 2, 1) := by decide +kernel
theorem dX12_ownOf_39 : decode cX12_ownOf 39 = .ok (.ireturn, 1) := by decide +kernel
theorem dX12_layGets_0 : decode cX12_layGets 0 = .ok (.aload_n 0, 1) := by decide +kernel
theorem dX12_layGets_1 : decode cX12_layGets 1 = .ok (.invokevirtual 154, 3) := by decide +kernel
theorem dX12_layGets_4 : decode cX12_layGets 4 = .ok (.aload_n 0, 1) := by decide +kernel
theorem dX12_layGets_5 : decode cX12_layGets 5 = .ok (.getfield 126, 3) := by decide +kernel
theorem dX12_layGets_8 : decode cX12_layGets 8 = .ok (.aload_n 0, 1) := by decide +kernel
theorem dX12_layGets_9 : decode cX12_layGets 9 = .ok (.iload_n 1, 1) := by decide +kernel
theorem dX12_layGets_10 : decode cX12_layGets 10 = .ok (.invokevirtual 183, 3) := by decide +kernel
theorem dX12_layGets_13 : decode cX12_layGets 13 = .ok (.iconst (-1), 1) := by decide +kernel
theorem dX12_layGets_14 : decode cX12_layGets 14 = .ok (.ixor, 1) := by decide +kernel
theorem dX12_layGets_15 : decode cX12_layGets 15 = .ok (.iand, 1) := by decide +kernel
theorem dX12_layGets_16 : decode cX12_layGets 16 = .ok (.aload_n 0, 1) := by decide +kernel
theorem dX12_layGets_17 : decode cX12_layGets 17 = .ok (.iload_n 2, 1) := by decide +kernel
theorem dX12_layGets_18 : decode cX12_layGets 18 = .ok (.invokevirtual 183, 3) := by decide +kernel
theorem dX12_layGets_21 : decode cX12_layGets 21 = .ok (.iconst (-1), 1) := by decide +kernel
theorem dX12_layGets_22 : decode cX12_layGets 22 = .ok (.ixor, 1) := by decide +kernel
theorem dX12_layGets_23 : decode cX12_layGets 23 = .ok (.iand, 1) := by decide +kernel
theorem dX12_layGets_24 : decode cX12_layGets 24 = .ok (.istore 5, 2) := by decide +kernel
theorem dX12_layGets_26 : decode cX12_layGets 26 = .ok (.iconst 0, 1) := by decide +kernel
theorem dX12_layGets_27 : decode cX12_layGets 27 = .ok (.istore 6, 2) := by decide +kernel
theorem dX12_layGets_29 : decode cX12_layGets 29 = .ok (.iload 6, 2) := by decide +kernel
theorem dX12_layGets_31 : decode cX12_layGets 31 = .ok (.iconst 4, 1) := by decide +kernel
theorem dX12_layGets_32 : decode cX12_layGets 32 = .ok (.if_icmp .ge 107, 3) := by decide +kernel
theorem dX12_layGets_35 : decode cX12_layGets 35 = .ok (.iload 6, 2) := by decide +kernel
theorem dX12_layGets_37 : decode cX12_layGets 37 = .ok (.iconst 1, 1) := by decide +kernel
theorem dX12_layGets_38 : decode cX12_layGets 38 = .ok (.iand, 1) := by decide +kernel
theorem dX12_layGets_39 : decode cX12_layGets 39 = .ok (.iconst 1, 1) := by decide +kernel
theorem dX12_layGets_40 : decode cX12_layGets 40 = .ok (.if_icmp .ne 11, 3) := by decide +kernel
theorem dX12_layGets_43 : decode cX12_layGets 43 = .ok (.aload_n 0, 1) := by decide +kernel
theorem dX12_layGets_44 : decode cX12_layGets 44 = .ok (.iload_n 1, 1) := by decide +kernel
theorem dX12_layGets_45 : decode cX12_layGets 45 = .ok (.invokevirtual 183, 3) := by decide +kernel
theorem dX12_layGets_48 : decode cX12_layGets 48 = .ok (.goto 4, 3) := by decide +kernel
theorem dX12_layGets_51 : decode cX12_layGets 51 = .ok (.iconst 0, 1) := by decide +kernel
theorem dX12_layGets_52 : decode cX12_layGets 52 = .ok (.istore 7, 2) := by decide +kernel
theorem dX12_layGets_54 : decode cX12_layGets 54 = .ok (.iload 6, 2) := by decide +kernel
theorem dX12_layGets_56 : decode cX12_layGets 56 = .ok (.iconst 1, 1) := by decide +kernel
theorem dX12_layGets_57 : decode cX12_layGets 57 = .ok (.if_icmp .le 11, 3) := by decide +kernel
theorem dX12_layGets_60 : decode cX12_layGets 60 = .ok (.aload_n 0, 1) := by decide +kernel
theorem dX12_layGets_61 : decode cX12_layGets 61 = .ok (.iload_n 2, 1) := by decide +kernel
theorem dX12_layGets_62 : decode cX12_layGets 62 = .ok (.invokevirtual 183, 3) := by decide +kernel
theorem dX12_layGets_65 : decode cX12_layGets 65 = .ok (.goto 4, 3) := by decide +kernel
theorem dX12_layGets_68 : decode cX12_layGets 68 = .ok (.iconst 0, 1) := by decide +kernel
theorem dX12_layGets_69 : decode cX12_layGets 69 = .ok (.istore 8, 2) := by decide +kernel
theorem dX12_layGets_71 : decode cX12_layGets 71 = .ok (.aload_n 0, 1) := by decide +kernel
theorem dX12_layGets_72 : decode cX12_layGets 72 = .ok (.iload 5, 2) := by decide +kernel
theorem dX12_layGets_74 : decode cX12_layGets 74 = .ok (.iload 7, 2) := by decide +kernel
theorem dX12_layGets_76 : decode cX12_layGets 76 = .ok (.ior, 1) := by decide +kernel
theorem dX12_layGets_77 : decode cX12_layGets 77 = .ok (.iload 8, 2) := by decide +kernel
theorem dX12_layGets_79 : decode cX12_layGets 79 = .ok (.ior, 1) := by decide +kernel
theorem dX12_layGets_80 : decode cX12_layGets 80 = .ok (.putfield 126, 3) := by decide +kernel
theorem dX12_layGets_83 : decode cX12_layGets 83 = .ok (.aload_n 0, 1) := by decide +kernel
theorem dX12_layGets_84 : decode cX12_layGets 84 = .ok (.getfield 36, 3) := by decide +kernel
theorem dX12_layGets_87 : decode cX12_layGets 87 = .ok (.iload 6, 2) := by decide +kernel
theorem dX12_layGets_89 : decode cX12_layGets 89 = .ok (.aload_n 0, 1) := by decide +kernel
theorem dX12_layGets_90 : decode cX12_layGets 90 = .ok (.iload_n 1, 1) := by decide +kernel
theorem dX12_layGets_91 : decode cX12_layGets 91 = .ok (.iload_n 3, 1) := by decide +kernel
theorem dX12_layGets_92 : decode cX12_layGets 92 = .ok (.invokevirtual 172, 3) := by decide +kernel
theorem dX12_layGets_95 : decode cX12_layGets 95 = .ok (.iload 4, 2) := by decide +kernel
theorem dX12_layGets_97 : decode cX12_layGets 97 = .ok (.iload 7, 2) := by decide +kernel
theorem dX12_layGets_99 : decode cX12_layGets 99 = .ok (.invokestatic 162, 3) := by decide +kernel
theorem dX12_layGets_102 : decode cX12_layGets 102 = .ok (.imul, 1) := by decide +kernel
theorem dX12_layGets_103 : decode cX12_layGets 103 = .ok (.bipush 10, 2) := by decide +kernel
theorem dX12_layGets_105 : decode cX12_layGets 105 = .ok (.idiv, 1) := by decide +kernel
theorem dX12_layGets_106 : decode cX12_layGets 106 = .ok (.isub, 1) := by decide +kernel
theorem dX12_layGets_107 : decode cX12_layGets 107 = .ok (.iastore, 1) := by decide +kernel
theorem dX12_layGets_108 : decode cX12_layGets 108 = .ok (.aload_n 0, 1) := by decide +kernel
theorem dX12_layGets_109 : decode cX12_layGets 109 = .ok (.getfield 39, 3) := by decide +kernel
theorem dX12_layGets_112 : decode cX12_layGets 112 = .ok (.iload 6, 2) := by decide +kernel
theorem dX12_layGets_114 : decode cX12_layGets 114 = .ok (.aload_n 0, 1) := by decide +kernel
theorem dX12_layGets_115 : decode cX12_layGets 115 = .ok (.iload_n 2, 1) := by decide +kernel
theorem dX12_layGets_116 : decode cX12_layGets 116 = .ok (.iload_n 3, 1) := by decide +kernel
theorem dX12_layGets_117 : decode cX12_layGets 117 = .ok (.invokevirtual 172, 3) := by decide +kernel
theorem dX12_layGets_120 : decode cX12_layGets 120 = .ok (.iload 4, 2) := by decide +kernel
theorem dX12_layGets_122 : decode cX12_layGets 122 = .ok (.iload 8, 2) := by decide +kernel
theorem dX12_layGets_124 : decode cX12_layGets 124 = .ok (.invokestatic 162, 3) := by decide +kernel
theorem dX12_layGets_127 : decode cX12_layGets 127 = .ok (.imul, 1) := by decide +kernel
theorem dX12_layGets_128 : decode cX12_layGets 128 = .ok (.bipush 10, 2) := by decide +kernel
theorem dX12_layGets_130 : decode cX12_layGets 130 = .ok (.idiv, 1) := by decide +kernel
theorem dX12_layGets_131 : decode cX12_layGets 131 = .ok (.isub, 1) := by decide +kernel
theorem dX12_layGets_132 : decode cX12_layGets 132 = .ok (.iastore, 1) := by decide +kernel
theorem dX12_layGets_133 : decode cX12_layGets 133 = .ok (.iinc 6 1, 3) := by decide +kernel
theorem dX12_layGets_136 : decode cX12_layGets 136 = .ok (.goto (-107), 3) := by decide +kernel
theorem dX12_layGets_139 : decode cX12_layGets 139 = .ok (.return_, 1) := by decide +kernel
end
section
theorem dX12_spite_0 : decode cX12_spite 0 = .ok (.iload_n 1, 1) := by decide +kernel
theorem dX12_spite_1 : decode cX12_spite 1 = .ok (.invokestatic 92, 3) := by decide +kernel
theorem dX12_spite_4 : decode cX12_spite 4 = .ok (.ifCond .eq 35, 3) := by decide +kernel
theorem dX12_spite_7 : decode cX12_spite 7 = .ok (.iload_n 2, 1) := by decide +kernel
theorem dX12_spite_8 : decode cX12_spite 8 = .ok (.invokestatic 92, 3) := by decide +kernel
theorem dX12_spite_11 : decode cX12_spite 11 = .ok (.ifCond .eq 28, 3) := by decide +kernel
theorem dX12_spite_14 : decode cX12_spite 14 = .ok (.iload_n 1, 1) := by decide +kernel
theorem dX12_spite_15 : decode cX12_spite 15 = .ok (.iload_n 2, 1) := by decide +kernel
theorem dX12_spite_16 : decode cX12_spite 16 = .ok (.if_icmp .eq 23, 3) := by decide +kernel
theorem dX12_spite_19 : decode cX12_spite 19 = .ok (.iload_n 3, 1) := by decide +kernel
theorem dX12_spite_20 : decode cX12_spite 20 = .ok (.invokestatic 151, 3) := by decide +kernel
theorem dX12_spite_23 : decode cX12_spite 23 = .ok (.ifCond .eq 16, 3) := by decide +kernel
theorem dX12_spite_26 : decode cX12_spite 26 = .ok (.iload 4, 2) := by decide +kernel
theorem dX12_spite_28 : decode cX12_spite 28 = .ok (.i2l, 1) := by decide +kernel
theorem dX12_spite_29 : decode cX12_spite 29 = .ok (.lconst 0, 1) := by decide +kernel
theorem dX12_spite_30 : decode cX12_spite 30 = .ok (.ldc2_w 186, 3) := by decide +kernel
theorem dX12_spite_33 : decode cX12_spite 33 = .ok (.invokestatic 61, 3) := by decide +kernel
theorem dX12_spite_36 : decode cX12_spite 36 = .ok (.ifCond .ne 10, 3) := by decide +kernel
theorem dX12_spite_39 : decode cX12_spite 39 = .ok (.aload_n 0, 1) := by decide +kernel
theorem dX12_spite_40 : decode cX12_spite 40 = .ok (.bipush (-2), 2) := by decide +kernel
theorem dX12_spite_42 : decode cX12_spite 42 = .ok (.invokevirtual 75, 3) := by decide +kernel
theorem dX12_spite_45 : decode cX12_spite 45 = .ok (.ireturn, 1) := by decide +kernel
theorem dX12_spite_46 : decode cX12_spite 46 = .ok (.aload_n 0, 1) := by decide +kernel
theorem dX12_spite_47 : decode cX12_spite 47 = .ok (.iload_n 1, 1) := by decide +kernel
theorem dX12_spite_48 : decode cX12_spite 48 = .ok (.iload_n 2, 1) := by decide +kernel
theorem dX12_spite_49 : decode cX12_spite 49 = .ok (.iload_n 3, 1) := by decide +kernel
theorem dX12_spite_50 : decode cX12_spite 50 = .ok (.iload 4, 2) := by decide +kernel
theorem dX12_spite_52 : decode cX12_spite 52 = .ok (.invokevirtual 188, 3) := by decide +kernel
theorem dX12_spite_55 : decode cX12_spite 55 = .ok (.iconst 0, 1) := by decide +kernel
theorem dX12_spite_56 : decode cX12_spite 56 = .ok (.istore 5, 2) := by decide +kernel
theorem dX12_spite_58 : decode cX12_spite 58 = .ok (.iconst 0, 1) := by decide +kernel
theorem dX12_spite_59 : decode cX12_spite 59 = .ok (.istore 6, 2) := by decide +kernel
theorem dX12_spite_61 : decode cX12_spite 61 = .ok (.iload 6, 2) := by decide +kernel
theorem dX12_spite_63 : decode cX12_spite 63 = .ok (.iconst 4, 1) := by decide +kernel
theorem dX12_spite_64 : decode cX12_spite 64 = .ok (.if_icmp .ge 72, 3) := by decide +kernel
theorem dX12_spite_67 : decode cX12_spite 67 = .ok (.aload_n 0, 1) := by decide +kernel
theorem dX12_spite_68 : decode cX12_spite 68 = .ok (.getfield 36, 3) := by decide +kernel
theorem dX12_spite_71 : decode cX12_spite 71 = .ok (.iload 6, 2) := by decide +kernel
theorem dX12_spite_73 : decode cX12_spite 73 = .ok (.iaload, 1) := by decide +kernel
theorem dX12_spite_74 : decode cX12_spite 74 = .ok (.aload_n 0, 1) := by decide +kernel
theorem dX12_spite_75 : decode cX12_spite 75 = .ok (.getfield 36, 3) := by decide +kernel
theorem dX12_spite_78 : decode cX12_spite 78 = .ok (.iload 6, 2) := by decide +kernel
theorem dX12_spite_80 : decode cX12_spite 80 = .ok (.iconst 1, 1) := by decide +kernel
theorem dX12_spite_81 : decode cX12_spite 81 = .ok (.ixor, 1) := by decide +kernel
theorem dX12_spite_82 : decode cX12_spite 82 = .ok (.iaload, 1) := by decide +kernel
theorem dX12_spite_83 : decode cX12_spite 83 = .ok (.if_icmp .lt 26, 3) := by decide +kernel
theorem dX12_spite_86 : decode cX12_spite 86 = .ok (.aload_n 0, 1) := by decide +kernel
theorem dX12_spite_87 : decode cX12_spite 87 = .ok (.getfield 39, 3) := by decide +kernel
theorem dX12_spite_90 : decode cX12_spite 90 = .ok (.iload 6, 2) := by decide +kernel
theorem dX12_spite_92 : decode cX12_spite 92 = .ok (.iaload, 1) := by decide +kernel
theorem dX12_spite_93 : decode cX12_spite 93 = .ok (.aload_n 0, 1) := by decide +kernel
theorem dX12_spite_94 : decode cX12_spite 94 = .ok (.getfield 39, 3) := by decide +kernel
theorem dX12_spite_97 : decode cX12_spite 97 = .ok (.iload 6, 2) := by decide +kernel
theorem dX12_spite_99 : decode cX12_spite 99 = .ok (.iconst 2, 1) := by decide +kernel
theorem dX12_spite_100 : decode cX12_spite 100 = .ok (.ixor, 1) := by decide +kernel
theorem dX12_spite_101 : decode cX12_spite 101 = .ok (.iaload, 1) := by decide +kernel
theorem dX12_spite_102 : decode cX12_spite 102 = .ok (.if_icmp .lt 7, 3) := by decide +kernel
theorem dX12_spite_105 : decode cX12_spite 105 = .ok (.iconst 1, 1) := by decide +kernel
theorem dX12_spite_106 : decode cX12_spite 106 = .ok (.goto 4, 3) := by decide +kernel
theorem dX12_spite_109 : decode cX12_spite 109 = .ok (.iconst 0, 1) := by decide +kernel
theorem dX12_spite_110 : decode cX12_spite 110 = .ok (.istore 7, 2) := by decide +kernel
theorem dX12_spite_112 : decode cX12_spite 112 = .ok (.iload 5, 2) := by decide +kernel
theorem dX12_spite_114 : decode cX12_spite 114 = .ok (.iload 7, 2) := by decide +kernel
theorem dX12_spite_116 : decode cX12_spite 116 = .ok (.ifCond .eq 10, 3) := by decide +kernel
theorem dX12_spite_119 : decode cX12_spite 119 = .ok (.iconst 1, 1) := by decide +kernel
theorem dX12_spite_120 : decode cX12_spite 120 = .ok (.iload 6, 2) := by decide +kernel
theorem dX12_spite_122 : decode cX12_spite 122 = .ok (.ishl, 1) := by decide +kernel
theorem dX12_spite_123 : decode cX12_spite 123 = .ok (.goto 4, 3) := by decide +kernel
theorem dX12_spite_126 : decode cX12_spite 126 = .ok (.iconst 0, 1) := by decide +kernel
theorem dX12_spite_127 : decode cX12_spite 127 = .ok (.ior, 1) := by decide +kernel
theorem dX12_spite_128 : decode cX12_spite 128 = .ok (.istore 5, 2) := by decide +kernel
theorem dX12_spite_130 : decode cX12_spite 130 = .ok (.iinc 6 1, 3) := by decide +kernel
theorem dX12_spite_133 : decode cX12_spite 133 = .ok (.goto (-72), 3) := by decide +kernel
theorem dX12_spite_136 : decode cX12_spite 136 = .ok (.iload 5, 2) := by decide +kernel
theorem dX12_spite_138 : decode cX12_spite 138 = .ok (.ireturn, 1) := by decide +kernel
theorem dX12_reading_0 : decode cX12_reading 0 = .ok (.iload_n 1, 1) := by decide +kernel
theorem dX12_reading_1 : decode cX12_reading 1 = .ok (.invokestatic 85, 3) := by decide +kernel
theorem dX12_reading_4 : decode cX12_reading 4 = .ok (.ifCond .eq 22, 3) := by decide +kernel
theorem dX12_reading_7 : decode cX12_reading 7 = .ok (.iload_n 2, 1) := by decide +kernel
theorem dX12_reading_8 : decode cX12_reading 8 = .ok (.invokestatic 151, 3) := by decide +kernel
theorem dX12_reading_11 : decode cX12_reading 11 = .ok (.ifCond .eq 15, 3) := by decide +kernel
theorem dX12_reading_14 : decode cX12_reading 14 = .ok (.iload_n 3, 1) := by decide +kernel
theorem dX12_reading_15 : decode cX12_reading 15 = .ok (.i2l, 1) := by decide +kernel
theorem dX12_reading_16 : decode cX12_reading 16 = .ok (.lconst 0, 1) := by decide +kernel
theorem dX12_reading_17 : decode cX12_reading 17 = .ok (.ldc2_w 192, 3) := by decide +kernel
theorem dX12_reading_20 : decode cX12_reading 20 = .ok (.invokestatic 61, 3) := by decide +kernel
theorem dX12_reading_23 : decode cX12_reading 23 = .ok (.ifCond .ne 10, 3) := by decide +kernel
theorem dX12_reading_26 : decode cX12_reading 26 = .ok (.aload_n 0, 1) := by decide +kernel
theorem dX12_reading_27 : decode cX12_reading 27 = .ok (.bipush (-2), 2) := by decide +kernel
theorem dX12_reading_29 : decode cX12_reading 29 = .ok (.invokevirtual 75, 3) := by decide +kernel
theorem dX12_reading_32 : decode cX12_reading 32 = .ok (.ireturn, 1) := by decide +kernel
theorem dX12_reading_33 : decode cX12_reading 33 = .ok (.aload_n 0, 1) := by decide +kernel
theorem dX12_reading_34 : decode cX12_reading 34 = .ok (.getfield 7, 3) := by decide +kernel
theorem dX12_reading_37 : decode cX12_reading 37 = .ok (.iconst 4, 1) := by decide +kernel
theorem dX12_reading_38 : decode cX12_reading 38 = .ok (.iaload, 1) := by decide +kernel
theorem dX12_reading_39 : decode cX12_reading 39 = .ok (.bipush 6, 2) := by decide +kernel
theorem dX12_reading_41 : decode cX12_reading 41 = .ok (.if_icmp .ne 8, 3) := by decide +kernel
theorem dX12_reading_44 : decode cX12_reading 44 = .ok (.aload_n 0, 1) := by decide +kernel
theorem dX12_reading_45 : decode cX12_reading 45 = .ok (.invokevirtual 97, 3) := by decide +kernel
theorem dX12_reading_48 : decode cX12_reading 48 = .ok (.ireturn, 1) := by decide +kernel
theorem dX12_reading_49 : decode cX12_reading 49 = .ok (.bipush 47, 2) := by decide +kernel
theorem dX12_reading_51 : decode cX12_reading 51 = .ok (.iconst 3, 1) := by decide +kernel
theorem dX12_reading_52 : decode cX12_reading 52 = .ok (.aload_n 0, 1) := by decide +kernel
theorem dX12_reading_53 : decode cX12_reading 53 = .ok (.getfield 7, 3) := by decide +kernel
theorem dX12_reading_56 : decode cX12_reading 56 = .ok (.iconst 4, 1) := by decide +kernel
theorem dX12_reading_57 : decode cX12_reading 57 = .ok (.iaload, 1) := by decide +kernel
theorem dX12_reading_58 : decode cX12_reading 58 = .ok (.imul, 1) := by decide +kernel
theorem dX12_reading_59 : decode cX12_reading 59 = .ok (.iadd, 1) := by decide +kernel
theorem dX12_reading_60 : decode cX12_reading 60 = .ok (.istore 4, 2) := by decide +kernel
theorem dX12_reading_62 : decode cX12_reading 62 = .ok (.aload_n 0, 1) := by decide +kernel
theorem dX12_reading_63 : decode cX12_reading 63 = .ok (.getfield 7, 3) := by decide +kernel
theorem dX12_reading_66 : decode cX12_reading 66 = .ok (.iload 4, 2) := by decide +kernel
theorem dX12_reading_68 : decode cX12_reading 68 = .ok (.iload_n 1, 1) := by decide +kernel
theorem dX12_reading_69 : decode cX12_reading 69 = .ok (.iastore, 1) := by decide +kernel
theorem dX12_reading_70 : decode cX12_reading 70 = .ok (.aload_n 0, 1) := by decide +kernel
theorem dX12_reading_71 : decode cX12_reading 71 = .ok (.getfield 7, 3) := by decide +kernel
theorem dX12_reading_74 : decode cX12_reading 74 = .ok (.iload 4, 2) := by decide +kernel
theorem dX12_reading_76 : decode cX12_reading 76 = .ok (.iconst 1, 1) := by decide +kernel
theorem dX12_reading_77 : decode cX12_reading 77 = .ok (.iadd, 1) := by decide +kernel
theorem dX12_reading_78 : decode cX12_reading 78 = .ok (.iload_n 2, 1) := by decide +kernel
theorem dX12_reading_79 : decode cX12_reading 79 = .ok (.iastore, 1) := by decide +kernel
theorem dX12_reading_80 : decode cX12_reading 80 = .ok (.aload_n 0, 1) := by decide +kernel
theorem dX12_reading_81 : decode cX12_reading 81 = .ok (.getfield 7, 3) := by decide +kernel
theorem dX12_reading_84 : decode cX12_reading 84 = .ok (.iload 4, 2) := by decide +kernel
theorem dX12_reading_86 : decode cX12_reading 86 = .ok (.iconst 2, 1) := by decide +kernel
theorem dX12_reading_87 : decode cX12_reading 87 = .ok (.iadd, 1) := by decide +kernel
theorem dX12_reading_88 : decode cX12_reading 88 = .ok (.iload_n 3, 1) := by decide +kernel
theorem dX12_reading_89 : decode cX12_reading 89 = .ok (.iastore, 1) := by decide +kernel
theorem dX12_reading_90 : decode cX12_reading 90 = .ok (.aload_n 0, 1) := by decide +kernel
theorem dX12_reading_91 : decode cX12_reading 91 = .ok (.getfield 7, 3) := by decide +kernel
theorem dX12_reading_94 : decode cX12_reading 94 = .ok (.iconst 4, 1) := by decide +kernel
theorem dX12_reading_95 : decode cX12_reading 95 = .ok (.dup2, 1) := by decide +kernel
theorem dX12_reading_96 : decode cX12_reading 96 = .ok (.iaload, 1) := by decide +kernel
theorem dX12_reading_97 : decode cX12_reading 97 = .ok (.iconst 1, 1) := by decide +kernel
theorem dX12_reading_98 : decode cX12_reading 98 = .ok (.iadd, 1) := by decide +kernel
theorem dX12_reading_99 : decode cX12_reading 99 = .ok (.iastore, 1) := by decide +kernel
theorem dX12_reading_100 : decode cX12_reading 100 = .ok (.aload_n 0, 1) := by decide +kernel
theorem dX12_reading_101 : decode cX12_reading 101 = .ok (.getfield 7, 3) := by decide +kernel
theorem dX12_reading_104 : decode cX12_reading 104 = .ok (.iconst 4, 1) := by decide +kernel
theorem dX12_reading_105 : decode cX12_reading 105 = .ok (.iaload, 1) := by decide +kernel
theorem dX12_reading_106 : decode cX12_reading 106 = .ok (.ireturn, 1) := by decide +kernel
theorem dX12_burnt_0 : decode cX12_burnt 0 = .ok (.aload_n 0, 1) := by decide +kernel
theorem dX12_burnt_1 : decode cX12_burnt 1 = .ok (.getfield 7, 3) := by decide +kernel
theorem dX12_burnt_4 : decode cX12_burnt 4 = .ok (.iconst 4, 1) := by decide +kernel
theorem dX12_burnt_5 : decode cX12_burnt 5 = .ok (.iaload, 1) := by decide +kernel
theorem dX12_burnt_6 : decode cX12_burnt 6 = .ok (.istore_n 1, 1) := by decide +kernel
theorem dX12_burnt_7 : decode cX12_burnt 7 = .ok (.aload_n 0, 1) := by decide +kernel
theorem dX12_burnt_8 : decode cX12_burnt 8 = .ok (.getfield 7, 3) := by decide +kernel
theorem dX12_burnt_11 : decode cX12_burnt 11 = .ok (.iconst 4, 1) := by decide +kernel
theorem dX12_burnt_12 : decode cX12_burnt 12 = .ok (.iconst 0, 1) := by decide +kernel
theorem dX12_burnt_13 : decode cX12_burnt 13 = .ok (.iastore, 1) := by decide +kernel
theorem dX12_burnt_14 : decode cX12_burnt 14 = .ok (.iload_n 1, 1) := by decide +kernel
theorem dX12_burnt_15 : decode cX12_burnt 15 = .ok (.ireturn, 1) := by decide +kernel
theorem dX12_areSo_0 : decode cX12_areSo 0 = .ok (.iconst 1, 1) := by decide +kernel
theorem dX12_areSo_1 : decode cX12_areSo 1 = .ok (.istore_n 1, 1) := by decide +kernel
theorem dX12_areSo_2 : decode cX12_areSo 2 = .ok (.iconst 0, 1) := by decide +kernel
theorem dX12_areSo_3 : decode cX12_areSo 3 = .ok (.istore_n 2, 1) := by decide +kernel
theorem dX12_areSo_4 : decode cX12_areSo 4 = .ok (.iload_n 2, 1) := by decide +kernel
theorem dX12_areSo_5 : decode cX12_areSo 5 = .ok (.aload_n 0, 1) := by decide +kernel
theorem dX12_areSo_6 : decode cX12_areSo 6 = .ok (.getfield 7, 3) := by decide +kernel
theorem dX12_areSo_9 : decode cX12_areSo 9 = .ok (.iconst 4, 1) := by decide +kernel
theorem dX12_areSo_10 : decode cX12_areSo 10 = .ok (.iaload, 1) := by decide +kernel
theorem dX12_areSo_11 : decode cX12_areSo 11 = .ok (.if_icmp .ge 55, 3) := by decide +kernel
theorem dX12_areSo_14 : decode cX12_areSo 14 = .ok (.iload_n 1, 1) := by decide +kernel
theorem dX12_areSo_15 : decode cX12_areSo 15 = .ok (.ifCond .eq 51, 3) := by decide +kernel
theorem dX12_areSo_18 : decode cX12_areSo 18 = .ok (.bipush 47, 2) := by decide +kernel
theorem dX12_areSo_20 : decode cX12_areSo 20 = .ok (.iconst 3, 1) := by decide +kernel
theorem dX12_areSo_21 : decode cX12_areSo 21 = .ok (.iload_n 2, 1) := by decide +kernel
theorem dX12_areSo_22 : decode cX12_areSo 22 = .ok (.imul, 1) := by decide +kernel
theorem dX12_areSo_23 : decode cX12_areSo 23 = .ok (.iadd, 1) := by decide +kernel
theorem dX12_areSo_24 : decode cX12_areSo 24 = .ok (.istore_n 3, 1) := by decide +kernel
theorem dX12_areSo_25 : decode cX12_areSo 25 = .ok (.aload_n 0, 1) := by decide +kernel
theorem dX12_areSo_26 : decode cX12_areSo 26 = .ok (.aload_n 0, 1) := by decide +kernel
theorem dX12_areSo_27 : decode cX12_areSo 27 = .ok (.getfield 7, 3) := by decide +kernel
theorem dX12_areSo_30 : decode cX12_areSo 30 = .ok (.iload_n 3, 1) := by decide +kernel
theorem dX12_areSo_31 : decode cX12_areSo 31 = .ok (.iaload, 1) := by decide +kernel
theorem dX12_areSo_32 : decode cX12_areSo 32 = .ok (.aload_n 0, 1) := by decide +kernel
theorem dX12_areSo_33 : decode cX12_areSo 33 = .ok (.getfield 7, 3) := by decide +kernel
theorem dX12_areSo_36 : decode cX12_areSo 36 = .ok (.iload_n 3, 1) := by decide +kernel
theorem dX12_areSo_37 : decode cX12_areSo 37 = .ok (.iconst 1, 1) := by decide +kernel
theorem dX12_areSo_38 : decode cX12_areSo 38 = .ok (.iadd, 1) := by decide +kernel
theorem dX12_areSo_39 : decode cX12_areSo 39 = .ok (.iaload, 1) := by decide +kernel
theorem dX12_areSo_40 : decode cX12_areSo 40 = .ok (.invokevirtual 143, 3) := by decide +kernel
theorem dX12_areSo_43 : decode cX12_areSo 43 = .ok (.aload_n 0, 1) := by decide +kernel
theorem dX12_areSo_44 : decode cX12_areSo 44 = .ok (.getfield 7, 3) := by decide +kernel
theorem dX12_areSo_47 : decode cX12_areSo 47 = .ok (.iload_n 3, 1) := by decide +kernel
theorem dX12_areSo_48 : decode cX12_areSo 48 = .ok (.iconst 2, 1) := by decide +kernel
theorem dX12_areSo_49 : decode cX12_areSo 49 = .ok (.iadd, 1) := by decide +kernel
theorem dX12_areSo_50 : decode cX12_areSo 50 = .ok (.iaload, 1) := by decide +kernel
theorem dX12_areSo_51 : decode cX12_areSo 51 = .ok (.if_icmp .ne 7, 3) := by decide +kernel
theorem dX12_areSo_54 : decode cX12_areSo 54 = .ok (.iconst 1, 1) := by decide +kernel
theorem dX12_areSo_55 : decode cX12_areSo 55 = .ok (.goto 4, 3) := by decide +kernel
theorem dX12_areSo_58 : decode cX12_areSo 58 = .ok (.iconst 0, 1) := by decide +kernel
theorem dX12_areSo_59 : decode cX12_areSo 59 = .ok (.istore_n 1, 1) := by decide +kernel
theorem dX12_areSo_60 : decode cX12_areSo 60 = .ok (.iinc 2 1, 3) := by decide +kernel
theorem dX12_areSo_63 : decode cX12_areSo 63 = .ok (.goto (-59), 3) := by decide +kernel
theorem dX12_areSo_66 : decode cX12_areSo 66 = .ok (.iload_n 1, 1) := by decide +kernel
theorem dX12_areSo_67 : decode cX12_areSo 67 = .ok (.ireturn, 1) := by decide +kernel
theorem dX12_layFits_0 : decode cX12_layFits 0 = .ok (.aload_n 0, 1) := by decide +kernel
theorem dX12_layFits_1 : decode cX12_layFits 1 = .ok (.iconst 0, 1) := by decide +kernel
theorem dX12_layFits_2 : decode cX12_layFits 2 = .ok (.putfield 194, 3) := by decide +kernel
theorem dX12_layFits_5 : decode cX12_layFits 5 = .ok (.aload_n 0, 1) := by decide +kernel
theorem dX12_layFits_6 : decode cX12_layFits 6 = .ok (.invokevirtual 154, 3) := by decide +kernel
theorem dX12_layFits_9 : decode cX12_layFits 9 = .ok (.iconst 0, 1) := by decide +kernel
theorem dX12_layFits_10 : decode cX12_layFits 10 = .ok (.istore_n 1, 1) := by decide +kernel
theorem dX12_layFits_11 : decode cX12_layFits 11 = .ok (.iload_n 1, 1) := by decide +kernel
theorem dX12_layFits_12 : decode cX12_layFits 12 = .ok (.iconst 1, 1) := by decide +kernel
theorem dX12_layFits_13 : decode cX12_layFits 13 = .ok (.aload_n 0, 1) := by decide +kernel
theorem dX12_layFits_14 : decode cX12_layFits 14 = .ok (.invokevirtual 57, 3) := by decide +kernel
theorem dX12_layFits_17 : decode cX12_layFits 17 = .ok (.ishl, 1) := by decide +kernel
theorem dX12_layFits_18 : decode cX12_layFits 18 = .ok (.if_icmp .ge 47, 3) := by decide +kernel
theorem dX12_layFits_21 : decode cX12_layFits 21 = .ok (.aload_n 0, 1) := by decide +kernel
theorem dX12_layFits_22 : decode cX12_layFits 22 = .ok (.iload_n 1, 1) := by decide +kernel
theorem dX12_layFits_23 : decode cX12_layFits 23 = .ok (.putfield 126, 3) := by decide +kernel
theorem dX12_layFits_26 : decode cX12_layFits 26 = .ok (.aload_n 0, 1) := by decide +kernel
theorem dX12_layFits_27 : decode cX12_layFits 27 = .ok (.getfield 42, 3) := by decide +kernel
theorem dX12_layFits_30 : decode cX12_layFits 30 = .ok (.iload_n 1, 1) := by decide +kernel
theorem dX12_layFits_31 : decode cX12_layFits 31 = .ok (.aload_n 0, 1) := by decide +kernel
theorem dX12_layFits_32 : decode cX12_layFits 32 = .ok (.invokevirtual 197, 3) := by decide +kernel
theorem dX12_layFits_35 : decode cX12_layFits 35 = .ok (.bastore, 1) := by decide +kernel
theorem dX12_layFits_36 : decode cX12_layFits 36 = .ok (.aload_n 0, 1) := by decide +kernel
theorem dX12_layFits_37 : decode cX12_layFits 37 = .ok (.dup, 1) := by decide +kernel
theorem dX12_layFits_38 : decode cX12_layFits 38 = .ok (.getfield 194, 3) := by decide +kernel
theorem dX12_layFits_41 : decode cX12_layFits 41 = .ok (.aload_n 0, 1) := by decide +kernel
theorem dX12_layFits_42 : decode cX12_layFits 42 = .ok (.getfield 42, 3) := by decide +kernel
theorem dX12_layFits_45 : decode cX12_layFits 45 = .ok (.iload_n 1, 1) := by decide +kernel
theorem dX12_layFits_46 : decode cX12_layFits 46 = .ok (.baload, 1) := by decide +kernel
theorem dX12_layFits_47 : decode cX12_layFits 47 = .ok (.ifCond .eq 7, 3) := by decide +kernel
theorem dX12_layFits_50 : decode cX12_layFits 50 = .ok (.iconst 1, 1) := by decide +kernel
theorem dX12_layFits_51 : decode cX12_layFits 51 = .ok (.goto 4, 3) := by decide +kernel
theorem dX12_layFits_54 : decode cX12_layFits 54 = .ok (.iconst 0, 1) := by decide +kernel
theorem dX12_layFits_55 : decode cX12_layFits 55 = .ok (.iadd, 1) := by decide +kernel
theorem dX12_layFits_56 : decode cX12_layFits 56 = .ok (.putfield 194, 3) := by decide +kernel
theorem dX12_layFits_59 : decode cX12_layFits 59 = .ok (.iinc 1 1, 3) := by decide +kernel
theorem dX12_layFits_62 : decode cX12_layFits 62 = .ok (.goto (-51), 3) := by decide +kernel
theorem dX12_layFits_65 : decode cX12_layFits 65 = .ok (.return_, 1) := by decide +kernel
theorem dX12_burn_0 : decode cX12_burn 0 = .ok (.iload_n 1, 1) := by decide +kernel
theorem dX12_burn_1 : decode cX12_burn 1 = .ok (.i2l, 1) := by decide +kernel
theorem dX12_burn_2 : decode cX12_burn 2 = .ok (.lconst 0, 1) := by decide +kernel
theorem dX12_burn_3 : decode cX12_burn 3 = .ok (.lconst 1, 1) := by decide +kernel
theorem dX12_burn_4 : decode cX12_burn 4 = .ok (.invokestatic 61, 3) := by decide +kernel
theorem dX12_burn_7 : decode cX12_burn 7 = .ok (.ifCond .ne 10, 3) := by decide +kernel
theorem dX12_burn_10 : decode cX12_burn 10 = .ok (.aload_n 0, 1) := by decide +kernel
theorem dX12_burn_11 : decode cX12_burn 11 = .ok (.bipush (-10), 2) := by decide +kernel
theorem dX12_burn_13 : decode cX12_burn 13 = .ok (.invokevirtual 75, 3) := by decide +kernel
theorem dX12_burn_16 : decode cX12_burn 16 = .ok (.ireturn, 1) := by decide +kernel
theorem dX12_burn_17 : decode cX12_burn 17 = .ok (.iconst 1, 1) := by decide +kernel
theorem dX12_burn_18 : decode cX12_burn 18 = .ok (.aload_n 0, 1) := by decide +kernel
theorem dX12_burn_19 : decode cX12_burn 19 = .ok (.invokevirtual 57, 3) := by decide +kernel
theorem dX12_burn_22 : decode cX12_burn 22 = .ok (.ishl, 1) := by decide +kernel
theorem dX12_burn_23 : decode cX12_burn 23 = .ok (.iconst 1, 1) := by decide +kernel
theorem dX12_burn_24 : decode cX12_burn 24 = .ok (.isub, 1) := by decide +kernel
theorem dX12_burn_25 : decode cX12_burn 25 = .ok (.istore_n 2, 1) := by decide +kernel
theorem dX12_burn_26 : decode cX12_burn 26 = .ok (.aload_n 0, 1) := by decide +kernel
theorem dX12_burn_27 : decode cX12_burn 27 = .ok (.invokevirtual 201, 3) := by decide +kernel
theorem dX12_burn_30 : decode cX12_burn 30 = .ok (.iconst 0, 1) := by decide +kernel
theorem dX12_burn_31 : decode cX12_burn 31 = .ok (.istore_n 3, 1) := by decide +kernel
theorem dX12_burn_32 : decode cX12_burn 32 = .ok (.iload_n 3, 1) := by decide +kernel
theorem dX12_burn_33 : decode cX12_burn 33 = .ok (.iconst 1, 1) := by decide +kernel
theorem dX12_burn_34 : decode cX12_burn 34 = .ok (.aload_n 0, 1) := by decide +kernel
theorem dX12_burn_35 : decode cX12_burn 35 = .ok (.invokevirtual 57, 3) := by decide +kernel
theorem dX12_burn_38 : decode cX12_burn 38 = .ok (.ishl, 1) := by decide +kernel
theorem dX12_burn_39 : decode cX12_burn 39 = .ok (.if_icmp .ge 26, 3) := by decide +kernel
theorem dX12_burn_42 : decode cX12_burn 42 = .ok (.iload_n 2, 1) := by decide +kernel
theorem dX12_burn_43 : decode cX12_burn 43 = .ok (.aload_n 0, 1) := by decide +kernel
theorem dX12_burn_44 : decode cX12_burn 44 = .ok (.getfield 42, 3) := by decide +kernel
theorem dX12_burn_47 : decode cX12_burn 47 = .ok (.iload_n 3, 1) := by decide +kernel
theorem dX12_burn_48 : decode cX12_burn 48 = .ok (.baload, 1) := by decide +kernel
theorem dX12_burn_49 : decode cX12_burn 49 = .ok (.ifCond .eq 7, 3) := by decide +kernel
theorem dX12_burn_52 : decode cX12_burn 52 = .ok (.iload_n 3, 1) := by decide +kernel
theorem dX12_burn_53 : decode cX12_burn 53 = .ok (.goto 4, 3) := by decide +kernel
theorem dX12_burn_56 : decode cX12_burn 56 = .ok (.iconst (-1), 1) := by decide +kernel
theorem dX12_burn_57 : decode cX12_burn 57 = .ok (.iand, 1) := by decide +kernel
theorem dX12_burn_58 : decode cX12_burn 58 = .ok (.istore_n 2, 1) := by decide +kernel
theorem dX12_burn_59 : decode cX12_burn 59 = .ok (.iinc 3 1, 3) := by decide +kernel
theorem dX12_burn_62 : decode cX12_burn 62 = .ok (.goto (-30), 3) := by decide +kernel
theorem dX12_burn_65 : decode cX12_burn 65 = .ok (.iload_n 1, 1) := by decide +kernel
theorem dX12_burn_66 : decode cX12_burn 66 = .ok (.ifCond .ne 10, 3) := by decide +kernel
theorem dX12_burn_69 : decode cX12_burn 69 = .ok (.aload_n 0, 1) := by decide +kernel
theorem dX12_burn_70 : decode cX12_burn 70 = .ok (.getfield 194, 3) := by decide +kernel
theorem dX12_burn_73 : decode cX12_burn 73 = .ok (.goto 15, 3) := by decide +kernel
theorem dX12_burn_76 : decode cX12_burn 76 = .ok (.aload_n 0, 1) := by decide +kernel
theorem dX12_burn_77 : decode cX12_burn 77 = .ok (.getfield 194, 3) := by decide +kernel
theorem dX12_burn_80 : decode cX12_burn 80 = .ok (.ifCond .ne 7, 3) := by decide +kernel
theorem dX12_burn_83 : decode cX12_burn 83 = .ok (.iconst (-1), 1) := by decide +kernel
theorem dX12_burn_84 : decode cX12_burn 84 = .ok (.goto 4, 3) := by decide +kernel
theorem dX12_burn_87 : decode cX12_burn 87 = .ok (.iload_n 2, 1) := by decide +kernel
theorem dX12_burn_88 : decode cX12_burn 88 = .ok (.ireturn, 1) := by decide +kernel
theorem dX12_mostLike_0 : decode cX12_mostLike 0 = .ok (.iconst 0, 1) := by decide +kernel
theorem dX12_mostLike_1 : decode cX12_mostLike 1 = .ok (.istore_n 3, 1) := by decide +kernel
theorem dX12_mostLike_2 : decode cX12_mostLike 2 = .ok (.iconst 0, 1) := by decide +kernel
theorem dX12_mostLike_3 : decode cX12_mostLike 3 = .ok (.istore 4, 2) := by decide +kernel
theorem dX12_mostLike_5 : decode cX12_mostLike 5 = .ok (.iload 4, 2) := by decide +kernel
theorem dX12_mostLike_7 : decode cX12_mostLike 7 = .ok (.bipush 24, 2) := by decide +kernel
theorem dX12_mostLike_9 : decode cX12_mostLike 9 = .ok (.if_icmp .ge 17, 3) := by decide +kernel
theorem dX12_mostLike_12 : decode cX12_mostLike 12 = .ok (.aload_n 0, 1) := by decide +kernel
theorem dX12_mostLike_13 : decode cX12_mostLike 13 = .ok (.getfield 45, 3) := by decide +kernel
theorem dX12_mostLike_16 : decode cX12_mostLike 16 = .ok (.iload 4, 2) := by decide +kernel
theorem dX12_mostLike_18 : decode cX12_mostLike 18 = .ok (.iconst 0, 1) := by decide +kernel
theorem dX12_mostLike_19 : decode cX12_mostLike 19 = .ok (.iastore, 1) := by decide +kernel
theorem dX12_mostLike_20 : decode cX12_mostLike 20 = .ok (.iinc 4 1, 3) := by decide +kernel
theorem dX12_mostLike_23 : decode cX12_mostLike 23 = .ok (.goto (-18), 3) := by decide +kernel
theorem dX12_mostLike_26 : decode cX12_mostLike 26 = .ok (.iconst 0, 1) := by decide +kernel
theorem dX12_mostLike_27 : decode cX12_mostLike 27 = .ok (.istore 4, 2) := by decide +kernel
theorem dX12_mostLike_29 : decode cX12_mostLike 29 = .ok (.iload 4, 2) := by decide +kernel
theorem dX12_mostLike_31 : decode cX12_mostLike 31 = .ok (.iconst 1, 1) := by decide +kernel
theorem dX12_mostLike_32 : decode cX12_mostLike 32 = .ok (.aload_n 0, 1) := by decide +kernel
theorem dX12_mostLike_33 : decode cX12_mostLike 33 = .ok (.invokevirtual 57, 3) := by decide +kernel
theorem dX12_mostLike_36 : decode cX12_mostLike 36 = .ok (.ishl, 1) := by decide +kernel
theorem dX12_mostLike_37 : decode cX12_mostLike 37 = .ok (.if_icmp .ge 67, 3) := by decide +kernel
theorem dX12_mostLike_40 : decode cX12_mostLike 40 = .ok (.aload_n 0, 1) := by decide +kernel
theorem dX12_mostLike_41 : decode cX12_mostLike 41 = .ok (.getfield 42, 3) := by decide +kernel
theorem dX12_mostLike_44 : decode cX12_mostLike 44 = .ok (.iload 4, 2) := by decide +kernel
theorem dX12_mostLike_46 : decode cX12_mostLike 46 = .ok (.baload, 1) := by decide +kernel
theorem dX12_mostLike_47 : decode cX12_mostLike 47 = .ok (.ifCond .eq 51, 3) := by decide +kernel
theorem dX12_mostLike_50 : decode cX12_mostLike 50 = .ok (.aload_n 0, 1) := by decide +kernel
theorem dX12_mostLike_51 : decode cX12_mostLike 51 = .ok (.iload 4, 2) := by decide +kernel
theorem dX12_mostLike_53 : decode cX12_mostLike 53 = .ok (.putfield 126, 3) := by decide +kernel
theorem dX12_mostLike_56 : decode cX12_mostLike 56 = .ok (.aload_n 0, 1) := by decide +kernel
theorem dX12_mostLike_57 : decode cX12_mostLike 57 = .ok (.iload_n 1, 1) := by decide +kernel
theorem dX12_mostLike_58 : decode cX12_mostLike 58 = .ok (.iload_n 2, 1) := by decide +kernel
theorem dX12_mostLike_59 : decode cX12_mostLike 59 = .ok (.invokevirtual 143, 3) := by decide +kernel
theorem dX12_mostLike_62 : decode cX12_mostLike 62 = .ok (.istore 5, 2) := by decide +kernel
theorem dX12_mostLike_64 : decode cX12_mostLike 64 = .ok (.aload_n 0, 1) := by decide +kernel
theorem dX12_mostLike_65 : decode cX12_mostLike 65 = .ok (.getfield 45, 3) := by decide +kernel
theorem dX12_mostLike_68 : decode cX12_mostLike 68 = .ok (.iload 5, 2) := by decide +kernel
theorem dX12_mostLike_70 : decode cX12_mostLike 70 = .ok (.dup2, 1) := by decide +kernel
theorem dX12_mostLike_71 : decode cX12_mostLike 71 = .ok (.iaload, 1) := by decide +kernel
theorem dX12_mostLike_72 : decode cX12_mostLike 72 = .ok (.iconst 1, 1) := by decide +kernel
theorem dX12_mostLike_73 : decode cX12_mostLike 73 = .ok (.iadd, 1) := by decide +kernel
theorem dX12_mostLike_74 : decode cX12_mostLike 74 = .ok (.iastore, 1) := by decide +kernel
theorem dX12_mostLike_75 : decode cX12_mostLike 75 = .ok (.aload_n 0, 1) := by decide +kernel
theorem dX12_mostLike_76 : decode cX12_mostLike 76 = .ok (.getfield 45, 3) := by decide +kernel
theorem dX12_mostLike_79 : decode cX12_mostLike 79 = .ok (.iload 5, 2) := by decide +kernel
theorem dX12_mostLike_81 : decode cX12_mostLike 81 = .ok (.iaload, 1) := by decide +kernel
theorem dX12_mostLike_82 : decode cX12_mostLike 82 = .ok (.iload_n 3, 1) := by decide +kernel
theorem dX12_mostLike_83 : decode cX12_mostLike 83 = .ok (.if_icmp .le 13, 3) := by decide +kernel
theorem dX12_mostLike_86 : decode cX12_mostLike 86 = .ok (.aload_n 0, 1) := by decide +kernel
theorem dX12_mostLike_87 : decode cX12_mostLike 87 = .ok (.getfield 45, 3) := by decide +kernel
theorem dX12_mostLike_90 : decode cX12_mostLike 90 = .ok (.iload 5, 2) := by decide +kernel
theorem dX12_mostLike_92 : decode cX12_mostLike 92 = .ok (.iaload, 1) := by decide +kernel
theorem dX12_mostLike_93 : decode cX12_mostLike 93 = .ok (.goto 4, 3) := by decide +kernel
theorem dX12_mostLike_96 : decode cX12_mostLike 96 = .ok (.iload_n 3, 1) := by decide +kernel
theorem dX12_mostLike_97 : decode cX12_mostLike 97 = .ok (.istore_n 3, 1) := by decide +kernel
theorem dX12_mostLike_98 : decode cX12_mostLike 98 = .ok (.iinc 4 1, 3) := by decide +kernel
theorem dX12_mostLike_101 : decode cX12_mostLike 101 = .ok (.goto (-72), 3) := by decide +kernel
theorem dX12_mostLike_104 : decode cX12_mostLike 104 = .ok (.iload_n 3, 1) := by decide +kernel
theorem dX12_mostLike_105 : decode cX12_mostLike 105 = .ok (.ireturn, 1) := by decide +kernel
theorem dX12_measure_0 : decode cX12_measure 0 = .ok (.iload_n 1, 1) := by decide +kernel
theorem dX12_measure_1 : decode cX12_measure 1 = .ok (.invokestatic 151, 3) := by decide +kernel
theorem dX12_measure_4 : decode cX12_measure 4 = .ok (.ifCond .ne 10, 3) := by decide +kernel
theorem dX12_measure_7 : decode cX12_measure 7 = .ok (.aload_n 0, 1) := by decide +kernel
theorem dX12_measure_8 : decode cX12_measure 8 = .ok (.bipush (-2), 2) := by decide +kernel
theorem dX12_measure_10 : decode cX12_measure 10 = .ok (.invokevirtual 75, 3) := by decide +kernel
theorem dX12_measure_13 : decode cX12_measure 13 = .ok (.ireturn, 1) := by decide +kernel
theorem dX12_measure_14 : decode cX12_measure 14 = .ok (.iconst (-1), 1) := by decide +kernel
theorem dX12_measure_15 : decode cX12_measure 15 = .ok (.istore_n 2, 1) := by decide +kernel
theorem dX12_measure_16 : decode cX12_measure 16 = .ok (.ldc 175, 2) := by decide +kernel
theorem dX12_measure_18 : decode cX12_measure 18 = .ok (.istore_n 3, 1) := by decide +kernel
theorem dX12_measure_19 : decode cX12_measure 19 = .ok (.aload_n 0, 1) := by decide +kernel
theorem dX12_measure_20 : decode cX12_measure 20 = .ok (.invokevirtual 201, 3) := by decide +kernel
theorem dX12_measure_23 : decode cX12_measure 23 = .ok (.iconst 0, 1) := by decide +kernel
theorem dX12_measure_24 : decode cX12_measure 24 = .ok (.istore 4, 2) := by decide +kernel
theorem dX12_measure_26 : decode cX12_measure 26 = .ok (.iload 4, 2) := by decide +kernel
theorem dX12_measure_28 : decode cX12_measure 28 = .ok (.bipush 64, 2) := by decide +kernel
theorem dX12_measure_30 : decode cX12_measure 30 = .ok (.if_icmp .ge 51, 3) := by decide +kernel
theorem dX12_measure_33 : decode cX12_measure 33 = .ok (.aload_n 0, 1) := by decide +kernel
theorem dX12_measure_34 : decode cX12_measure 34 = .ok (.getfield 194, 3) := by decide +kernel
theorem dX12_measure_37 : decode cX12_measure 37 = .ok (.ifCond .le 44, 3) := by decide +kernel
theorem dX12_measure_40 : decode cX12_measure 40 = .ok (.aload_n 0, 1) := by decide +kernel
theorem dX12_measure_41 : decode cX12_measure 41 = .ok (.iload 4, 2) := by decide +kernel
theorem dX12_measure_43 : decode cX12_measure 43 = .ok (.iload_n 1, 1) := by decide +kernel
theorem dX12_measure_44 : decode cX12_measure 44 = .ok (.invokevirtual 204, 3) := by decide +kernel
theorem dX12_measure_47 : decode cX12_measure 47 = .ok (.istore 5, 2) := by decide +kernel
theorem dX12_measure_49 : decode cX12_measure 49 = .ok (.iload 5, 2) := by decide +kernel
theorem dX12_measure_51 : decode cX12_measure 51 = .ok (.iload_n 3, 1) := by decide +kernel
theorem dX12_measure_52 : decode cX12_measure 52 = .ok (.if_icmp .ge 8, 3) := by decide +kernel
theorem dX12_measure_55 : decode cX12_measure 55 = .ok (.iload 4, 2) := by decide +kernel
theorem dX12_measure_57 : decode cX12_measure 57 = .ok (.goto 4, 3) := by decide +kernel
theorem dX12_measure_60 : decode cX12_measure 60 = .ok (.iload_n 2, 1) := by decide +kernel
theorem dX12_measure_61 : decode cX12_measure 61 = .ok (.istore_n 2, 1) := by decide +kernel
theorem dX12_measure_62 : decode cX12_measure 62 = .ok (.iload 5, 2) := by decide +kernel
theorem dX12_measure_64 : decode cX12_measure 64 = .ok (.iload_n 3, 1) := by decide +kernel
theorem dX12_measure_65 : decode cX12_measure 65 = .ok (.if_icmp .ge 8, 3) := by decide +kernel
theorem dX12_measure_68 : decode cX12_measure 68 = .ok (.iload 5, 2) := by decide +kernel
theorem dX12_measure_70 : decode cX12_measure 70 = .ok (.goto 4, 3) := by decide +kernel
theorem dX12_measure_73 : decode cX12_measure 73 = .ok (.iload_n 3, 1) := by decide +kernel
theorem dX12_measure_74 : decode cX12_measure 74 = .ok (.istore_n 3, 1) := by decide +kernel
theorem dX12_measure_75 : decode cX12_measure 75 = .ok (.iinc 4 1, 3) := by decide +kernel
theorem dX12_measure_78 : decode cX12_measure 78 = .ok (.goto (-52), 3) := by decide +kernel
theorem dX12_measure_81 : decode cX12_measure 81 = .ok (.iload_n 2, 1) := by decide +kernel
theorem dX12_measure_82 : decode cX12_measure 82 = .ok (.ireturn, 1) := by decide +kernel
theorem dX12_fraction_0 : decode cX12_fraction 0 = .ok (.lload_n 1, 1) := by decide +kernel
theorem dX12_fraction_1 : decode cX12_fraction 1 = .ok (.lstore 5, 2) := by decide +kernel
theorem dX12_fraction_3 : decode cX12_fraction 3 = .ok (.lload_n 3, 1) := by decide +kernel
theorem dX12_fraction_4 : decode cX12_fraction 4 = .ok (.lstore 7, 2) := by decide +kernel
theorem dX12_fraction_6 : decode cX12_fraction 6 = .ok (.lload 7, 2) := by decide +kernel
theorem dX12_fraction_8 : decode cX12_fraction 8 = .ok (.lconst 0, 1) := by decide +kernel
theorem dX12_fraction_9 : decode cX12_fraction 9 = .ok (.lcmp, 1) := by decide +kernel
theorem dX12_fraction_10 : decode cX12_fraction 10 = .ok (.ifCond .eq 21, 3) := by decide +kernel
theorem dX12_fraction_13 : decode cX12_fraction 13 = .ok (.lload 5, 2) := by decide +kernel
theorem dX12_fraction_15 : decode cX12_fraction 15 = .ok (.lload 7, 2) := by decide +kernel
theorem dX12_fraction_17 : decode cX12_fraction 17 = .ok (.lrem, 1) := by decide +kernel
theorem dX12_fraction_18 : decode cX12_fraction 18 = .ok (.lstore 9, 2) := by decide +kernel
theorem dX12_fraction_20 : decode cX12_fraction 20 = .ok (.lload 7, 2) := by decide +kernel
theorem dX12_fraction_22 : decode cX12_fraction 22 = .ok (.lstore 5, 2) := by decide +kernel
theorem dX12_fraction_24 : decode cX12_fraction 24 = .ok (.lload 9, 2) := by decide +kernel
theorem dX12_fraction_26 : decode cX12_fraction 26 = .ok (.lstore 7, 2) := by decide +kernel
theorem dX12_fraction_28 : decode cX12_fraction 28 = .ok (.goto (-22), 3) := by decide +kernel
theorem dX12_fraction_31 : decode cX12_fraction 31 = .ok (.aload_n 0, 1) := by decide +kernel
theorem dX12_fraction_32 : decode cX12_fraction 32 = .ok (.lload_n 1, 1) := by decide +kernel
theorem dX12_fraction_33 : decode cX12_fraction 33 = .ok (.lload 5, 2) := by decide +kernel
theorem dX12_fraction_35 : decode cX12_fraction 35 = .ok (.ldiv, 1) := by decide +kernel
theorem dX12_fraction_36 : decode cX12_fraction 36 = .ok (.putfield 207, 3) := by decide +kernel
theorem dX12_fraction_39 : decode cX12_fraction 39 = .ok (.aload_n 0, 1) := by decide +kernel
theorem dX12_fraction_40 : decode cX12_fraction 40 = .ok (.lload_n 3, 1) := by decide +kernel
theorem dX12_fraction_41 : decode cX12_fraction 41 = .ok (.lload 5, 2) := by decide +kernel
theorem dX12_fraction_43 : decode cX12_fraction 43 = .ok (.ldiv, 1) := by decide +kernel
theorem dX12_fraction_44 : decode cX12_fraction 44 = .ok (.putfield 23, 3) := by decide +kernel
theorem dX12_fraction_47 : decode cX12_fraction 47 = .ok (.return_, 1) := by decide +kernel
theorem dX12_draught_0 : decode cX12_draught 0 = .ok (.iload_n 1, 1) := by decide +kernel
theorem dX12_draught_1 : decode cX12_draught 1 = .ok (.invokestatic 85, 3) := by decide +kernel
theorem dX12_draught_4 : decode cX12_draught 4 = .ok (.ifCond .eq 35, 3) := by decide +kernel
theorem dX12_draught_7 : decode cX12_draught 7 = .ok (.iload_n 2, 1) := by decide +kernel
theorem dX12_draught_8 : decode cX12_draught 8 = .ok (.invokestatic 151, 3) := by decide +kernel
theorem dX12_draught_11 : decode cX12_draught 11 = .ok (.ifCond .eq 28, 3) := by decide +kernel
theorem dX12_draught_14 : decode cX12_draught 14 = .ok (.iload_n 3, 1) := by decide +kernel
theorem dX12_draught_15 : decode cX12_draught 15 = .ok (.i2l, 1) := by decide +kernel
theorem dX12_draught_16 : decode cX12_draught 16 = .ok (.lconst 0, 1) := by decide +kernel
theorem dX12_draught_17 : decode cX12_draught 17 = .ok (.ldc2_w 192, 3) := by decide +kernel
theorem dX12_draught_20 : decode cX12_draught 20 = .ok (.invokestatic 61, 3) := by decide +kernel
theorem dX12_draught_23 : decode cX12_draught 23 = .ok (.ifCond .eq 16, 3) := by decide +kernel
theorem dX12_draught_26 : decode cX12_draught 26 = .ok (.iload 4, 2) := by decide +kernel
theorem dX12_draught_28 : decode cX12_draught 28 = .ok (.i2l, 1) := by decide +kernel
theorem dX12_draught_29 : decode cX12_draught 29 = .ok (.lconst 0, 1) := by decide +kernel
theorem dX12_draught_30 : decode cX12_draught 30 = .ok (.ldc2_w 210, 3) := by decide +kernel
theorem dX12_draught_33 : decode cX12_draught 33 = .ok (.invokestatic 61, 3) := by decide +kernel
theorem dX12_draught_36 : decode cX12_draught 36 = .ok (.ifCond .ne 10, 3) := by decide +kernel
theorem dX12_draught_39 : decode cX12_draught 39 = .ok (.aload_n 0, 1) := by decide +kernel
theorem dX12_draught_40 : decode cX12_draught 40 = .ok (.bipush (-2), 2) := by decide +kernel
theorem dX12_draught_42 : decode cX12_draught 42 = .ok (.invokevirtual 75, 3) := by decide +kernel
theorem dX12_draught_45 : decode cX12_draught 45 = .ok (.ireturn, 1) := by decide +kernel
theorem dX12_draught_46 : decode cX12_draught 46 = .ok (.lconst 0, 1) := by decide +kernel
theorem dX12_draught_47 : decode cX12_draught 47 = .ok (.lstore 5, 2) := by decide +kernel
theorem dX12_draught_49 : decode cX12_draught 49 = .ok (.lconst 1, 1) := by decide +kernel
theorem dX12_draught_50 : decode cX12_draught 50 = .ok (.lstore 7, 2) := by decide +kernel
theorem dX12_draught_52 : decode cX12_draught 52 = .ok (.aload_n 0, 1) := by decide +kernel
theorem dX12_draught_53 : decode cX12_draught 53 = .ok (.invokevirtual 154, 3) := by decide +kernel
theorem dX12_draught_56 : decode cX12_draught 56 = .ok (.iconst 0, 1) := by decide +kernel
theorem dX12_draught_57 : decode cX12_draught 57 = .ok (.istore 9, 2) := by decide +kernel
theorem dX12_draught_59 : decode cX12_draught 59 = .ok (.iload 9, 2) := by decide +kernel
theorem dX12_draught_61 : decode cX12_draught 61 = .ok (.aload_n 0, 1) := by decide +kernel
theorem dX12_draught_62 : decode cX12_draught 62 = .ok (.getfield 7, 3) := by decide +kernel
theorem dX12_draught_65 : decode cX12_draught 65 = .ok (.iconst 2, 1) := by decide +kernel
theorem dX12_draught_66 : decode cX12_draught 66 = .ok (.iaload, 1) := by decide +kernel
theorem dX12_draught_67 : decode cX12_draught 67 = .ok (.invokestatic 162, 3) := by decide +kernel
theorem dX12_draught_70 : decode cX12_draught 70 = .ok (.if_icmp .ge 17, 3) := by decide +kernel
theorem dX12_draught_73 : decode cX12_draught 73 = .ok (.lload 7, 2) := by decide +kernel
theorem dX12_draught_75 : decode cX12_draught 75 = .ok (.ldc2_w 210, 3) := by decide +kernel
theorem dX12_draught_78 : decode cX12_draught 78 = .ok (.lmul, 1) := by decide +kernel
theorem dX12_draught_79 : decode cX12_draught 79 = .ok (.lstore 7, 2) := by decide +kernel
theorem dX12_draught_81 : decode cX12_draught 81 = .ok (.iinc 9 1, 3) := by decide +kernel
theorem dX12_draught_84 : decode cX12_draught 84 = .ok (.goto (-25), 3) := by decide +kernel
theorem dX12_draught_87 : decode cX12_draught 87 = .ok (.iconst 0, 1) := by decide +kernel
theorem dX12_draught_88 : decode cX12_draught 88 = .ok (.istore 9, 2) := by decide +kernel
theorem dX12_draught_90 : decode cX12_draught 90 = .ok (.iload 9, 2) := by decide +kernel
theorem dX12_draught_92 : decode cX12_draught 92 = .ok (.iconst 1, 1) := by decide +kernel
theorem dX12_draught_93 : decode cX12_draught 93 = .ok (.aload_n 0, 1) := by decide +kernel
theorem dX12_draught_94 : decode cX12_draught 94 = .ok (.invokevirtual 57, 3) := by decide +kernel
theorem dX12_draught_97 : decode cX12_draught 97 = .ok (.ishl, 1) := by decide +kernel
theorem dX12_draught_98 : decode cX12_draught 98 = .ok (.if_icmp .ge 113, 3) := by decide +kernel
theorem dX12_draught_101 : decode cX12_draught 101 = .ok (.aload_n 0, 1) := by decide +kernel
theorem dX12_draught_102 : decode cX12_draught 102 = .ok (.iload 9, 2) := by decide +kernel
theorem dX12_draught_104 : decode cX12_draught 104 = .ok (.putfield 126, 3) := by decide +kernel
theorem dX12_draught_107 : decode cX12_draught 107 = .ok (.iload 9, 2) := by decide +kernel
theorem dX12_draught_109 : decode cX12_draught 109 = .ok (.aload_n 0, 1) := by decide +kernel
theorem dX12_draught_110 : decode cX12_draught 110 = .ok (.getfield 7, 3) := by decide +kernel
theorem dX12_draught_113 : decode cX12_draught 113 = .ok (.iconst 2, 1) := by decide +kernel
theorem dX12_draught_114 : decode cX12_draught 114 = .ok (.iaload, 1) := by decide +kernel
theorem dX12_draught_115 : decode cX12_draught 115 = .ok (.iconst (-1), 1) := by decide +kernel
theorem dX12_draught_116 : decode cX12_draught 116 = .ok (.ixor, 1) := by decide +kernel
theorem dX12_draught_117 : decode cX12_draught 117 = .ok (.iand, 1) := by decide +kernel
theorem dX12_draught_118 : decode cX12_draught 118 = .ok (.ifCond .ne 87, 3) := by decide +kernel
theorem dX12_draught_121 : decode cX12_draught 121 = .ok (.aload_n 0, 1) := by decide +kernel
theorem dX12_draught_122 : decode cX12_draught 122 = .ok (.iload_n 1, 1) := by decide +kernel
theorem dX12_draught_123 : decode cX12_draught 123 = .ok (.iload_n 2, 1) := by decide +kernel
theorem dX12_draught_124 : decode cX12_draught 124 = .ok (.invokevirtual 143, 3) := by decide +kernel
theorem dX12_draught_127 : decode cX12_draught 127 = .ok (.iload_n 3, 1) := by decide +kernel
theorem dX12_draught_128 : decode cX12_draught 128 = .ok (.if_icmp .lt 77, 3) := by decide +kernel
theorem dX12_draught_131 : decode cX12_draught 131 = .ok (.lconst 1, 1) := by decide +kernel
theorem dX12_draught_132 : decode cX12_draught 132 = .ok (.lstore 10, 2) := by decide +kernel
theorem dX12_draught_134 : decode cX12_draught 134 = .ok (.iconst 0, 1) := by decide +kernel
theorem dX12_draught_135 : decode cX12_draught 135 = .ok (.istore 12, 2) := by decide +kernel
theorem dX12_draught_137 : decode cX12_draught 137 = .ok (.iload 12, 2) := by decide +kernel
theorem dX12_draught_139 : decode cX12_draught 139 = .ok (.aload_n 0, 1) := by decide +kernel
theorem dX12_draught_140 : decode cX12_draught 140 = .ok (.invokevirtual 57, 3) := by decide +kernel
theorem dX12_draught_143 : decode cX12_draught 143 = .ok (.if_icmp .ge 55, 3) := by decide +kernel
theorem dX12_draught_146 : decode cX12_draught 146 = .ok (.lload 10, 2) := by decide +kernel
theorem dX12_draught_148 : decode cX12_draught 148 = .ok (.aload_n 0, 1) := by decide +kernel
theorem dX12_draught_149 : decode cX12_draught 149 = .ok (.getfield 7, 3) := by decide +kernel
theorem dX12_draught_152 : decode cX12_draught 152 = .ok (.iconst 2, 1) := by decide +kernel
theorem dX12_draught_153 : decode cX12_draught 153 = .ok (.iaload, 1) := by decide +kernel
theorem dX12_draught_154 : decode cX12_draught 154 = .ok (.iload 12, 2) := by decide +kernel
theorem dX12_draught_156 : decode cX12_draught 156 = .ok (.ishr, 1) := by decide +kernel
theorem dX12_draught_157 : decode cX12_draught 157 = .ok (.iconst 1, 1) := by decide +kernel
theorem dX12_draught_158 : decode cX12_draught 158 = .ok (.iand, 1) := by decide +kernel
theorem dX12_draught_159 : decode cX12_draught 159 = .ok (.ifCond .ne 7, 3) := by decide +kernel
theorem dX12_draught_162 : decode cX12_draught 162 = .ok (.lconst 1, 1) := by decide +kernel
theorem dX12_draught_163 : decode cX12_draught 163 = .ok (.goto 26, 3) := by decide +kernel
theorem dX12_draught_166 : decode cX12_draught 166 = .ok (.iload 9, 2) := by decide +kernel
theorem dX12_draught_168 : decode cX12_draught 168 = .ok (.iload 12, 2) := by decide +kernel
theorem dX12_draught_170 : decode cX12_draught 170 = .ok (.ishr, 1) := by decide +kernel
theorem dX12_draught_171 : decode cX12_draught 171 = .ok (.iconst 1, 1) := by decide +kernel
theorem dX12_draught_172 : decode cX12_draught 172 = .ok (.iand, 1) := by decide +kernel
theorem dX12_draught_173 : decode cX12_draught 173 = .ok (.iconst 1, 1) := by decide +kernel
theorem dX12_draught_174 : decode cX12_draught 174 = .ok (.if_icmp .ne 12, 3) := by decide +kernel
theorem dX12_draught_177 : decode cX12_draught 177 = .ok (.bipush 10, 2) := by decide +kernel
theorem dX12_draught_179 : decode cX12_draught 179 = .ok (.iload 4, 2) := by decide +kernel
theorem dX12_draught_181 : decode cX12_draught 181 = .ok (.isub, 1) := by decide +kernel
theorem dX12_draught_182 : decode cX12_draught 182 = .ok (.i2l, 1) := by decide +kernel
theorem dX12_draught_183 : decode cX12_draught 183 = .ok (.goto 6, 3) := by decide +kernel
theorem dX12_draught_186 : decode cX12_draught 186 = .ok (.iload 4, 2) := by decide +kernel
theorem dX12_draught_188 : decode cX12_draught 188 = .ok (.i2l, 1) := by decide +kernel
theorem dX12_draught_189 : decode cX12_draught 189 = .ok (.lmul, 1) := by decide +kernel
theorem dX12_draught_190 : decode cX12_draught 190 = .ok (.lstore 10, 2) := by decide +kernel
theorem dX12_draught_192 : decode cX12_draught 192 = .ok (.iinc 12 1, 3) := by decide +kernel
theorem dX12_draught_195 : decode cX12_draught 195 = .ok (.goto (-58), 3) := by decide +kernel
theorem dX12_draught_198 : decode cX12_draught 198 = .ok (.lload 5, 2) := by decide +kernel
theorem dX12_draught_200 : decode cX12_draught 200 = .ok (.lload 10, 2) := by decide +kernel
theorem dX12_draught_202 : decode cX12_draught 202 = .ok (.ladd, 1) := by decide +kernel
theorem dX12_draught_203 : decode cX12_draught 203 = .ok (.lstore 5, 2) := by decide +kernel
theorem dX12_draught_205 : decode cX12_draught 205 = .ok (.iinc 9 1, 3) := by decide +kernel
theorem dX12_draught_208 : decode cX12_draught 208 = .ok (.goto (-118), 3) := by decide +kernel
theorem dX12_draught_211 : decode cX12_draught 211 = .ok (.aload_n 0, 1) := by decide +kernel
theorem dX12_draught_212 : decode cX12_draught 212 = .ok (.lload 5, 2) := by decide +kernel
theorem dX12_draught_214 : decode cX12_draught 214 = .ok (.lload 7, 2) := by decide +kernel
theorem dX12_draught_216 : decode cX12_draught 216 = .ok (.invokevirtual 212, 3) := by decide +kernel
theorem dX12_draught_219 : decode cX12_draught 219 = .ok (.iconst 1, 1) := by decide +kernel
theorem dX12_draught_220 : decode cX12_draught 220 = .ok (.ireturn, 1) := by decide +kernel
theorem dX12_nights_0 : decode cX12_nights 0 = .ok (.iload_n 1, 1) := by decide +kernel
theorem dX12_nights_1 : decode cX12_nights 1 = .ok (.invokestatic 92, 3) := by decide +kernel
theorem dX12_nights_4 : decode cX12_nights 4 = .ok (.ifCond .eq 40, 3) := by decide +kernel
theorem dX12_nights_7 : decode cX12_nights 7 = .ok (.iload_n 2, 1) := by decide +kernel
theorem dX12_nights_8 : decode cX12_nights 8 = .ok (.i2l, 1) := by decide +kernel
theorem dX12_nights_9 : decode cX12_nights 9 = .ok (.lconst 0, 1) := by decide +kernel
theorem dX12_nights_10 : decode cX12_nights 10 = .ok (.ldc2_w 216, 3) := by decide +kernel
theorem dX12_nights_13 : decode cX12_nights 13 = .ok (.invokestatic 61, 3) := by decide +kernel
theorem dX12_nights_16 : decode cX12_nights 16 = .ok (.ifCond .eq 28, 3) := by decide +kernel
theorem dX12_nights_19 : decode cX12_nights 19 = .ok (.iload_n 3, 1) := by decide +kernel
theorem dX12_nights_20 : decode cX12_nights 20 = .ok (.i2l, 1) := by decide +kernel
theorem dX12_nights_21 : decode cX12_nights 21 = .ok (.lconst 0, 1) := by decide +kernel
theorem dX12_nights_22 : decode cX12_nights 22 = .ok (.ldc2_w 218, 3) := by decide +kernel
theorem dX12_nights_25 : decode cX12_nights 25 = .ok (.invokestatic 61, 3) := by decide +kernel
theorem dX12_nights_28 : decode cX12_nights 28 = .ok (.ifCond .eq 16, 3) := by decide +kernel
theorem dX12_nights_31 : decode cX12_nights 31 = .ok (.iload 4, 2) := by decide +kernel
theorem dX12_nights_33 : decode cX12_nights 33 = .ok (.i2l, 1) := by decide +kernel
theorem dX12_nights_34 : decode cX12_nights 34 = .ok (.lconst 0, 1) := by decide +kernel
theorem dX12_nights_35 : decode cX12_nights 35 = .ok (.ldc2_w 220, 3) := by decide +kernel
theorem dX12_nights_38 : decode cX12_nights 38 = .ok (.invokestatic 61, 3) := by decide +kernel
theorem dX12_nights_41 : decode cX12_nights 41 = .ok (.ifCond .ne 10, 3) := by decide +kernel
theorem dX12_nights_44 : decode cX12_nights 44 = .ok (.aload_n 0, 1) := by decide +kernel
theorem dX12_nights_45 : decode cX12_nights 45 = .ok (.bipush (-2), 2) := by decide +kernel
theorem dX12_nights_47 : decode cX12_nights 47 = .ok (.invokevirtual 75, 3) := by decide +kernel
theorem dX12_nights_50 : decode cX12_nights 50 = .ok (.ireturn, 1) := by decide +kernel
theorem dX12_nights_51 : decode cX12_nights 51 = .ok (.iload_n 2, 1) := by decide +kernel
theorem dX12_nights_52 : decode cX12_nights 52 = .ok (.i2l, 1) := by decide +kernel
theorem dX12_nights_53 : decode cX12_nights 53 = .ok (.lstore 5, 2) := by decide +kernel
theorem dX12_nights_55 : decode cX12_nights 55 = .ok (.iconst 0, 1) := by decide +kernel
theorem dX12_nights_56 : decode cX12_nights 56 = .ok (.istore 7, 2) := by decide +kernel
theorem dX12_nights_58 : decode cX12_nights 58 = .ok (.aload_n 0, 1) := by decide +kernel
theorem dX12_nights_59 : decode cX12_nights 59 = .ok (.invokevirtual 154, 3) := by decide +kernel
theorem dX12_nights_62 : decode cX12_nights 62 = .ok (.iconst 0, 1) := by decide +kernel
theorem dX12_nights_63 : decode cX12_nights 63 = .ok (.istore 8, 2) := by decide +kernel
theorem dX12_nights_65 : decode cX12_nights 65 = .ok (.iload 8, 2) := by decide +kernel
theorem dX12_nights_67 : decode cX12_nights 67 = .ok (.iload_n 3, 1) := by decide +kernel
theorem dX12_nights_68 : decode cX12_nights 68 = .ok (.if_icmp .ge 93, 3) := by decide +kernel
theorem dX12_nights_71 : decode cX12_nights 71 = .ok (.aload_n 0, 1) := by decide +kernel
theorem dX12_nights_72 : decode cX12_nights 72 = .ok (.iconst 0, 1) := by decide +kernel
theorem dX12_nights_73 : decode cX12_nights 73 = .ok (.putfield 126, 3) := by decide +kernel
theorem dX12_nights_76 : decode cX12_nights 76 = .ok (.iconst 0, 1) := by decide +kernel
theorem dX12_nights_77 : decode cX12_nights 77 = .ok (.istore 9, 2) := by decide +kernel
theorem dX12_nights_79 : decode cX12_nights 79 = .ok (.iload 9, 2) := by decide +kernel
theorem dX12_nights_81 : decode cX12_nights 81 = .ok (.aload_n 0, 1) := by decide +kernel
theorem dX12_nights_82 : decode cX12_nights 82 = .ok (.invokevirtual 57, 3) := by decide +kernel
theorem dX12_nights_85 : decode cX12_nights 85 = .ok (.if_icmp .ge 59, 3) := by decide +kernel
theorem dX12_nights_88 : decode cX12_nights 88 = .ok (.lload 5, 2) := by decide +kernel
theorem dX12_nights_90 : decode cX12_nights 90 = .ok (.ldc2_w 222, 3) := by decide +kernel
theorem dX12_nights_93 : decode cX12_nights 93 = .ok (.lmul, 1) := by decide +kernel
theorem dX12_nights_94 : decode cX12_nights 94 = .ok (.ldc2_w 224, 3) := by decide +kernel
theorem dX12_nights_97 : decode cX12_nights 97 = .ok (.ladd, 1) := by decide +kernel
theorem dX12_nights_98 : decode cX12_nights 98 = .ok (.ldc2_w 226, 3) := by decide +kernel
theorem dX12_nights_101 : decode cX12_nights 101 = .ok (.lrem, 1) := by decide +kernel
theorem dX12_nights_102 : decode cX12_nights 102 = .ok (.lstore 5, 2) := by decide +kernel
theorem dX12_nights_104 : decode cX12_nights 104 = .ok (.aload_n 0, 1) := by decide +kernel
theorem dX12_nights_105 : decode cX12_nights 105 = .ok (.dup, 1) := by decide +kernel
theorem dX12_nights_106 : decode cX12_nights 106 = .ok (.getfield 126, 3) := by decide +kernel
theorem dX12_nights_109 : decode cX12_nights 109 = .ok (.lload 5, 2) := by decide +kernel
theorem dX12_nights_111 : decode cX12_nights 111 = .ok (.ldc2_w 228, 3) := by decide +kernel
theorem dX12_nights_114 : decode cX12_nights 114 = .ok (.ldiv, 1) := by decide +kernel
theorem dX12_nights_115 : decode cX12_nights 115 = .ok (.ldc2_w 220, 3) := by decide +kernel
theorem dX12_nights_118 : decode cX12_nights 118 = .ok (.lrem, 1) := by decide +kernel
theorem dX12_nights_119 : decode cX12_nights 119 = .ok (.iload 4, 2) := by decide +kernel
theorem dX12_nights_121 : decode cX12_nights 121 = .ok (.i2l, 1) := by decide +kernel
theorem dX12_nights_122 : decode cX12_nights 122 = .ok (.lcmp, 1) := by decide +kernel
theorem dX12_nights_123 : decode cX12_nights 123 = .ok (.ifCond .ge 10, 3) := by decide +kernel
theorem dX12_nights_126 : decode cX12_nights 126 = .ok (.iconst 1, 1) := by decide +kernel
theorem dX12_nights_127 : decode cX12_nights 127 = .ok (.iload 9, 2) := by decide +kernel
theorem dX12_nights_129 : decode cX12_nights 129 = .ok (.ishl, 1) := by decide +kernel
theorem dX12_nights_130 : decode cX12_nights 130 = .ok (.goto 4, 3) := by decide +kernel
theorem dX12_nights_133 : decode cX12_nights 133 = .ok (.iconst 0, 1) := by decide +kernel
theorem dX12_nights_134 : decode cX12_nights 134 = .ok (.ior, 1) := by decide +kernel
theorem dX12_nights_135 : decode cX12_nights 135 = .ok (.putfield 126, 3) := by decide +kernel
theorem dX12_nights_138 : decode cX12_nights 138 = .ok (.iinc 9 1, 3) := by decide +kernel
theorem dX12_nights_141 : decode cX12_nights 141 = .ok (.goto (-62), 3) := by decide +kernel
theorem dX12_nights_144 : decode cX12_nights 144 = .ok (.iload 7, 2) := by decide +kernel
theorem dX12_nights_146 : decode cX12_nights 146 = .ok (.aload_n 0, 1) := by decide +kernel
theorem dX12_nights_147 : decode cX12_nights 147 = .ok (.iload_n 1, 1) := by decide +kernel
theorem dX12_nights_148 : decode cX12_nights 148 = .ok (.iconst 0, 1) := by decide +kernel
theorem dX12_nights_149 : decode cX12_nights 149 = .ok (.invokevirtual 172, 3) := by decide +kernel
theorem dX12_nights_152 : decode cX12_nights 152 = .ok (.iadd, 1) := by decide +kernel
theorem dX12_nights_153 : decode cX12_nights 153 = .ok (.istore 7, 2) := by decide +kernel
theorem dX12_nights_155 : decode cX12_nights 155 = .ok (.iinc 8 1, 3) := by decide +kernel
theorem dX12_nights_158 : decode cX12_nights 158 = .ok (.goto (-93), 3) := by decide +kernel
theorem dX12_nights_161 : decode cX12_nights 161 = .ok (.iload 7, 2) := by decide +kernel
theorem dX12_nights_163 : decode cX12_nights 163 = .ok (.ireturn, 1) := by decide +kernel
theorem dX12_type_0 : decode cX12_type 0 = .ok (.iload_n 1, 1) := by decide +kernel
theorem dX12_type_1 : decode cX12_type 1 = .ok (.i2l, 1) := by decide +kernel
theorem dX12_type_2 : decode cX12_type 2 = .ok (.lconst 0, 1) := by decide +kernel
theorem dX12_type_3 : decode cX12_type 3 = .ok (.ldc2_w 230, 3) := by decide +kernel
theorem dX12_type_6 : decode cX12_type 6 = .ok (.invokestatic 61, 3) := by decide +kernel
theorem dX12_type_9 : decode cX12_type 9 = .ok (.ifCond .ne 10, 3) := by decide +kernel
theorem dX12_type_12 : decode cX12_type 12 = .ok (.aload_n 0, 1) := by decide +kernel
theorem dX12_type_13 : decode cX12_type 13 = .ok (.bipush (-2), 2) := by decide +kernel
theorem dX12_type_15 : decode cX12_type 15 = .ok (.invokevirtual 75, 3) := by decide +kernel
theorem dX12_type_18 : decode cX12_type 18 = .ok (.ireturn, 1) := by decide +kernel
theorem dX12_type_19 : decode cX12_type 19 = .ok (.aload_n 0, 1) := by decide +kernel
theorem dX12_type_20 : decode cX12_type 20 = .ok (.getfield 232, 3) := by decide +kernel
theorem dX12_type_23 : decode cX12_type 23 = .ok (.sipush 150, 3) := by decide +kernel
theorem dX12_type_26 : decode cX12_type 26 = .ok (.if_icmp .ne 8, 3) := by decide +kernel
theorem dX12_type_29 : decode cX12_type 29 = .ok (.aload_n 0, 1) := by decide +kernel
theorem dX12_type_30 : decode cX12_type 30 = .ok (.invokevirtual 97, 3) := by decide +kernel
theorem dX12_type_33 : decode cX12_type 33 = .ok (.ireturn, 1) := by decide +kernel
theorem dX12_type_34 : decode cX12_type 34 = .ok (.aload_n 0, 1) := by decide +kernel
theorem dX12_type_35 : decode cX12_type 35 = .ok (.getfield 48, 3) := by decide +kernel
theorem dX12_type_38 : decode cX12_type 38 = .ok (.aload_n 0, 1) := by decide +kernel
theorem dX12_type_39 : decode cX12_type 39 = .ok (.getfield 232, 3) := by decide +kernel
theorem dX12_type_42 : decode cX12_type 42 = .ok (.iload_n 1, 1) := by decide +kernel
theorem dX12_type_43 : decode cX12_type 43 = .ok (.iastore, 1) := by decide +kernel
theorem dX12_type_44 : decode cX12_type 44 = .ok (.aload_n 0, 1) := by decide +kernel
theorem dX12_type_45 : decode cX12_type 45 = .ok (.dup, 1) := by decide +kernel
theorem dX12_type_46 : decode cX12_type 46 = .ok (.getfield 232, 3) := by decide +kernel
theorem dX12_type_49 : decode cX12_type 49 = .ok (.iconst 1, 1) := by decide +kernel
theorem dX12_type_50 : decode cX12_type 50 = .ok (.iadd, 1) := by decide +kernel
theorem dX12_type_51 : decode cX12_type 51 = .ok (.putfield 232, 3) := by decide +kernel
theorem dX12_type_54 : decode cX12_type 54 = .ok (.aload_n 0, 1) := by decide +kernel
theorem dX12_type_55 : decode cX12_type 55 = .ok (.getfield 232, 3) := by decide +kernel
theorem dX12_type_58 : decode cX12_type 58 = .ok (.ireturn, 1) := by decide +kernel
theorem dX12_clear_0 : decode cX12_clear 0 = .ok (.aload_n 0, 1) := by decide +kernel
theorem dX12_clear_1 : decode cX12_clear 1 = .ok (.getfield 232, 3) := by decide +kernel
theorem dX12_clear_4 : decode cX12_clear 4 = .ok (.istore_n 1, 1) := by decide +kernel
theorem dX12_clear_5 : decode cX12_clear 5 = .ok (.aload_n 0, 1) := by decide +kernel
theorem dX12_clear_6 : decode cX12_clear 6 = .ok (.iconst 0, 1) := by decide +kernel
theorem dX12_clear_7 : decode cX12_clear 7 = .ok (.putfield 232, 3) := by decide +kernel
theorem dX12_clear_10 : decode cX12_clear 10 = .ok (.iload_n 1, 1) := by decide +kernel
theorem dX12_clear_11 : decode cX12_clear 11 = .ok (.ireturn, 1) := by decide +kernel
theorem dX12_isSmall_0 : decode cX12_isSmall 0 = .ok (.iload_n 0, 1) := by decide +kernel
theorem dX12_isSmall_1 : decode cX12_isSmall 1 = .ok (.i2l, 1) := by decide +kernel
theorem dX12_isSmall_2 : decode cX12_isSmall 2 = .ok (.ldc2_w 235, 3) := by decide +kernel
theorem dX12_isSmall_5 : decode cX12_isSmall 5 = .ok (.ldc2_w 237, 3) := by decide +kernel
theorem dX12_isSmall_8 : decode cX12_isSmall 8 = .ok (.invokestatic 61, 3) := by decide +kernel
theorem dX12_isSmall_11 : decode cX12_isSmall 11 = .ok (.ireturn, 1) := by decide +kernel
theorem dX12_isFigure_0 : decode cX12_isFigure 0 = .ok (.iload_n 0, 1) := by decide +kernel
theorem dX12_isFigure_1 : decode cX12_isFigure 1 = .ok (.i2l, 1) := by decide +kernel
theorem dX12_isFigure_2 : decode cX12_isFigure 2 = .ok (.ldc2_w 239, 3) := by decide +kernel
theorem dX12_isFigure_5 : decode cX12_isFigure 5 = .ok (.ldc2_w 241, 3) := by decide +kernel
theorem dX12_isFigure_8 : decode cX12_isFigure 8 = .ok (.invokestatic 61, 3) := by decide +kernel
theorem dX12_isFigure_11 : decode cX12_isFigure 11 = .ok (.ireturn, 1) := by decide +kernel
theorem dX12_lookAt_0 : decode cX12_lookAt 0 = .ok (.aload_n 0, 1) := by decide +kernel
theorem dX12_lookAt_1 : decode cX12_lookAt 1 = .ok (.iload_n 1, 1) := by decide +kernel
theorem dX12_lookAt_2 : decode cX12_lookAt 2 = .ok (.putfield 243, 3) := by decide +kernel
theorem dX12_lookAt_5 : decode cX12_lookAt 5 = .ok (.aload_n 0, 1) := by decide +kernel
theorem dX12_lookAt_6 : decode cX12_lookAt 6 = .ok (.getfield 243, 3) := by decide +kernel
theorem dX12_lookAt_9 : decode cX12_lookAt 9 = .ok (.aload_n 0, 1) := by decide +kernel
theorem dX12_lookAt_10 : decode cX12_lookAt 10 = .ok (.getfield 232, 3) := by decide +kernel
theorem dX12_lookAt_13 : decode cX12_lookAt 13 = .ok (.if_icmp .ge 30, 3) := by decide +kernel
theorem dX12_lookAt_16 : decode cX12_lookAt 16 = .ok (.aload_n 0, 1) := by decide +kernel
theorem dX12_lookAt_17 : decode cX12_lookAt 17 = .ok (.getfield 48, 3) := by decide +kernel
theorem dX12_lookAt_20 : decode cX12_lookAt 20 = .ok (.aload_n 0, 1) := by decide +kernel
theorem dX12_lookAt_21 : decode cX12_lookAt 21 = .ok (.getfield 243, 3) := by decide +kernel
theorem dX12_lookAt_24 : decode cX12_lookAt 24 = .ok (.iaload, 1) := by decide +kernel
theorem dX12_lookAt_25 : decode cX12_lookAt 25 = .ok (.bipush 32, 2) := by decide +kernel
theorem dX12_lookAt_27 : decode cX12_lookAt 27 = .ok (.if_icmp .ne 16, 3) := by decide +kernel
theorem dX12_lookAt_30 : decode cX12_lookAt 30 = .ok (.aload_n 0, 1) := by decide +kernel
theorem dX12_lookAt_31 : decode cX12_lookAt 31 = .ok (.dup, 1) := by decide +kernel
theorem dX12_lookAt_32 : decode cX12_lookAt 32 = .ok (.getfield 243, 3) := by decide +kernel
theorem dX12_lookAt_35 : decode cX12_lookAt 35 = .ok (.iconst 1, 1) := by decide +kernel
theorem dX12_lookAt_36 : decode cX12_lookAt 36 = .ok (.iadd, 1) := by decide +kernel
theorem dX12_lookAt_37 : decode cX12_lookAt 37 = .ok (.putfield 243, 3) := by decide +kernel
theorem dX12_lookAt_40 : decode cX12_lookAt 40 = .ok (.goto (-35), 3) := by decide +kernel
theorem dX12_lookAt_43 : decode cX12_lookAt 43 = .ok (.aload_n 0, 1) := by decide +kernel
theorem dX12_lookAt_44 : decode cX12_lookAt 44 = .ok (.iconst 0, 1) := by decide +kernel
theorem dX12_lookAt_45 : decode cX12_lookAt 45 = .ok (.putfield 246, 3) := by decide +kernel
theorem dX12_lookAt_48 : decode cX12_lookAt 48 = .ok (.aload_n 0, 1) := by decide +kernel
theorem dX12_lookAt_49 : decode cX12_lookAt 49 = .ok (.iconst 0, 1) := by decide +kernel
theorem dX12_lookAt_50 : decode cX12_lookAt 50 = .ok (.putfield 249, 3) := by decide +kernel
theorem dX12_lookAt_53 : decode cX12_lookAt 53 = .ok (.aload_n 0, 1) := by decide +kernel
theorem dX12_lookAt_54 : decode cX12_lookAt 54 = .ok (.iconst 0, 1) := by decide +kernel
theorem dX12_lookAt_55 : decode cX12_lookAt 55 = .ok (.putfield 252, 3) := by decide +kernel
theorem dX12_lookAt_58 : decode cX12_lookAt 58 = .ok (.aload_n 0, 1) := by decide +kernel
theorem dX12_lookAt_59 : decode cX12_lookAt 59 = .ok (.getfield 243, 3) := by decide +kernel
theorem dX12_lookAt_62 : decode cX12_lookAt 62 = .ok (.aload_n 0, 1) := by decide +kernel
theorem dX12_lookAt_63 : decode cX12_lookAt 63 = .ok (.getfield 232, 3) := by decide +kernel
theorem dX12_lookAt_66 : decode cX12_lookAt 66 = .ok (.if_icmp .ne 4, 3) := by decide +kernel
theorem dX12_lookAt_69 : decode cX12_lookAt 69 = .ok (.return_, 1) := by decide +kernel
theorem dX12_lookAt_70 : decode cX12_lookAt 70 = .ok (.aload_n 0, 1) := by decide +kernel
theorem dX12_lookAt_71 : decode cX12_lookAt 71 = .ok (.getfield 48, 3) := by decide +kernel
theorem dX12_lookAt_74 : decode cX12_lookAt 74 = .ok (.aload_n 0, 1) := by decide +kernel
theorem dX12_lookAt_75 : decode cX12_lookAt 75 = .ok (.getfield 243, 3) := by decide +kernel
theorem dX12_lookAt_78 : decode cX12_lookAt 78 = .ok (.iaload, 1) := by decide +kernel
theorem dX12_lookAt_79 : decode cX12_lookAt 79 = .ok (.istore_n 2, 1) := by decide +kernel
theorem dX12_lookAt_80 : decode cX12_lookAt 80 = .ok (.aload_n 0, 1) := by decide +kernel
theorem dX12_lookAt_81 : decode cX12_lookAt 81 = .ok (.iload_n 2, 1) := by decide +kernel
theorem dX12_lookAt_82 : decode cX12_lookAt 82 = .ok (.invokestatic 255, 3) := by decide +kernel
theorem dX12_lookAt_85 : decode cX12_lookAt 85 = .ok (.ifCond .eq 7, 3) := by decide +kernel
theorem dX12_lookAt_88 : decode cX12_lookAt 88 = .ok (.iconst 1, 1) := by decide +kernel
theorem dX12_lookAt_89 : decode cX12_lookAt 89 = .ok (.goto 25, 3) := by decide +kernel
theorem dX12_lookAt_92 : decode cX12_lookAt 92 = .ok (.iload_n 2, 1) := by decide +kernel
theorem dX12_lookAt_93 : decode cX12_lookAt 93 = .ok (.invokestatic 258, 3) := by decide +kernel
theorem dX12_lookAt_96 : decode cX12_lookAt 96 = .ok (.ifCond .eq 7, 3) := by decide +kernel
theorem dX12_lookAt_99 : decode cX12_lookAt 99 = .ok (.iconst 2, 1) := by decide +kernel
theorem dX12_lookAt_100 : decode cX12_lookAt 100 = .ok (.goto 14, 3) := by decide +kernel
theorem dX12_lookAt_103 : decode cX12_lookAt 103 = .ok (.iload_n 2, 1) := by decide +kernel
theorem dX12_lookAt_104 : decode cX12_lookAt 104 = .ok (.bipush 59, 2) := by decide +kernel
theorem dX12_lookAt_106 : decode cX12_lookAt 106 = .ok (.if_icmp .ne 7, 3) := by decide +kernel
theorem dX12_lookAt_109 : decode cX12_lookAt 109 = .ok (.iconst 3, 1) := by decide +kernel
theorem dX12_lookAt_110 : decode cX12_lookAt 110 = .ok (.goto 4, 3) := by decide +kernel
theorem dX12_lookAt_113 : decode cX12_lookAt 113 = .ok (.iconst 4, 1) := by decide +kernel
theorem dX12_lookAt_114 : decode cX12_lookAt 114 = .ok (.putfield 249, 3) := by decide +kernel
theorem dX12_lookAt_117 : decode cX12_lookAt 117 = .ok (.aload_n 0, 1) := by decide +kernel
theorem dX12_lookAt_118 : decode cX12_lookAt 118 = .ok (.iconst 1, 1) := by decide +kernel
theorem dX12_lookAt_119 : decode cX12_lookAt 119 = .ok (.putfield 246, 3) := by decide +kernel
theorem dX12_lookAt_122 : decode cX12_lookAt 122 = .ok (.aload_n 0, 1) := by decide +kernel
theorem dX12_lookAt_123 : decode cX12_lookAt 123 = .ok (.getfield 249, 3) := by decide +kernel
theorem dX12_lookAt_126 : decode cX12_lookAt 126 = .ok (.iconst 3, 1) := by decide +kernel
theorem dX12_lookAt_127 : decode cX12_lookAt 127 = .ok (.if_icmp .ge 7, 3) := by decide +kernel
theorem dX12_lookAt_130 : decode cX12_lookAt 130 = .ok (.iconst 1, 1) := by decide +kernel
theorem dX12_lookAt_131 : decode cX12_lookAt 131 = .ok (.goto 4, 3) := by decide +kernel
theorem dX12_lookAt_134 : decode cX12_lookAt 134 = .ok (.iconst 0, 1) := by decide +kernel
theorem dX12_lookAt_135 : decode cX12_lookAt 135 = .ok (.istore_n 3, 1) := by decide +kernel
theorem dX12_lookAt_136 : decode cX12_lookAt 136 = .ok (.iload_n 3, 1) := by decide +kernel
theorem dX12_lookAt_137 : decode cX12_lookAt 137 = .ok (.ifCond .eq 78, 3) := by decide +kernel
theorem dX12_lookAt_140 : decode cX12_lookAt 140 = .ok (.aload_n 0, 1) := by decide +kernel
theorem dX12_lookAt_141 : decode cX12_lookAt 141 = .ok (.getfield 243, 3) := by decide +kernel
theorem dX12_lookAt_144 : decode cX12_lookAt 144 = .ok (.aload_n 0, 1) := by decide +kernel
theorem dX12_lookAt_145 : decode cX12_lookAt 145 = .ok (.getfield 246, 3) := by decide +kernel
theorem dX12_lookAt_148 : decode cX12_lookAt 148 = .ok (.iadd, 1) := by decide +kernel
theorem dX12_lookAt_149 : decode cX12_lookAt 149 = .ok (.aload_n 0, 1) := by decide +kernel
theorem dX12_lookAt_150 : decode cX12_lookAt 150 = .ok (.getfield 232, 3) := by decide +kernel
theorem dX12_lookAt_153 : decode cX12_lookAt 153 = .ok (.if_icmp .ge 62, 3) := by decide +kernel
theorem dX12_lookAt_156 : decode cX12_lookAt 156 = .ok (.aload_n 0, 1) := by decide +kernel
theorem dX12_lookAt_157 : decode cX12_lookAt 157 = .ok (.getfield 48, 3) := by decide +kernel
theorem dX12_lookAt_160 : decode cX12_lookAt 160 = .ok (.aload_n 0, 1) := by decide +kernel
theorem dX12_lookAt_161 : decode cX12_lookAt 161 = .ok (.getfield 243, 3) := by decide +kernel
theorem dX12_lookAt_164 : decode cX12_lookAt 164 = .ok (.aload_n 0, 1) := by decide +kernel
theorem dX12_lookAt_165 : decode cX12_lookAt 165 = .ok (.getfield 246, 3) := by decide +kernel
theorem dX12_lookAt_168 : decode cX12_lookAt 168 = .ok (.iadd, 1) := by decide +kernel
theorem dX12_lookAt_169 : decode cX12_lookAt 169 = .ok (.iaload, 1) := by decide +kernel
theorem dX12_lookAt_170 : decode cX12_lookAt 170 = .ok (.istore 4, 2) := by decide +kernel
theorem dX12_lookAt_172 : decode cX12_lookAt 172 = .ok (.aload_n 0, 1) := by decide +kernel
theorem dX12_lookAt_173 : decode cX12_lookAt 173 = .ok (.getfield 249, 3) := by decide +kernel
theorem dX12_lookAt_176 : decode cX12_lookAt 176 = .ok (.iconst 1, 1) := by decide +kernel
theorem dX12_lookAt_177 : decode cX12_lookAt 177 = .ok (.if_icmp .ne 11, 3) := by decide +kernel
theorem dX12_lookAt_180 : decode cX12_lookAt 180 = .ok (.iload 4, 2) := by decide +kernel
theorem dX12_lookAt_182 : decode cX12_lookAt 182 = .ok (.invokestatic 255, 3) := by decide +kernel
theorem dX12_lookAt_185 : decode cX12_lookAt 185 = .ok (.goto 8, 3) := by decide +kernel
theorem dX12_lookAt_188 : decode cX12_lookAt 188 = .ok (.iload 4, 2) := by decide +kernel
theorem dX12_lookAt_190 : decode cX12_lookAt 190 = .ok (.invokestatic 258, 3) := by decide +kernel
theorem dX12_lookAt_193 : decode cX12_lookAt 193 = .ok (.istore_n 3, 1) := by decide +kernel
theorem dX12_lookAt_194 : decode cX12_lookAt 194 = .ok (.aload_n 0, 1) := by decide +kernel
theorem dX12_lookAt_195 : decode cX12_lookAt 195 = .ok (.dup, 1) := by decide +kernel
theorem dX12_lookAt_196 : decode cX12_lookAt 196 = .ok (.getfield 246, 3) := by decide +kernel
theorem dX12_lookAt_199 : decode cX12_lookAt 199 = .ok (.iload_n 3, 1) := by decide +kernel
theorem dX12_lookAt_200 : decode cX12_lookAt 200 = .ok (.ifCond .eq 7, 3) := by decide +kernel
theorem dX12_lookAt_203 : decode cX12_lookAt 203 = .ok (.iconst 1, 1) := by decide +kernel
theorem dX12_lookAt_204 : decode cX12_lookAt 204 = .ok (.goto 4, 3) := by decide +kernel
theorem dX12_lookAt_207 : decode cX12_lookAt 207 = .ok (.iconst 0, 1) := by decide +kernel
theorem dX12_lookAt_208 : decode cX12_lookAt 208 = .ok (.iadd, 1) := by decide +kernel
theorem dX12_lookAt_209 : decode cX12_lookAt 209 = .ok (.putfield 246, 3) := by decide +kernel
theorem dX12_lookAt_212 : decode cX12_lookAt 212 = .ok (.goto (-76), 3) := by decide +kernel
theorem dX12_lookAt_215 : decode cX12_lookAt 215 = .ok (.iconst 0, 1) := by decide +kernel
theorem dX12_lookAt_216 : decode cX12_lookAt 216 = .ok (.istore 4, 2) := by decide +kernel
theorem dX12_lookAt_218 : decode cX12_lookAt 218 = .ok (.iload 4, 2) := by decide +kernel
theorem dX12_lookAt_220 : decode cX12_lookAt 220 = .ok (.aload_n 0, 1) := by decide +kernel
theorem dX12_lookAt_221 : decode cX12_lookAt 221 = .ok (.getfield 246, 3) := by decide +kernel
theorem dX12_lookAt_224 : decode cX12_lookAt 224 = .ok (.if_icmp .ge 50, 3) := by decide +kernel
theorem dX12_lookAt_227 : decode cX12_lookAt 227 = .ok (.iload 4, 2) := by decide +kernel
theorem dX12_lookAt_229 : decode cX12_lookAt 229 = .ok (.iconst 2, 1) := by decide +kernel
theorem dX12_lookAt_230 : decode cX12_lookAt 230 = .ok (.if_icmp .ge 44, 3) := by decide +kernel
theorem dX12_lookAt_233 : decode cX12_lookAt 233 = .ok (.aload_n 0, 1) := by decide +kernel
theorem dX12_lookAt_234 : decode cX12_lookAt 234 = .ok (.getfield 249, 3) := by decide +kernel
theorem dX12_lookAt_237 : decode cX12_lookAt 237 = .ok (.iconst 2, 1) := by decide +kernel
theorem dX12_lookAt_238 : decode cX12_lookAt 238 = .ok (.if_icmp .ne 36, 3) := by decide +kernel
theorem dX12_lookAt_241 : decode cX12_lookAt 241 = .ok (.aload_n 0, 1) := by decide +kernel
theorem dX12_lookAt_242 : decode cX12_lookAt 242 = .ok (.bipush 10, 2) := by decide +kernel
theorem dX12_lookAt_244 : decode cX12_lookAt 244 = .ok (.aload_n 0, 1) := by decide +kernel
theorem dX12_lookAt_245 : decode cX12_lookAt 245 = .ok (.getfield 252, 3) := by decide +kernel
theorem dX12_lookAt_248 : decode cX12_lookAt 248 = .ok (.imul, 1) := by decide +kernel
theorem dX12_lookAt_249 : decode cX12_lookAt 249 = .ok (.aload_n 0, 1) := by decide +kernel
theorem dX12_lookAt_250 : decode cX12_lookAt 250 = .ok (.getfield 48, 3) := by decide +kernel
theorem dX12_lookAt_253 : decode cX12_lookAt 253 = .ok (.aload_n 0, 1) := by decide +kernel
theorem dX12_lookAt_254 : decode cX12_lookAt 254 = .ok (.getfield 243, 3) := by decide +kernel
theorem dX12_lookAt_257 : decode cX12_lookAt 257 = .ok (.iload 4, 2) := by decide +kernel
theorem dX12_lookAt_259 : decode cX12_lookAt 259 = .ok (.iadd, 1) := by decide +kernel
theorem dX12_lookAt_260 : decode cX12_lookAt 260 = .ok (.iaload, 1) := by decide +kernel
theorem dX12_lookAt_261 : decode cX12_lookAt 261 = .ok (.iadd, 1) := by decide +kernel
theorem dX12_lookAt_262 : decode cX12_lookAt 262 = .ok (.bipush 48, 2) := by decide +kernel
theorem dX12_lookAt_264 : decode cX12_lookAt 264 = .ok (.isub, 1) := by decide +kernel
theorem dX12_lookAt_265 : decode cX12_lookAt 265 = .ok (.putfield 252, 3) := by decide +kernel
theorem dX12_lookAt_268 : decode cX12_lookAt 268 = .ok (.iinc 4 1, 3) := by decide +kernel
theorem dX12_lookAt_271 : decode cX12_lookAt 271 = .ok (.goto (-53), 3) := by decide +kernel
theorem dX12_lookAt_274 : decode cX12_lookAt 274 = .ok (.aload_n 0, 1) := by decide +kernel
theorem dX12_lookAt_275 : decode cX12_lookAt 275 = .ok (.aload_n 0, 1) := by decide +kernel
theorem dX12_lookAt_276 : decode cX12_lookAt 276 = .ok (.getfield 249, 3) := by decide +kernel
theorem dX12_lookAt_279 : decode cX12_lookAt 279 = .ok (.iconst 2, 1) := by decide +kernel
theorem dX12_lookAt_280 : decode cX12_lookAt 280 = .ok (.if_icmp .ne 15, 3) := by decide +kernel
theorem dX12_lookAt_283 : decode cX12_lookAt 283 = .ok (.aload_n 0, 1) := by decide +kernel
theorem dX12_lookAt_284 : decode cX12_lookAt 284 = .ok (.getfield 246, 3) := by decide +kernel
theorem dX12_lookAt_287 : decode cX12_lookAt 287 = .ok (.iconst 2, 1) := by decide +kernel
theorem dX12_lookAt_288 : decode cX12_lookAt 288 = .ok (.if_icmp .le 7, 3) := by decide +kernel
theorem dX12_lookAt_291 : decode cX12_lookAt 291 = .ok (.iconst 4, 1) := by decide +kernel
theorem dX12_lookAt_292 : decode cX12_lookAt 292 = .ok (.goto 7, 3) := by decide +kernel
theorem dX12_lookAt_295 : decode cX12_lookAt 295 = .ok (.aload_n 0, 1) := by decide +kernel
theorem dX12_lookAt_296 : decode cX12_lookAt 296 = .ok (.getfield 249, 3) := by decide +kernel
theorem dX12_lookAt_299 : decode cX12_lookAt 299 = .ok (.putfield 249, 3) := by decide +kernel
theorem dX12_lookAt_302 : decode cX12_lookAt 302 = .ok (.return_, 1) := by decide +kernel
theorem dX12_goBehind_0 : decode cX12_goBehind 0 = .ok (.aload_n 0, 1) := by decide +kernel
theorem dX12_goBehind_1 : decode cX12_goBehind 1 = .ok (.aload_n 0, 1) := by decide +kernel
theorem dX12_goBehind_2 : decode cX12_goBehind 2 = .ok (.getfield 243, 3) := by decide +kernel
theorem dX12_goBehind_5 : decode cX12_goBehind 5 = .ok (.aload_n 0, 1) := by decide +kernel
theorem dX12_goBehind_6 : decode cX12_goBehind 6 = .ok (.getfield 246, 3) := by decide +kernel
theorem dX12_goBehind_9 : decode cX12_goBehind 9 = .ok (.iadd, 1) := by decide +kernel
theorem dX12_goBehind_10 : decode cX12_goBehind 10 = .ok (.invokevirtual 261, 3) := by decide +kernel
theorem dX12_goBehind_13 : decode cX12_goBehind 13 = .ok (.return_, 1) := by decide +kernel
end
section
theorem dX12_isCalled_0 : decode cX12_isCalled 0 = .ok (.aload_n 0, 1) := by decide +kernel
theorem dX12_isCalled_1 : decode cX12_isCalled 1 = .ok (.getfield 249, 3) := by decide +kernel
theorem dX12_isCalled_4 : decode cX12_isCalled 4 = .ok (.iconst 1, 1) := by decide +kernel
theorem dX12_isCalled_5 : decode cX12_isCalled 5 = .ok (.if_icmp .ne 15, 3) := by decide +kernel
theorem dX12_isCalled_8 : decode cX12_isCalled 8 = .ok (.aload_n 0, 1) := by decide +kernel
theorem dX12_isCalled_9 : decode cX12_isCalled 9 = .ok (.getfield 246, 3) := by decide +kernel
theorem dX12_isCalled_12 : decode cX12_isCalled 12 = .ok (.iload_n 1, 1) := by decide +kernel
theorem dX12_isCalled_13 : decode cX12_isCalled 13 = .ok (.if_icmp .ne 7, 3) := by decide +kernel
theorem dX12_isCalled_16 : decode cX12_isCalled 16 = .ok (.iconst 1, 1) := by decide +kernel
theorem dX12_isCalled_17 : decode cX12_isCalled 17 = .ok (.goto 4, 3) := by decide +kernel
theorem dX12_isCalled_20 : decode cX12_isCalled 20 = .ok (.iconst 0, 1) := by decide +kernel
theorem dX12_isCalled_21 : decode cX12_isCalled 21 = .ok (.istore 8, 2) := by decide +kernel
theorem dX12_isCalled_23 : decode cX12_isCalled 23 = .ok (.iconst 0, 1) := by decide +kernel
theorem dX12_isCalled_24 : decode cX12_isCalled 24 = .ok (.istore 9, 2) := by decide +kernel
theorem dX12_isCalled_26 : decode cX12_isCalled 26 = .ok (.iload 9, 2) := by decide +kernel
theorem dX12_isCalled_28 : decode cX12_isCalled 28 = .ok (.iload_n 1, 1) := by decide +kernel
theorem dX12_isCalled_29 : decode cX12_isCalled 29 = .ok (.if_icmp .ge 90, 3) := by decide +kernel
theorem dX12_isCalled_32 : decode cX12_isCalled 32 = .ok (.iload 8, 2) := by decide +kernel
theorem dX12_isCalled_34 : decode cX12_isCalled 34 = .ok (.ifCond .eq 85, 3) := by decide +kernel
theorem dX12_isCalled_37 : decode cX12_isCalled 37 = .ok (.aload_n 0, 1) := by decide +kernel
theorem dX12_isCalled_38 : decode cX12_isCalled 38 = .ok (.getfield 48, 3) := by decide +kernel
theorem dX12_isCalled_41 : decode cX12_isCalled 41 = .ok (.aload_n 0, 1) := by decide +kernel
theorem dX12_isCalled_42 : decode cX12_isCalled 42 = .ok (.getfield 243, 3) := by decide +kernel
theorem dX12_isCalled_45 : decode cX12_isCalled 45 = .ok (.iload 9, 2) := by decide +kernel
theorem dX12_isCalled_47 : decode cX12_isCalled 47 = .ok (.iadd, 1) := by decide +kernel
theorem dX12_isCalled_48 : decode cX12_isCalled 48 = .ok (.iaload, 1) := by decide +kernel
theorem dX12_isCalled_49 : decode cX12_isCalled 49 = .ok (.iload 9, 2) := by decide +kernel
theorem dX12_isCalled_51 : decode cX12_isCalled 51 = .ok (.ifCond .ne 7, 3) := by decide +kernel
theorem dX12_isCalled_54 : decode cX12_isCalled 54 = .ok (.iload_n 2, 1) := by decide +kernel
theorem dX12_isCalled_55 : decode cX12_isCalled 55 = .ok (.goto 48, 3) := by decide +kernel
theorem dX12_isCalled_58 : decode cX12_isCalled 58 = .ok (.iload 9, 2) := by decide +kernel
theorem dX12_isCalled_60 : decode cX12_isCalled 60 = .ok (.iconst 1, 1) := by decide +kernel
theorem dX12_isCalled_61 : decode cX12_isCalled 61 = .ok (.if_icmp .ne 7, 3) := by decide +kernel
theorem dX12_isCalled_64 : decode cX12_isCalled 64 = .ok (.iload_n 3, 1) := by decide +kernel
theorem dX12_isCalled_65 : decode cX12_isCalled 65 = .ok (.goto 38, 3) := by decide +kernel
theorem dX12_isCalled_68 : decode cX12_isCalled 68 = .ok (.iload 9, 2) := by decide +kernel
theorem dX12_isCalled_70 : decode cX12_isCalled 70 = .ok (.iconst 2, 1) := by decide +kernel
theorem dX12_isCalled_71 : decode cX12_isCalled 71 = .ok (.if_icmp .ne 8, 3) := by decide +kernel
theorem dX12_isCalled_74 : decode cX12_isCalled 74 = .ok (.iload 4, 2) := by decide +kernel
theorem dX12_isCalled_76 : decode cX12_isCalled 76 = .ok (.goto 27, 3) := by decide +kernel
theorem dX12_isCalled_79 : decode cX12_isCalled 79 = .ok (.iload 9, 2) := by decide +kernel
theorem dX12_isCalled_81 : decode cX12_isCalled 81 = .ok (.iconst 3, 1) := by decide +kernel
theorem dX12_isCalled_82 : decode cX12_isCalled 82 = .ok (.if_icmp .ne 8, 3) := by decide +kernel
theorem dX12_isCalled_85 : decode cX12_isCalled 85 = .ok (.iload 5, 2) := by decide +kernel
theorem dX12_isCalled_87 : decode cX12_isCalled 87 = .ok (.goto 16, 3) := by decide +kernel
theorem dX12_isCalled_90 : decode cX12_isCalled 90 = .ok (.iload 9, 2) := by decide +kernel
theorem dX12_isCalled_92 : decode cX12_isCalled 92 = .ok (.iconst 4, 1) := by decide +kernel
theorem dX12_isCalled_93 : decode cX12_isCalled 93 = .ok (.if_icmp .ne 8, 3) := by decide +kernel
theorem dX12_isCalled_96 : decode cX12_isCalled 96 = .ok (.iload 6, 2) := by decide +kernel
theorem dX12_isCalled_98 : decode cX12_isCalled 98 = .ok (.goto 5, 3) := by decide +kernel
theorem dX12_isCalled_101 : decode cX12_isCalled 101 = .ok (.iload 7, 2) := by decide +kernel
theorem dX12_isCalled_103 : decode cX12_isCalled 103 = .ok (.if_icmp .ne 7, 3) := by decide +kernel
theorem dX12_isCalled_106 : decode cX12_isCalled 106 = .ok (.iconst 1, 1) := by decide +kernel
theorem dX12_isCalled_107 : decode cX12_isCalled 107 = .ok (.goto 4, 3) := by decide +kernel
theorem dX12_isCalled_110 : decode cX12_isCalled 110 = .ok (.iconst 0, 1) := by decide +kernel
theorem dX12_isCalled_111 : decode cX12_isCalled 111 = .ok (.istore 8, 2) := by decide +kernel
theorem dX12_isCalled_113 : decode cX12_isCalled 113 = .ok (.iinc 9 1, 3) := by decide +kernel
theorem dX12_isCalled_116 : decode cX12_isCalled 116 = .ok (.goto (-90), 3) := by decide +kernel
theorem dX12_isCalled_119 : decode cX12_isCalled 119 = .ok (.iload 8, 2) := by decide +kernel
theorem dX12_isCalled_121 : decode cX12_isCalled 121 = .ok (.ireturn, 1) := by decide +kernel
theorem dX12_takes_0 : decode cX12_takes 0 = .ok (.aload_n 0, 1) := by decide +kernel
theorem dX12_takes_1 : decode cX12_takes 1 = .ok (.getfield 249, 3) := by decide +kernel
theorem dX12_takes_4 : decode cX12_takes 4 = .ok (.iconst 2, 1) := by decide +kernel
theorem dX12_takes_5 : decode cX12_takes 5 = .ok (.if_icmp .ne 18, 3) := by decide +kernel
theorem dX12_takes_8 : decode cX12_takes 8 = .ok (.aload_n 0, 1) := by decide +kernel
theorem dX12_takes_9 : decode cX12_takes 9 = .ok (.getfield 252, 3) := by decide +kernel
theorem dX12_takes_12 : decode cX12_takes 12 = .ok (.i2l, 1) := by decide +kernel
theorem dX12_takes_13 : decode cX12_takes 13 = .ok (.iload_n 2, 1) := by decide +kernel
theorem dX12_takes_14 : decode cX12_takes 14 = .ok (.i2l, 1) := by decide +kernel
theorem dX12_takes_15 : decode cX12_takes 15 = .ok (.iload_n 3, 1) := by decide +kernel
theorem dX12_takes_16 : decode cX12_takes 16 = .ok (.i2l, 1) := by decide +kernel
theorem dX12_takes_17 : decode cX12_takes 17 = .ok (.invokestatic 61, 3) := by decide +kernel
theorem dX12_takes_20 : decode cX12_takes 20 = .ok (.ifCond .ne 5, 3) := by decide +kernel
theorem dX12_takes_23 : decode cX12_takes 23 = .ok (.iconst 0, 1) := by decide +kernel
theorem dX12_takes_24 : decode cX12_takes 24 = .ok (.ireturn, 1) := by decide +kernel
theorem dX12_takes_25 : decode cX12_takes 25 = .ok (.aload_n 0, 1) := by decide +kernel
theorem dX12_takes_26 : decode cX12_takes 26 = .ok (.getfield 54, 3) := by decide +kernel
theorem dX12_takes_29 : decode cX12_takes 29 = .ok (.iload_n 1, 1) := by decide +kernel
theorem dX12_takes_30 : decode cX12_takes 30 = .ok (.aload_n 0, 1) := by decide +kernel
theorem dX12_takes_31 : decode cX12_takes 31 = .ok (.getfield 252, 3) := by decide +kernel
theorem dX12_takes_34 : decode cX12_takes 34 = .ok (.iastore, 1) := by decide +kernel
theorem dX12_takes_35 : decode cX12_takes 35 = .ok (.aload_n 0, 1) := by decide +kernel
theorem dX12_takes_36 : decode cX12_takes 36 = .ok (.invokevirtual 265, 3) := by decide +kernel
theorem dX12_takes_39 : decode cX12_takes 39 = .ok (.iconst 1, 1) := by decide +kernel
theorem dX12_takes_40 : decode cX12_takes 40 = .ok (.ireturn, 1) := by decide +kernel
theorem dX12_takesFirst_0 : decode cX12_takesFirst 0 = .ok (.aload_n 0, 1) := by decide +kernel
theorem dX12_takesFirst_1 : decode cX12_takesFirst 1 = .ok (.bipush 6, 2) := by decide +kernel
theorem dX12_takesFirst_3 : decode cX12_takesFirst 3 = .ok (.bipush 118, 2) := by decide +kernel
theorem dX12_takesFirst_5 : decode cX12_takesFirst 5 = .ok (.bipush 97, 2) := by decide +kernel
theorem dX12_takesFirst_7 : decode cX12_takesFirst 7 = .ok (.bipush 108, 2) := by decide +kernel
theorem dX12_takesFirst_9 : decode cX12_takesFirst 9 = .ok (.bipush 108, 2) := by decide +kernel
theorem dX12_takesFirst_11 : decode cX12_takesFirst 11 = .ok (.bipush 101, 2) := by decide +kernel
theorem dX12_takesFirst_13 : decode cX12_takesFirst 13 = .ok (.bipush 121, 2) := by decide +kernel
theorem dX12_takesFirst_15 : decode cX12_takesFirst 15 = .ok (.invokevirtual 268, 3) := by decide +kernel
theorem dX12_takesFirst_18 : decode cX12_takesFirst 18 = .ok (.ifCond .ne 5, 3) := by decide +kernel
theorem dX12_takesFirst_21 : decode cX12_takesFirst 21 = .ok (.iconst 0, 1) := by decide +kernel
theorem dX12_takesFirst_22 : decode cX12_takesFirst 22 = .ok (.ireturn, 1) := by decide +kernel
theorem dX12_takesFirst_23 : decode cX12_takesFirst 23 = .ok (.aload_n 0, 1) := by decide +kernel
theorem dX12_takesFirst_24 : decode cX12_takesFirst 24 = .ok (.invokevirtual 265, 3) := by decide +kernel
theorem dX12_takesFirst_27 : decode cX12_takesFirst 27 = .ok (.aload_n 0, 1) := by decide +kernel
theorem dX12_takesFirst_28 : decode cX12_takesFirst 28 = .ok (.iconst 0, 1) := by decide +kernel
theorem dX12_takesFirst_29 : decode cX12_takesFirst 29 = .ok (.iconst 0, 1) := by decide +kernel
theorem dX12_takesFirst_30 : decode cX12_takesFirst 30 = .ok (.bipush 9, 2) := by decide +kernel
theorem dX12_takesFirst_32 : decode cX12_takesFirst 32 = .ok (.invokevirtual 272, 3) := by decide +kernel
theorem dX12_takesFirst_35 : decode cX12_takesFirst 35 = .ok (.ifCond .ne 5, 3) := by decide +kernel
theorem dX12_takesFirst_38 : decode cX12_takesFirst 38 = .ok (.iconst 0, 1) := by decide +kernel
theorem dX12_takesFirst_39 : decode cX12_takesFirst 39 = .ok (.ireturn, 1) := by decide +kernel
theorem dX12_takesFirst_40 : decode cX12_takesFirst 40 = .ok (.aload_n 0, 1) := by decide +kernel
theorem dX12_takesFirst_41 : decode cX12_takesFirst 41 = .ok (.getfield 51, 3) := by decide +kernel
theorem dX12_takesFirst_44 : decode cX12_takesFirst 44 = .ok (.aload_n 0, 1) := by decide +kernel
theorem dX12_takesFirst_45 : decode cX12_takesFirst 45 = .ok (.getfield 54, 3) := by decide +kernel
theorem dX12_takesFirst_48 : decode cX12_takesFirst 48 = .ok (.iconst 0, 1) := by decide +kernel
theorem dX12_takesFirst_49 : decode cX12_takesFirst 49 = .ok (.iaload, 1) := by decide +kernel
theorem dX12_takesFirst_50 : decode cX12_takesFirst 50 = .ok (.invokestatic 79, 3) := by decide +kernel
theorem dX12_takesFirst_53 : decode cX12_takesFirst 53 = .ok (.aload_n 0, 1) := by decide +kernel
theorem dX12_takesFirst_54 : decode cX12_takesFirst 54 = .ok (.getfield 249, 3) := by decide +kernel
theorem dX12_takesFirst_57 : decode cX12_takesFirst 57 = .ok (.iconst 3, 1) := by decide +kernel
theorem dX12_takesFirst_58 : decode cX12_takesFirst 58 = .ok (.if_icmp .ne 7, 3) := by decide +kernel
theorem dX12_takesFirst_61 : decode cX12_takesFirst 61 = .ok (.iconst 1, 1) := by decide +kernel
theorem dX12_takesFirst_62 : decode cX12_takesFirst 62 = .ok (.goto 4, 3) := by decide +kernel
theorem dX12_takesFirst_65 : decode cX12_takesFirst 65 = .ok (.iconst 0, 1) := by decide +kernel
theorem dX12_takesFirst_66 : decode cX12_takesFirst 66 = .ok (.ireturn, 1) := by decide +kernel
theorem dX12_takesCandle_0 : decode cX12_takesCandle 0 = .ok (.aload_n 0, 1) := by decide +kernel
theorem dX12_takesCandle_1 : decode cX12_takesCandle 1 = .ok (.getfield 51, 3) := by decide +kernel
theorem dX12_takesCandle_4 : decode cX12_takesCandle 4 = .ok (.iconst 0, 1) := by decide +kernel
theorem dX12_takesCandle_5 : decode cX12_takesCandle 5 = .ok (.iaload, 1) := by decide +kernel
theorem dX12_takesCandle_6 : decode cX12_takesCandle 6 = .ok (.bipush 7, 2) := by decide +kernel
theorem dX12_takesCandle_8 : decode cX12_takesCandle 8 = .ok (.if_icmp .ne 5, 3) := by decide +kernel
theorem dX12_takesCandle_11 : decode cX12_takesCandle 11 = .ok (.iconst 0, 1) := by decide +kernel
theorem dX12_takesCandle_12 : decode cX12_takesCandle 12 = .ok (.ireturn, 1) := by decide +kernel
theorem dX12_takesCandle_13 : decode cX12_takesCandle 13 = .ok (.aload_n 0, 1) := by decide +kernel
theorem dX12_takesCandle_14 : decode cX12_takesCandle 14 = .ok (.invokevirtual 265, 3) := by decide +kernel
theorem dX12_takesCandle_17 : decode cX12_takesCandle 17 = .ok (.aload_n 0, 1) := by decide +kernel
theorem dX12_takesCandle_18 : decode cX12_takesCandle 18 = .ok (.iconst 0, 1) := by decide +kernel
theorem dX12_takesCandle_19 : decode cX12_takesCandle 19 = .ok (.iconst 0, 1) := by decide +kernel
theorem dX12_takesCandle_20 : decode cX12_takesCandle 20 = .ok (.iconst 5, 1) := by decide +kernel
theorem dX12_takesCandle_21 : decode cX12_takesCandle 21 = .ok (.invokevirtual 272, 3) := by decide +kernel
theorem dX12_takesCandle_24 : decode cX12_takesCandle 24 = .ok (.ifCond .eq 46, 3) := by decide +kernel
theorem dX12_takesCandle_27 : decode cX12_takesCandle 27 = .ok (.aload_n 0, 1) := by decide +kernel
theorem dX12_takesCandle_28 : decode cX12_takesCandle 28 = .ok (.iconst 1, 1) := by decide +kernel
theorem dX12_takesCandle_29 : decode cX12_takesCandle 29 = .ok (.iconst 0, 1) := by decide +kernel
theorem dX12_takesCandle_30 : decode cX12_takesCandle 30 = .ok (.bipush 63, 2) := by decide +kernel
theorem dX12_takesCandle_32 : decode cX12_takesCandle 32 = .ok (.invokevirtual 272, 3) := by decide +kernel
theorem dX12_takesCandle_35 : decode cX12_takesCandle 35 = .ok (.ifCond .eq 35, 3) := by decide +kernel
theorem dX12_takesCandle_38 : decode cX12_takesCandle 38 = .ok (.aload_n 0, 1) := by decide +kernel
theorem dX12_takesCandle_39 : decode cX12_takesCandle 39 = .ok (.iconst 2, 1) := by decide +kernel
theorem dX12_takesCandle_40 : decode cX12_takesCandle 40 = .ok (.iconst 1, 1) := by decide +kernel
theorem dX12_takesCandle_41 : decode cX12_takesCandle 41 = .ok (.bipush 20, 2) := by decide +kernel
theorem dX12_takesCandle_43 : decode cX12_takesCandle 43 = .ok (.invokevirtual 272, 3) := by decide +kernel
theorem dX12_takesCandle_46 : decode cX12_takesCandle 46 = .ok (.ifCond .eq 24, 3) := by decide +kernel
theorem dX12_takesCandle_49 : decode cX12_takesCandle 49 = .ok (.aload_n 0, 1) := by decide +kernel
theorem dX12_takesCandle_50 : decode cX12_takesCandle 50 = .ok (.iconst 3, 1) := by decide +kernel
theorem dX12_takesCandle_51 : decode cX12_takesCandle 51 = .ok (.iconst 0, 1) := by decide +kernel
theorem dX12_takesCandle_52 : decode cX12_takesCandle 52 = .ok (.iconst 3, 1) := by decide +kernel
theorem dX12_takesCandle_53 : decode cX12_takesCandle 53 = .ok (.invokevirtual 272, 3) := by decide +kernel
theorem dX12_takesCandle_56 : decode cX12_takesCandle 56 = .ok (.ifCond .eq 14, 3) := by decide +kernel
theorem dX12_takesCandle_59 : decode cX12_takesCandle 59 = .ok (.aload_n 0, 1) := by decide +kernel
theorem dX12_takesCandle_60 : decode cX12_takesCandle 60 = .ok (.iconst 4, 1) := by decide +kernel
theorem dX12_takesCandle_61 : decode cX12_takesCandle 61 = .ok (.iconst 0, 1) := by decide +kernel
theorem dX12_takesCandle_62 : decode cX12_takesCandle 62 = .ok (.bipush 12, 2) := by decide +kernel
theorem dX12_takesCandle_64 : decode cX12_takesCandle 64 = .ok (.invokevirtual 272, 3) := by decide +kernel
theorem dX12_takesCandle_67 : decode cX12_takesCandle 67 = .ok (.ifCond .ne 5, 3) := by decide +kernel
theorem dX12_takesCandle_70 : decode cX12_takesCandle 70 = .ok (.iconst 0, 1) := by decide +kernel
theorem dX12_takesCandle_71 : decode cX12_takesCandle 71 = .ok (.ireturn, 1) := by decide +kernel
theorem dX12_takesCandle_72 : decode cX12_takesCandle 72 = .ok (.aload_n 0, 1) := by decide +kernel
theorem dX12_takesCandle_73 : decode cX12_takesCandle 73 = .ok (.getfield 51, 3) := by decide +kernel
theorem dX12_takesCandle_76 : decode cX12_takesCandle 76 = .ok (.aload_n 0, 1) := by decide +kernel
theorem dX12_takesCandle_77 : decode cX12_takesCandle 77 = .ok (.getfield 54, 3) := by decide +kernel
theorem dX12_takesCandle_80 : decode cX12_takesCandle 80 = .ok (.iconst 0, 1) := by decide +kernel
theorem dX12_takesCandle_81 : decode cX12_takesCandle 81 = .ok (.iaload, 1) := by decide +kernel
theorem dX12_takesCandle_82 : decode cX12_takesCandle 82 = .ok (.aload_n 0, 1) := by decide +kernel
theorem dX12_takesCandle_83 : decode cX12_takesCandle 83 = .ok (.getfield 54, 3) := by decide +kernel
theorem dX12_takesCandle_86 : decode cX12_takesCandle 86 = .ok (.iconst 1, 1) := by decide +kernel
theorem dX12_takesCandle_87 : decode cX12_takesCandle 87 = .ok (.iaload, 1) := by decide +kernel
theorem dX12_takesCandle_88 : decode cX12_takesCandle 88 = .ok (.aload_n 0, 1) := by decide +kernel
theorem dX12_takesCandle_89 : decode cX12_takesCandle 89 = .ok (.getfield 54, 3) := by decide +kernel
theorem dX12_takesCandle_92 : decode cX12_takesCandle 92 = .ok (.iconst 2, 1) := by decide +kernel
theorem dX12_takesCandle_93 : decode cX12_takesCandle 93 = .ok (.iaload, 1) := by decide +kernel
theorem dX12_takesCandle_94 : decode cX12_takesCandle 94 = .ok (.aload_n 0, 1) := by decide +kernel
theorem dX12_takesCandle_95 : decode cX12_takesCandle 95 = .ok (.getfield 54, 3) := by decide +kernel
theorem dX12_takesCandle_98 : decode cX12_takesCandle 98 = .ok (.iconst 3, 1) := by decide +kernel
theorem dX12_takesCandle_99 : decode cX12_takesCandle 99 = .ok (.iaload, 1) := by decide +kernel
theorem dX12_takesCandle_100 : decode cX12_takesCandle 100 = .ok (.aload_n 0, 1) := by decide +kernel
theorem dX12_takesCandle_101 : decode cX12_takesCandle 101 = .ok (.getfield 54, 3) := by decide +kernel
theorem dX12_takesCandle_104 : decode cX12_takesCandle 104 = .ok (.iconst 4, 1) := by decide +kernel
theorem dX12_takesCandle_105 : decode cX12_takesCandle 105 = .ok (.iaload, 1) := by decide +kernel
theorem dX12_takesCandle_106 : decode cX12_takesCandle 106 = .ok (.invokestatic 100, 3) := by decide +kernel
theorem dX12_takesCandle_109 : decode cX12_takesCandle 109 = .ok (.iconst 1, 1) := by decide +kernel
theorem dX12_takesCandle_110 : decode cX12_takesCandle 110 = .ok (.ireturn, 1) := by decide +kernel
theorem dX12_takesOut_0 : decode cX12_takesOut 0 = .ok (.aload_n 0, 1) := by decide +kernel
theorem dX12_takesOut_1 : decode cX12_takesOut 1 = .ok (.invokevirtual 265, 3) := by decide +kernel
theorem dX12_takesOut_4 : decode cX12_takesOut 4 = .ok (.aload_n 0, 1) := by decide +kernel
theorem dX12_takesOut_5 : decode cX12_takesOut 5 = .ok (.iconst 0, 1) := by decide +kernel
theorem dX12_takesOut_6 : decode cX12_takesOut 6 = .ok (.iconst 0, 1) := by decide +kernel
theorem dX12_takesOut_7 : decode cX12_takesOut 7 = .ok (.aload_n 0, 1) := by decide +kernel
theorem dX12_takesOut_8 : decode cX12_takesOut 8 = .ok (.getfield 51, 3) := by decide +kernel
theorem dX12_takesOut_11 : decode cX12_takesOut 11 = .ok (.iconst 0, 1) := by decide +kernel
theorem dX12_takesOut_12 : decode cX12_takesOut 12 = .ok (.iaload, 1) := by decide +kernel
theorem dX12_takesOut_13 : decode cX12_takesOut 13 = .ok (.iconst 1, 1) := by decide +kernel
theorem dX12_takesOut_14 : decode cX12_takesOut 14 = .ok (.isub, 1) := by decide +kernel
theorem dX12_takesOut_15 : decode cX12_takesOut 15 = .ok (.invokevirtual 272, 3) := by decide +kernel
theorem dX12_takesOut_18 : decode cX12_takesOut 18 = .ok (.ifCond .ne 5, 3) := by decide +kernel
theorem dX12_takesOut_21 : decode cX12_takesOut 21 = .ok (.iconst 0, 1) := by decide +kernel
theorem dX12_takesOut_22 : decode cX12_takesOut 22 = .ok (.ireturn, 1) := by decide +kernel
theorem dX12_takesOut_23 : decode cX12_takesOut 23 = .ok (.aload_n 0, 1) := by decide +kernel
theorem dX12_takesOut_24 : decode cX12_takesOut 24 = .ok (.getfield 51, 3) := by decide +kernel
theorem dX12_takesOut_27 : decode cX12_takesOut 27 = .ok (.iconst 2, 1) := by decide +kernel
theorem dX12_takesOut_28 : decode cX12_takesOut 28 = .ok (.dup2, 1) := by decide +kernel
theorem dX12_takesOut_29 : decode cX12_takesOut 29 = .ok (.iaload, 1) := by decide +kernel
theorem dX12_takesOut_30 : decode cX12_takesOut 30 = .ok (.iconst 1, 1) := by decide +kernel
theorem dX12_takesOut_31 : decode cX12_takesOut 31 = .ok (.aload_n 0, 1) := by decide +kernel
theorem dX12_takesOut_32 : decode cX12_takesOut 32 = .ok (.getfield 54, 3) := by decide +kernel
theorem dX12_takesOut_35 : decode cX12_takesOut 35 = .ok (.iconst 0, 1) := by decide +kernel
theorem dX12_takesOut_36 : decode cX12_takesOut 36 = .ok (.iaload, 1) := by decide +kernel
theorem dX12_takesOut_37 : decode cX12_takesOut 37 = .ok (.ishl, 1) := by decide +kernel
theorem dX12_takesOut_38 : decode cX12_takesOut 38 = .ok (.iconst (-1), 1) := by decide +kernel
theorem dX12_takesOut_39 : decode cX12_takesOut 39 = .ok (.ixor, 1) := by decide +kernel
theorem dX12_takesOut_40 : decode cX12_takesOut 40 = .ok (.iand, 1) := by decide +kernel
theorem dX12_takesOut_41 : decode cX12_takesOut 41 = .ok (.iastore, 1) := by decide +kernel
theorem dX12_takesOut_42 : decode cX12_takesOut 42 = .ok (.iconst 1, 1) := by decide +kernel
theorem dX12_takesOut_43 : decode cX12_takesOut 43 = .ok (.ireturn, 1) := by decide +kernel
theorem dX12_takesItem_0 : decode cX12_takesItem 0 = .ok (.aload_n 0, 1) := by decide +kernel
theorem dX12_takesItem_1 : decode cX12_takesItem 1 = .ok (.bipush 6, 2) := by decide +kernel
theorem dX12_takesItem_3 : decode cX12_takesItem 3 = .ok (.bipush 99, 2) := by decide +kernel
theorem dX12_takesItem_5 : decode cX12_takesItem 5 = .ok (.bipush 97, 2) := by decide +kernel
theorem dX12_takesItem_7 : decode cX12_takesItem 7 = .ok (.bipush 110, 2) := by decide +kernel
theorem dX12_takesItem_9 : decode cX12_takesItem 9 = .ok (.bipush 100, 2) := by decide +kernel
theorem dX12_takesItem_11 : decode cX12_takesItem 11 = .ok (.bipush 108, 2) := by decide +kernel
theorem dX12_takesItem_13 : decode cX12_takesItem 13 = .ok (.bipush 101, 2) := by decide +kernel
theorem dX12_takesItem_15 : decode cX12_takesItem 15 = .ok (.invokevirtual 268, 3) := by decide +kernel
theorem dX12_takesItem_18 : decode cX12_takesItem 18 = .ok (.ifCond .eq 8, 3) := by decide +kernel
theorem dX12_takesItem_21 : decode cX12_takesItem 21 = .ok (.aload_n 0, 1) := by decide +kernel
theorem dX12_takesItem_22 : decode cX12_takesItem 22 = .ok (.invokevirtual 276, 3) := by decide +kernel
theorem dX12_takesItem_25 : decode cX12_takesItem 25 = .ok (.ireturn, 1) := by decide +kernel
theorem dX12_takesItem_26 : decode cX12_takesItem 26 = .ok (.aload_n 0, 1) := by decide +kernel
theorem dX12_takesItem_27 : decode cX12_takesItem 27 = .ok (.iconst 3, 1) := by decide +kernel
theorem dX12_takesItem_28 : decode cX12_takesItem 28 = .ok (.bipush 111, 2) := by decide +kernel
theorem dX12_takesItem_30 : decode cX12_takesItem 30 = .ok (.bipush 117, 2) := by decide +kernel
theorem dX12_takesItem_32 : decode cX12_takesItem 32 = .ok (.bipush 116, 2) := by decide +kernel
theorem dX12_takesItem_34 : decode cX12_takesItem 34 = .ok (.iconst 0, 1) := by decide +kernel
theorem dX12_takesItem_35 : decode cX12_takesItem 35 = .ok (.iconst 0, 1) := by decide +kernel
theorem dX12_takesItem_36 : decode cX12_takesItem 36 = .ok (.iconst 0, 1) := by decide +kernel
theorem dX12_takesItem_37 : decode cX12_takesItem 37 = .ok (.invokevirtual 268, 3) := by decide +kernel
theorem dX12_takesItem_40 : decode cX12_takesItem 40 = .ok (.ifCond .eq 14, 3) := by decide +kernel
theorem dX12_takesItem_43 : decode cX12_takesItem 43 = .ok (.aload_n 0, 1) := by decide +kernel
theorem dX12_takesItem_44 : decode cX12_takesItem 44 = .ok (.invokevirtual 279, 3) := by decide +kernel
theorem dX12_takesItem_47 : decode cX12_takesItem 47 = .ok (.ifCond .eq 7, 3) := by decide +kernel
theorem dX12_takesItem_50 : decode cX12_takesItem 50 = .ok (.iconst 1, 1) := by decide +kernel
theorem dX12_takesItem_51 : decode cX12_takesItem 51 = .ok (.goto 4, 3) := by decide +kernel
theorem dX12_takesItem_54 : decode cX12_takesItem 54 = .ok (.iconst 0, 1) := by decide +kernel
theorem dX12_takesItem_55 : decode cX12_takesItem 55 = .ok (.ireturn, 1) := by decide +kernel
theorem dX12_read_0 : decode cX12_read 0 = .ok (.aload_n 0, 1) := by decide +kernel
theorem dX12_read_1 : decode cX12_read 1 = .ok (.iconst 0, 1) := by decide +kernel
theorem dX12_read_2 : decode cX12_read 2 = .ok (.invokevirtual 261, 3) := by decide +kernel
theorem dX12_read_5 : decode cX12_read 5 = .ok (.aload_n 0, 1) := by decide +kernel
theorem dX12_read_6 : decode cX12_read 6 = .ok (.invokevirtual 282, 3) := by decide +kernel
theorem dX12_read_9 : decode cX12_read 9 = .ok (.ifCond .ne 11, 3) := by decide +kernel
theorem dX12_read_12 : decode cX12_read 12 = .ok (.bipush (-10), 2) := by decide +kernel
theorem dX12_read_14 : decode cX12_read 14 = .ok (.aload_n 0, 1) := by decide +kernel
theorem dX12_read_15 : decode cX12_read 15 = .ok (.getfield 243, 3) := by decide +kernel
theorem dX12_read_18 : decode cX12_read 18 = .ok (.isub, 1) := by decide +kernel
theorem dX12_read_19 : decode cX12_read 19 = .ok (.ireturn, 1) := by decide +kernel
theorem dX12_read_20 : decode cX12_read 20 = .ok (.aload_n 0, 1) := by decide +kernel
theorem dX12_read_21 : decode cX12_read 21 = .ok (.invokevirtual 265, 3) := by decide +kernel
theorem dX12_read_24 : decode cX12_read 24 = .ok (.iconst 1, 1) := by decide +kernel
theorem dX12_read_25 : decode cX12_read 25 = .ok (.istore_n 1, 1) := by decide +kernel
theorem dX12_read_26 : decode cX12_read 26 = .ok (.aload_n 0, 1) := by decide +kernel
theorem dX12_read_27 : decode cX12_read 27 = .ok (.getfield 249, 3) := by decide +kernel
theorem dX12_read_30 : decode cX12_read 30 = .ok (.ifCond .eq 36, 3) := by decide +kernel
theorem dX12_read_33 : decode cX12_read 33 = .ok (.aload_n 0, 1) := by decide +kernel
theorem dX12_read_34 : decode cX12_read 34 = .ok (.invokevirtual 285, 3) := by decide +kernel
theorem dX12_read_37 : decode cX12_read 37 = .ok (.ifCond .eq 11, 3) := by decide +kernel
theorem dX12_read_40 : decode cX12_read 40 = .ok (.aload_n 0, 1) := by decide +kernel
theorem dX12_read_41 : decode cX12_read 41 = .ok (.getfield 249, 3) := by decide +kernel
theorem dX12_read_44 : decode cX12_read 44 = .ok (.iconst 3, 1) := by decide +kernel
theorem dX12_read_45 : decode cX12_read 45 = .ok (.if_icmp .eq 11, 3) := by decide +kernel
theorem dX12_read_48 : decode cX12_read 48 = .ok (.bipush (-10), 2) := by decide +kernel
theorem dX12_read_50 : decode cX12_read 50 = .ok (.aload_n 0, 1) := by decide +kernel
theorem dX12_read_51 : decode cX12_read 51 = .ok (.getfield 243, 3) := by decide +kernel
theorem dX12_read_54 : decode cX12_read 54 = .ok (.isub, 1) := by decide +kernel
theorem dX12_read_55 : decode cX12_read 55 = .ok (.ireturn, 1) := by decide +kernel
theorem dX12_read_56 : decode cX12_read 56 = .ok (.aload_n 0, 1) := by decide +kernel
theorem dX12_read_57 : decode cX12_read 57 = .ok (.invokevirtual 265, 3) := by decide +kernel
theorem dX12_read_60 : decode cX12_read 60 = .ok (.iinc 1 1, 3) := by decide +kernel
theorem dX12_read_63 : decode cX12_read 63 = .ok (.goto (-37), 3) := by decide +kernel
theorem dX12_read_66 : decode cX12_read 66 = .ok (.iconst 0, 1) := by decide +kernel
theorem dX12_read_67 : decode cX12_read 67 = .ok (.istore_n 2, 1) := by decide +kernel
theorem dX12_read_68 : decode cX12_read 68 = .ok (.iload_n 2, 1) := by decide +kernel
theorem dX12_read_69 : decode cX12_read 69 = .ok (.bipush 65, 2) := by decide +kernel
theorem dX12_read_71 : decode cX12_read 71 = .ok (.if_icmp .ge 21, 3) := by decide +kernel
theorem dX12_read_74 : decode cX12_read 74 = .ok (.aload_n 0, 1) := by decide +kernel
theorem dX12_read_75 : decode cX12_read 75 = .ok (.getfield 7, 3) := by decide +kernel
theorem dX12_read_78 : decode cX12_read 78 = .ok (.iload_n 2, 1) := by decide +kernel
theorem dX12_read_79 : decode cX12_read 79 = .ok (.aload_n 0, 1) := by decide +kernel
theorem dX12_read_80 : decode cX12_read 80 = .ok (.getfield 51, 3) := by decide +kernel
theorem dX12_read_83 : decode cX12_read 83 = .ok (.iload_n 2, 1) := by decide +kernel
theorem dX12_read_84 : decode cX12_read 84 = .ok (.iaload, 1) := by decide +kernel
theorem dX12_read_85 : decode cX12_read 85 = .ok (.iastore, 1) := by decide +kernel
theorem dX12_read_86 : decode cX12_read 86 = .ok (.iinc 2 1, 3) := by decide +kernel
theorem dX12_read_89 : decode cX12_read 89 = .ok (.goto (-21), 3) := by decide +kernel
theorem dX12_read_92 : decode cX12_read 92 = .ok (.iload_n 1, 1) := by decide +kernel
theorem dX12_read_93 : decode cX12_read 93 = .ok (.ireturn, 1) := by decide +kernel
theorem dX12_part_0 : decode cX12_part 0 = .ok (.iload_n 1, 1) := by decide +kernel
theorem dX12_part_1 : decode cX12_part 1 = .ok (.ifCond .ne 10, 3) := by decide +kernel
theorem dX12_part_4 : decode cX12_part 4 = .ok (.aload_n 0, 1) := by decide +kernel
theorem dX12_part_5 : decode cX12_part 5 = .ok (.getfield 207, 3) := by decide +kernel
theorem dX12_part_8 : decode cX12_part 8 = .ok (.goto 22, 3) := by decide +kernel
theorem dX12_part_11 : decode cX12_part 11 = .ok (.iload_n 1, 1) := by decide +kernel
theorem dX12_part_12 : decode cX12_part 12 = .ok (.iconst 1, 1) := by decide +kernel
theorem dX12_part_13 : decode cX12_part 13 = .ok (.if_icmp .ne 10, 3) := by decide +kernel
theorem dX12_part_16 : decode cX12_part 16 = .ok (.aload_n 0, 1) := by decide +kernel
theorem dX12_part_17 : decode cX12_part 17 = .ok (.getfield 23, 3) := by decide +kernel
theorem dX12_part_20 : decode cX12_part 20 = .ok (.goto 10, 3) := by decide +kernel
theorem dX12_part_23 : decode cX12_part 23 = .ok (.aload_n 0, 1) := by decide +kernel
theorem dX12_part_24 : decode cX12_part 24 = .ok (.bipush (-2), 2) := by decide +kernel
theorem dX12_part_26 : decode cX12_part 26 = .ok (.invokevirtual 75, 3) := by decide +kernel
theorem dX12_part_29 : decode cX12_part 29 = .ok (.i2l, 1) := by decide +kernel
theorem dX12_part_30 : decode cX12_part 30 = .ok (.lreturn, 1) := by decide +kernel
theorem dX12_image_0 : decode cX12_image 0 = .ok (.iload_n 1, 1) := by decide +kernel
theorem dX12_image_1 : decode cX12_image 1 = .ok (.i2l, 1) := by decide +kernel
theorem dX12_image_2 : decode cX12_image 2 = .ok (.lconst 0, 1) := by decide +kernel
theorem dX12_image_3 : decode cX12_image 3 = .ok (.lconst 1, 1) := by decide +kernel
theorem dX12_image_4 : decode cX12_image 4 = .ok (.invokestatic 61, 3) := by decide +kernel
theorem dX12_image_7 : decode cX12_image 7 = .ok (.ifCond .ne 10, 3) := by decide +kernel
theorem dX12_image_10 : decode cX12_image 10 = .ok (.aload_n 0, 1) := by decide +kernel
theorem dX12_image_11 : decode cX12_image 11 = .ok (.bipush (-2), 2) := by decide +kernel
theorem dX12_image_13 : decode cX12_image 13 = .ok (.invokevirtual 75, 3) := by decide +kernel
theorem dX12_image_16 : decode cX12_image 16 = .ok (.ireturn, 1) := by decide +kernel
theorem dX12_image_17 : decode cX12_image 17 = .ok (.iconst 0, 1) := by decide +kernel
theorem dX12_image_18 : decode cX12_image 18 = .ok (.istore_n 2, 1) := by decide +kernel
theorem dX12_image_19 : decode cX12_image 19 = .ok (.iload_n 2, 1) := by decide +kernel
theorem dX12_image_20 : decode cX12_image 20 = .ok (.sipush 129, 3) := by decide +kernel
theorem dX12_image_23 : decode cX12_image 23 = .ok (.if_icmp .ge 27, 3) := by decide +kernel
theorem dX12_image_26 : decode cX12_image 26 = .ok (.aload_n 0, 1) := by decide +kernel
theorem dX12_image_27 : decode cX12_image 27 = .ok (.getfield 13, 3) := by decide +kernel
theorem dX12_image_30 : decode cX12_image 30 = .ok (.sipush 129, 3) := by decide +kernel
theorem dX12_image_33 : decode cX12_image 33 = .ok (.iload_n 1, 1) := by decide +kernel
theorem dX12_image_34 : decode cX12_image 34 = .ok (.imul, 1) := by decide +kernel
theorem dX12_image_35 : decode cX12_image 35 = .ok (.iload_n 2, 1) := by decide +kernel
theorem dX12_image_36 : decode cX12_image 36 = .ok (.iadd, 1) := by decide +kernel
theorem dX12_image_37 : decode cX12_image 37 = .ok (.aload_n 0, 1) := by decide +kernel
theorem dX12_image_38 : decode cX12_image 38 = .ok (.getfield 7, 3) := by decide +kernel
theorem dX12_image_41 : decode cX12_image 41 = .ok (.iload_n 2, 1) := by decide +kernel
theorem dX12_image_42 : decode cX12_image 42 = .ok (.iaload, 1) := by decide +kernel
theorem dX12_image_43 : decode cX12_image 43 = .ok (.iastore, 1) := by decide +kernel
theorem dX12_image_44 : decode cX12_image 44 = .ok (.iinc 2 1, 3) := by decide +kernel
theorem dX12_image_47 : decode cX12_image 47 = .ok (.goto (-28), 3) := by decide +kernel
theorem dX12_image_50 : decode cX12_image 50 = .ok (.aload_n 0, 1) := by decide +kernel
theorem dX12_image_51 : decode cX12_image 51 = .ok (.getfield 16, 3) := by decide +kernel
theorem dX12_image_54 : decode cX12_image 54 = .ok (.iload_n 1, 1) := by decide +kernel
theorem dX12_image_55 : decode cX12_image 55 = .ok (.iconst 1, 1) := by decide +kernel
theorem dX12_image_56 : decode cX12_image 56 = .ok (.bastore, 1) := by decide +kernel
theorem dX12_image_57 : decode cX12_image 57 = .ok (.iconst 1, 1) := by decide +kernel
theorem dX12_image_58 : decode cX12_image 58 = .ok (.ireturn, 1) := by decide +kernel
theorem dX12_from_0 : decode cX12_from 0 = .ok (.iload_n 1, 1) := by decide +kernel
theorem dX12_from_1 : decode cX12_from 1 = .ok (.i2l, 1) := by decide +kernel
theorem dX12_from_2 : decode cX12_from 2 = .ok (.lconst 0, 1) := by decide +kernel
theorem dX12_from_3 : decode cX12_from 3 = .ok (.lconst 1, 1) := by decide +kernel
theorem dX12_from_4 : decode cX12_from 4 = .ok (.invokestatic 61, 3) := by decide +kernel
theorem dX12_from_7 : decode cX12_from 7 = .ok (.ifCond .ne 10, 3) := by decide +kernel
theorem dX12_from_10 : decode cX12_from 10 = .ok (.aload_n 0, 1) := by decide +kernel
theorem dX12_from_11 : decode cX12_from 11 = .ok (.bipush (-2), 2) := by decide +kernel
theorem dX12_from_13 : decode cX12_from 13 = .ok (.invokevirtual 75, 3) := by decide +kernel
theorem dX12_from_16 : decode cX12_from 16 = .ok (.ireturn, 1) := by decide +kernel
theorem dX12_from_17 : decode cX12_from 17 = .ok (.aload_n 0, 1) := by decide +kernel
theorem dX12_from_18 : decode cX12_from 18 = .ok (.getfield 16, 3) := by decide +kernel
theorem dX12_from_21 : decode cX12_from 21 = .ok (.iload_n 1, 1) := by decide +kernel
theorem dX12_from_22 : decode cX12_from 22 = .ok (.baload, 1) := by decide +kernel
theorem dX12_from_23 : decode cX12_from 23 = .ok (.ifCond .ne 8, 3) := by decide +kernel
theorem dX12_from_26 : decode cX12_from 26 = .ok (.aload_n 0, 1) := by decide +kernel
theorem dX12_from_27 : decode cX12_from 27 = .ok (.invokevirtual 114, 3) := by decide +kernel
theorem dX12_from_30 : decode cX12_from 30 = .ok (.ireturn, 1) := by decide +kernel
theorem dX12_from_31 : decode cX12_from 31 = .ok (.iconst 0, 1) := by decide +kernel
theorem dX12_from_32 : decode cX12_from 32 = .ok (.istore_n 2, 1) := by decide +kernel
theorem dX12_from_33 : decode cX12_from 33 = .ok (.iload_n 2, 1) := by decide +kernel
theorem dX12_from_34 : decode cX12_from 34 = .ok (.sipush 129, 3) := by decide +kernel
theorem dX12_from_37 : decode cX12_from 37 = .ok (.if_icmp .ge 27, 3) := by decide +kernel
theorem dX12_from_40 : decode cX12_from 40 = .ok (.aload_n 0, 1) := by decide +kernel
theorem dX12_from_41 : decode cX12_from 41 = .ok (.getfield 7, 3) := by decide +kernel
theorem dX12_from_44 : decode cX12_from 44 = .ok (.iload_n 2, 1) := by decide +kernel
theorem dX12_from_45 : decode cX12_from 45 = .ok (.aload_n 0, 1) := by decide +kernel
theorem dX12_from_46 : decode cX12_from 46 = .ok (.getfield 13, 3) := by decide +kernel
theorem dX12_from_49 : decode cX12_from 49 = .ok (.sipush 129, 3) := by decide +kernel
theorem dX12_from_52 : decode cX12_from 52 = .ok (.iload_n 1, 1) := by decide +kernel
theorem dX12_from_53 : decode cX12_from 53 = .ok (.imul, 1) := by decide +kernel
theorem dX12_from_54 : decode cX12_from 54 = .ok (.iload_n 2, 1) := by decide +kernel
theorem dX12_from_55 : decode cX12_from 55 = .ok (.iadd, 1) := by decide +kernel
theorem dX12_from_56 : decode cX12_from 56 = .ok (.iaload, 1) := by decide +kernel
theorem dX12_from_57 : decode cX12_from 57 = .ok (.iastore, 1) := by decide +kernel
theorem dX12_from_58 : decode cX12_from 58 = .ok (.iinc 2 1, 3) := by decide +kernel
theorem dX12_from_61 : decode cX12_from 61 = .ok (.goto (-28), 3) := by decide +kernel
theorem dX12_from_64 : decode cX12_from 64 = .ok (.iconst 1, 1) := by decide +kernel
theorem dX12_from_65 : decode cX12_from 65 = .ok (.ireturn, 1) := by decide +kernel
theorem dX12_status_0 : decode cX12_status 0 = .ok (.iload_n 1, 1) := by decide +kernel
theorem dX12_status_1 : decode cX12_status 1 = .ok (.i2l, 1) := by decide +kernel
theorem dX12_status_2 : decode cX12_status 2 = .ok (.lconst 0, 1) := by decide +kernel
theorem dX12_status_3 : decode cX12_status 3 = .ok (.ldc2_w 157, 3) := by decide +kernel
theorem dX12_status_6 : decode cX12_status 6 = .ok (.invokestatic 61, 3) := by decide +kernel
theorem dX12_status_9 : decode cX12_status 9 = .ok (.ifCond .eq 12, 3) := by decide +kernel
theorem dX12_status_12 : decode cX12_status 12 = .ok (.aload_n 0, 1) := by decide +kernel
theorem dX12_status_13 : decode cX12_status 13 = .ok (.getfield 20, 3) := by decide +kernel
theorem dX12_status_16 : decode cX12_status 16 = .ok (.iload_n 1, 1) := by decide +kernel
theorem dX12_status_17 : decode cX12_status 17 = .ok (.iaload, 1) := by decide +kernel
theorem dX12_status_18 : decode cX12_status 18 = .ok (.goto 8, 3) := by decide +kernel
theorem dX12_status_21 : decode cX12_status 21 = .ok (.aload_n 0, 1) := by decide +kernel
theorem dX12_status_22 : decode cX12_status 22 = .ok (.iconst (-1), 1) := by decide +kernel
theorem dX12_status_23 : decode cX12_status 23 = .ok (.invokevirtual 75, 3) := by decide +kernel
theorem dX12_status_26 : decode cX12_status 26 = .ok (.ireturn, 1) := by decide +kernel
theorem dX12_counted_0 : decode cX12_counted 0 = .ok (.iload_n 1, 1) := by decide +kernel
theorem dX12_counted_1 : decode cX12_counted 1 = .ok (.bipush 6, 2) := by decide +kernel
theorem dX12_counted_3 : decode cX12_counted 3 = .ok (.if_icmp .ge 12, 3) := by decide +kernel
theorem dX12_counted_6 : decode cX12_counted 6 = .ok (.aload_n 0, 1) := by decide +kernel
theorem dX12_counted_7 : decode cX12_counted 7 = .ok (.getfield 7, 3) := by decide +kernel
theorem dX12_counted_10 : decode cX12_counted 10 = .ok (.iload_n 1, 1) := by decide +kernel
theorem dX12_counted_11 : decode cX12_counted 11 = .ok (.iaload, 1) := by decide +kernel
theorem dX12_counted_12 : decode cX12_counted 12 = .ok (.goto 7, 3) := by decide +kernel
theorem dX12_counted_15 : decode cX12_counted 15 = .ok (.aload_n 0, 1) := by decide +kernel
theorem dX12_counted_16 : decode cX12_counted 16 = .ok (.getfield 232, 3) := by decide +kernel
theorem dX12_counted_19 : decode cX12_counted 19 = .ok (.ireturn, 1) := by decide +kernel
theorem dX12_count_0 : decode cX12_count 0 = .ok (.iload_n 1, 1) := by decide +kernel
theorem dX12_count_1 : decode cX12_count 1 = .ok (.i2l, 1) := by decide +kernel
theorem dX12_count_2 : decode cX12_count 2 = .ok (.lconst 0, 1) := by decide +kernel
theorem dX12_count_3 : decode cX12_count 3 = .ok (.ldc2_w 149, 3) := by decide +kernel
theorem dX12_count_6 : decode cX12_count 6 = .ok (.invokestatic 61, 3) := by decide +kernel
theorem dX12_count_9 : decode cX12_count 9 = .ok (.ifCond .eq 11, 3) := by decide +kernel
theorem dX12_count_12 : decode cX12_count 12 = .ok (.aload_n 0, 1) := by decide +kernel
theorem dX12_count_13 : decode cX12_count 13 = .ok (.iload_n 1, 1) := by decide +kernel
theorem dX12_count_14 : decode cX12_count 14 = .ok (.invokevirtual 288, 3) := by decide +kernel
theorem dX12_count_17 : decode cX12_count 17 = .ok (.goto 9, 3) := by decide +kernel
theorem dX12_count_20 : decode cX12_count 20 = .ok (.aload_n 0, 1) := by decide +kernel
theorem dX12_count_21 : decode cX12_count 21 = .ok (.bipush (-2), 2) := by decide +kernel
theorem dX12_count_23 : decode cX12_count 23 = .ok (.invokevirtual 75, 3) := by decide +kernel
theorem dX12_count_26 : decode cX12_count 26 = .ok (.ireturn, 1) := by decide +kernel
theorem dX12_sums_0 : decode cX12_sums 0 = .ok (.lload_n 1, 1) := by decide +kernel
theorem dX12_sums_1 : decode cX12_sums 1 = .ok (.lstore 5, 2) := by decide +kernel
theorem dX12_sums_3 : decode cX12_sums 3 = .ok (.iconst 0, 1) := by decide +kernel
theorem dX12_sums_4 : decode cX12_sums 4 = .ok (.istore 7, 2) := by decide +kernel
theorem dX12_sums_6 : decode cX12_sums 6 = .ok (.iload 7, 2) := by decide +kernel
theorem dX12_sums_8 : decode cX12_sums 8 = .ok (.iload 4, 2) := by decide +kernel
theorem dX12_sums_10 : decode cX12_sums 10 = .ok (.if_icmp .ge 28, 3) := by decide +kernel
theorem dX12_sums_13 : decode cX12_sums 13 = .ok (.ldc2_w 291, 3) := by decide +kernel
theorem dX12_sums_16 : decode cX12_sums 16 = .ok (.lload 5, 2) := by decide +kernel
theorem dX12_sums_18 : decode cX12_sums 18 = .ok (.lmul, 1) := by decide +kernel
theorem dX12_sums_19 : decode cX12_sums 19 = .ok (.aload_n 0, 1) := by decide +kernel
theorem dX12_sums_20 : decode cX12_sums 20 = .ok (.getfield 7, 3) := by decide +kernel
theorem dX12_sums_23 : decode cX12_sums 23 = .ok (.iload_n 3, 1) := by decide +kernel
theorem dX12_sums_24 : decode cX12_sums 24 = .ok (.iload 7, 2) := by decide +kernel
theorem dX12_sums_26 : decode cX12_sums 26 = .ok (.iadd, 1) := by decide +kernel
theorem dX12_sums_27 : decode cX12_sums 27 = .ok (.iaload, 1) := by decide +kernel
theorem dX12_sums_28 : decode cX12_sums 28 = .ok (.i2l, 1) := by decide +kernel
theorem dX12_sums_29 : decode cX12_sums 29 = .ok (.ladd, 1) := by decide +kernel
theorem dX12_sums_30 : decode cX12_sums 30 = .ok (.lstore 5, 2) := by decide +kernel
theorem dX12_sums_32 : decode cX12_sums 32 = .ok (.iinc 7 1, 3) := by decide +kernel
theorem dX12_sums_35 : decode cX12_sums 35 = .ok (.goto (-29), 3) := by decide +kernel
theorem dX12_sums_38 : decode cX12_sums 38 = .ok (.lload 5, 2) := by decide +kernel
theorem dX12_sums_40 : decode cX12_sums 40 = .ok (.lreturn, 1) := by decide +kernel
theorem dX12_digest_0 : decode cX12_digest 0 = .ok (.ldc2_w 293, 3) := by decide +kernel
theorem dX12_digest_3 : decode cX12_digest 3 = .ok (.lstore_n 1, 1) := by decide +kernel
theorem dX12_digest_4 : decode cX12_digest 4 = .ok (.iconst 0, 1) := by decide +kernel
theorem dX12_digest_5 : decode cX12_digest 5 = .ok (.istore_n 3, 1) := by decide +kernel
theorem dX12_digest_6 : decode cX12_digest 6 = .ok (.iload_n 3, 1) := by decide +kernel
theorem dX12_digest_7 : decode cX12_digest 7 = .ok (.bipush 7, 2) := by decide +kernel
theorem dX12_digest_9 : decode cX12_digest 9 = .ok (.if_icmp .ge 22, 3) := by decide +kernel
theorem dX12_digest_12 : decode cX12_digest 12 = .ok (.ldc2_w 291, 3) := by decide +kernel
theorem dX12_digest_15 : decode cX12_digest 15 = .ok (.lload_n 1, 1) := by decide +kernel
theorem dX12_digest_16 : decode cX12_digest 16 = .ok (.lmul, 1) := by decide +kernel
theorem dX12_digest_17 : decode cX12_digest 17 = .ok (.aload_n 0, 1) := by decide +kernel
theorem dX12_digest_18 : decode cX12_digest 18 = .ok (.iload_n 3, 1) := by decide +kernel
theorem dX12_digest_19 : decode cX12_digest 19 = .ok (.invokevirtual 288, 3) := by decide +kernel
theorem dX12_digest_22 : decode cX12_digest 22 = .ok (.i2l, 1) := by decide +kernel
theorem dX12_digest_23 : decode cX12_digest 23 = .ok (.ladd, 1) := by decide +kernel
theorem dX12_digest_24 : decode cX12_digest 24 = .ok (.lstore_n 1, 1) := by decide +kernel
theorem dX12_digest_25 : decode cX12_digest 25 = .ok (.iinc 3 1, 3) := by decide +kernel
theorem dX12_digest_28 : decode cX12_digest 28 = .ok (.goto (-22), 3) := by decide +kernel
theorem dX12_digest_31 : decode cX12_digest 31 = .ok (.aload_n 0, 1) := by decide +kernel
theorem dX12_digest_32 : decode cX12_digest 32 = .ok (.lload_n 1, 1) := by decide +kernel
theorem dX12_digest_33 : decode cX12_digest 33 = .ok (.bipush 6, 2) := by decide +kernel
theorem dX12_digest_35 : decode cX12_digest 35 = .ok (.iconst 5, 1) := by decide +kernel
theorem dX12_digest_36 : decode cX12_digest 36 = .ok (.aload_n 0, 1) := by decide +kernel
theorem dX12_digest_37 : decode cX12_digest 37 = .ok (.invokevirtual 57, 3) := by decide +kernel
theorem dX12_digest_40 : decode cX12_digest 40 = .ok (.imul, 1) := by decide +kernel
theorem dX12_digest_41 : decode cX12_digest 41 = .ok (.invokevirtual 295, 3) := by decide +kernel
theorem dX12_digest_44 : decode cX12_digest 44 = .ok (.lstore_n 1, 1) := by decide +kernel
theorem dX12_digest_45 : decode cX12_digest 45 = .ok (.aload_n 0, 1) := by decide +kernel
theorem dX12_digest_46 : decode cX12_digest 46 = .ok (.lload_n 1, 1) := by decide +kernel
theorem dX12_digest_47 : decode cX12_digest 47 = .ok (.bipush 41, 2) := by decide +kernel
theorem dX12_digest_49 : decode cX12_digest 49 = .ok (.aload_n 0, 1) := by decide +kernel
theorem dX12_digest_50 : decode cX12_digest 50 = .ok (.getfield 7, 3) := by decide +kernel
theorem dX12_digest_53 : decode cX12_digest 53 = .ok (.iconst 3, 1) := by decide +kernel
theorem dX12_digest_54 : decode cX12_digest 54 = .ok (.iaload, 1) := by decide +kernel
theorem dX12_digest_55 : decode cX12_digest 55 = .ok (.invokevirtual 295, 3) := by decide +kernel
theorem dX12_digest_58 : decode cX12_digest 58 = .ok (.lstore_n 1, 1) := by decide +kernel
theorem dX12_digest_59 : decode cX12_digest 59 = .ok (.aload_n 0, 1) := by decide +kernel
theorem dX12_digest_60 : decode cX12_digest 60 = .ok (.lload_n 1, 1) := by decide +kernel
theorem dX12_digest_61 : decode cX12_digest 61 = .ok (.bipush 47, 2) := by decide +kernel
theorem dX12_digest_63 : decode cX12_digest 63 = .ok (.iconst 3, 1) := by decide +kernel
theorem dX12_digest_64 : decode cX12_digest 64 = .ok (.aload_n 0, 1) := by decide +kernel
theorem dX12_digest_65 : decode cX12_digest 65 = .ok (.getfield 7, 3) := by decide +kernel
theorem dX12_digest_68 : decode cX12_digest 68 = .ok (.iconst 4, 1) := by decide +kernel
theorem dX12_digest_69 : decode cX12_digest 69 = .ok (.iaload, 1) := by decide +kernel
theorem dX12_digest_70 : decode cX12_digest 70 = .ok (.imul, 1) := by decide +kernel
theorem dX12_digest_71 : decode cX12_digest 71 = .ok (.invokevirtual 295, 3) := by decide +kernel
theorem dX12_digest_74 : decode cX12_digest 74 = .ok (.lstore_n 1, 1) := by decide +kernel
theorem dX12_digest_75 : decode cX12_digest 75 = .ok (.ldc2_w 291, 3) := by decide +kernel
theorem dX12_digest_78 : decode cX12_digest 78 = .ok (.ldc2_w 291, 3) := by decide +kernel
theorem dX12_digest_81 : decode cX12_digest 81 = .ok (.lload_n 1, 1) := by decide +kernel
theorem dX12_digest_82 : decode cX12_digest 82 = .ok (.lmul, 1) := by decide +kernel
theorem dX12_digest_83 : decode cX12_digest 83 = .ok (.aload_n 0, 1) := by decide +kernel
theorem dX12_digest_84 : decode cX12_digest 84 = .ok (.getfield 207, 3) := by decide +kernel
theorem dX12_digest_87 : decode cX12_digest 87 = .ok (.ladd, 1) := by decide +kernel
theorem dX12_digest_88 : decode cX12_digest 88 = .ok (.lmul, 1) := by decide +kernel
theorem dX12_digest_89 : decode cX12_digest 89 = .ok (.aload_n 0, 1) := by decide +kernel
theorem dX12_digest_90 : decode cX12_digest 90 = .ok (.getfield 23, 3) := by decide +kernel
theorem dX12_digest_93 : decode cX12_digest 93 = .ok (.ladd, 1) := by decide +kernel
theorem dX12_digest_94 : decode cX12_digest 94 = .ok (.lreturn, 1) := by decide +kernel
theorem dJ6_bitCount_0f7a4_0 : decode cJ6_bitCount_0f7a4 0 = .ok (.iload_n 0, 1) := by decide +kernel
theorem dJ6_bitCount_0f7a4_1 : decode cJ6_bitCount_0f7a4 1 = .ok (.iload_n 0, 1) := by decide +kernel
theorem dJ6_bitCount_0f7a4_2 : decode cJ6_bitCount_0f7a4 2 = .ok (.iconst 1, 1) := by decide +kernel
theorem dJ6_bitCount_0f7a4_3 : decode cJ6_bitCount_0f7a4 3 = .ok (.iushr, 1) := by decide +kernel
theorem dJ6_bitCount_0f7a4_4 : decode cJ6_bitCount_0f7a4 4 = .ok (.ldc_w 265, 3) := by decide +kernel
theorem dJ6_bitCount_0f7a4_7 : decode cJ6_bitCount_0f7a4 7 = .ok (.iand, 1) := by decide +kernel
theorem dJ6_bitCount_0f7a4_8 : decode cJ6_bitCount_0f7a4 8 = .ok (.isub, 1) := by decide +kernel
theorem dJ6_bitCount_0f7a4_9 : decode cJ6_bitCount_0f7a4 9 = .ok (.istore_n 0, 1) := by decide +kernel
theorem dJ6_bitCount_0f7a4_10 : decode cJ6_bitCount_0f7a4 10 = .ok (.iload_n 0, 1) := by decide +kernel
theorem dJ6_bitCount_0f7a4_11 : decode cJ6_bitCount_0f7a4 11 = .ok (.ldc_w 266, 3) := by decide +kernel
theorem dJ6_bitCount_0f7a4_14 : decode cJ6_bitCount_0f7a4 14 = .ok (.iand, 1) := by decide +kernel
theorem dJ6_bitCount_0f7a4_15 : decode cJ6_bitCount_0f7a4 15 = .ok (.iload_n 0, 1) := by decide +kernel
theorem dJ6_bitCount_0f7a4_16 : decode cJ6_bitCount_0f7a4 16 = .ok (.iconst 2, 1) := by decide +kernel
theorem dJ6_bitCount_0f7a4_17 : decode cJ6_bitCount_0f7a4 17 = .ok (.iushr, 1) := by decide +kernel
theorem dJ6_bitCount_0f7a4_18 : decode cJ6_bitCount_0f7a4 18 = .ok (.ldc_w 266, 3) := by decide +kernel
theorem dJ6_bitCount_0f7a4_21 : decode cJ6_bitCount_0f7a4 21 = .ok (.iand, 1) := by decide +kernel
theorem dJ6_bitCount_0f7a4_22 : decode cJ6_bitCount_0f7a4 22 = .ok (.iadd, 1) := by decide +kernel
theorem dJ6_bitCount_0f7a4_23 : decode cJ6_bitCount_0f7a4 23 = .ok (.istore_n 0, 1) := by decide +kernel
theorem dJ6_bitCount_0f7a4_24 : decode cJ6_bitCount_0f7a4 24 = .ok (.iload_n 0, 1) := by decide +kernel
theorem dJ6_bitCount_0f7a4_25 : decode cJ6_bitCount_0f7a4 25 = .ok (.iload_n 0, 1) := by decide +kernel
theorem dJ6_bitCount_0f7a4_26 : decode cJ6_bitCount_0f7a4 26 = .ok (.iconst 4, 1) := by decide +kernel
theorem dJ6_bitCount_0f7a4_27 : decode cJ6_bitCount_0f7a4 27 = .ok (.iushr, 1) := by decide +kernel
theorem dJ6_bitCount_0f7a4_28 : decode cJ6_bitCount_0f7a4 28 = .ok (.iadd, 1) := by decide +kernel
theorem dJ6_bitCount_0f7a4_29 : decode cJ6_bitCount_0f7a4 29 = .ok (.ldc_w 267, 3) := by decide +kernel
theorem dJ6_bitCount_0f7a4_32 : decode cJ6_bitCount_0f7a4 32 = .ok (.iand, 1) := by decide +kernel
theorem dJ6_bitCount_0f7a4_33 : decode cJ6_bitCount_0f7a4 33 = .ok (.istore_n 0, 1) := by decide +kernel
theorem dJ6_bitCount_0f7a4_34 : decode cJ6_bitCount_0f7a4 34 = .ok (.iload_n 0, 1) := by decide +kernel
theorem dJ6_bitCount_0f7a4_35 : decode cJ6_bitCount_0f7a4 35 = .ok (.iload_n 0, 1) := by decide +kernel
theorem dJ6_bitCount_0f7a4_36 : decode cJ6_bitCount_0f7a4 36 = .ok (.bipush 8, 2) := by decide +kernel
theorem dJ6_bitCount_0f7a4_38 : decode cJ6_bitCount_0f7a4 38 = .ok (.iushr, 1) := by decide +kernel
theorem dJ6_bitCount_0f7a4_39 : decode cJ6_bitCount_0f7a4 39 = .ok (.iadd, 1) := by decide +kernel
theorem dJ6_bitCount_0f7a4_40 : decode cJ6_bitCount_0f7a4 40 = .ok (.istore_n 0, 1) := by decide +kernel
theorem dJ6_bitCount_0f7a4_41 : decode cJ6_bitCount_0f7a4 41 = .ok (.iload_n 0, 1) := by decide +kernel
theorem dJ6_bitCount_0f7a4_42 : decode cJ6_bitCount_0f7a4 42 = .ok (.iload_n 0, 1) := by decide +kernel
theorem dJ6_bitCount_0f7a4_43 : decode cJ6_bitCount_0f7a4 43 = .ok (.bipush 16, 2) := by decide +kernel
theorem dJ6_bitCount_0f7a4_45 : decode cJ6_bitCount_0f7a4 45 = .ok (.iushr, 1) := by decide +kernel
theorem dJ6_bitCount_0f7a4_46 : decode cJ6_bitCount_0f7a4 46 = .ok (.iadd, 1) := by decide +kernel
theorem dJ6_bitCount_0f7a4_47 : decode cJ6_bitCount_0f7a4 47 = .ok (.istore_n 0, 1) := by decide +kernel
theorem dJ6_bitCount_0f7a4_48 : decode cJ6_bitCount_0f7a4 48 = .ok (.iload_n 0, 1) := by decide +kernel
theorem dJ6_bitCount_0f7a4_49 : decode cJ6_bitCount_0f7a4 49 = .ok (.bipush 63, 2) := by decide +kernel
theorem dJ6_bitCount_0f7a4_51 : decode cJ6_bitCount_0f7a4 51 = .ok (.iand, 1) := by decide +kernel
theorem dJ6_bitCount_0f7a4_52 : decode cJ6_bitCount_0f7a4 52 = .ok (.ireturn, 1) := by decide +kernel
theorem dJ9_abs_0f7a4_0 : decode cJ9_abs_0f7a4 0 = .ok (.iload_n 0, 1) := by decide +kernel
theorem dJ9_abs_0f7a4_1 : decode cJ9_abs_0f7a4 1 = .ok (.ifCond .ge 8, 3) := by decide +kernel
theorem dJ9_abs_0f7a4_4 : decode cJ9_abs_0f7a4 4 = .ok (.iload_n 0, 1) := by decide +kernel
theorem dJ9_abs_0f7a4_5 : decode cJ9_abs_0f7a4 5 = .ok (.ineg, 1) := by decide +kernel
theorem dJ9_abs_0f7a4_6 : decode cJ9_abs_0f7a4 6 = .ok (.goto 4, 3) := by decide +kernel
theorem dJ9_abs_0f7a4_9 : decode cJ9_abs_0f7a4 9 = .ok (.iload_n 0, 1) := by decide +kernel
theorem dJ9_abs_0f7a4_10 : decode cJ9_abs_0f7a4 10 = .ok (.ireturn, 1) := by decide +kernel
theorem dJ9_max_7cf53_0 : decode cJ9_max_7cf53 0 = .ok (.iload_n 0, 1) := by decide +kernel
theorem dJ9_max_7cf53_1 : decode cJ9_max_7cf53 1 = .ok (.iload_n 1, 1) := by decide +kernel
theorem dJ9_max_7cf53_2 : decode cJ9_max_7cf53 2 = .ok (.if_icmp .lt 7, 3) := by decide +kernel
theorem dJ9_max_7cf53_5 : decode cJ9_max_7cf53 5 = .ok (.iload_n 0, 1) := by decide +kernel
theorem dJ9_max_7cf53_6 : decode cJ9_max_7cf53 6 = .ok (.goto 4, 3) := by decide +kernel
theorem dJ9_max_7cf53_9 : decode cJ9_max_7cf53 9 = .ok (.iload_n 1, 1) := by decide +kernel
theorem dJ9_max_7cf53_10 : decode cJ9_max_7cf53 10 = .ok (.ireturn, 1) := by decide +kernel
theorem dJ0_length_8abf5_0 : decode cJ0_length_8abf5 0 = .ok (.aload_n 0, 1) := by decide +kernel
theorem dJ0_length_8abf5_1 : decode cJ0_length_8abf5 1 = .ok (.getfield 9, 3) := by decide +kernel
theorem dJ0_length_8abf5_4 : decode cJ0_length_8abf5 4 = .ok (.arraylength, 1) := by decide +kernel
theorem dJ0_length_8abf5_5 : decode cJ0_length_8abf5 5 = .ok (.aload_n 0, 1) := by decide +kernel
theorem dJ0_length_8abf5_6 : decode cJ0_length_8abf5 6 = .ok (.invokevirtual 335, 3) := by decide +kernel
theorem dJ0_length_8abf5_9 : decode cJ0_length_8abf5 9 = .ok (.ishr, 1) := by decide +kernel
theorem dJ0_length_8abf5_10 : decode cJ0_length_8abf5 10 = .ok (.ireturn, 1) := by decide +kernel
theorem dJ0_charAt_5068e_0 : decode cJ0_charAt_5068e 0 = .ok (.aload_n 0, 1) := by decide +kernel
theorem dJ0_charAt_5068e_1 : decode cJ0_charAt_5068e 1 = .ok (.invokevirtual 492, 3) := by decide +kernel
theorem dJ0_charAt_5068e_4 : decode cJ0_charAt_5068e 4 = .ok (.ifCond .eq 12, 3) := by decide +kernel
theorem dJ0_charAt_5068e_7 : decode cJ0_charAt_5068e 7 = .ok (.aload_n 0, 1) := by decide +kernel
theorem dJ0_charAt_5068e_8 : decode cJ0_charAt_5068e 8 = .ok (.getfield 9, 3) := by decide +kernel
theorem dJ0_charAt_5068e_11 : decode cJ0_charAt_5068e 11 = .ok (.iload_n 1, 1) := by decide +kernel
theorem dJ0_charAt_5068e_12 : decode cJ0_charAt_5068e 12 = .ok (.invokestatic 495, 3) := by decide +kernel
theorem dJ0_charAt_5068e_15 : decode cJ0_charAt_5068e 15 = .ok (.ireturn, 1) := by decide +kernel
theorem dJ0_charAt_5068e_16 : decode cJ0_charAt_5068e 16 = .ok (.aload_n 0, 1) := by decide +kernel
theorem dJ0_charAt_5068e_17 : decode cJ0_charAt_5068e 17 = .ok (.getfield 9, 3) := by decide +kernel
theorem dJ0_charAt_5068e_20 : decode cJ0_charAt_5068e 20 = .ok (.iload_n 1, 1) := by decide +kernel
theorem dJ0_charAt_5068e_21 : decode cJ0_charAt_5068e 21 = .ok (.invokestatic 498, 3) := by decide +kernel
theorem dJ0_charAt_5068e_24 : decode cJ0_charAt_5068e 24 = .ok (.ireturn, 1) := by decide +kernel
theorem dJ0_coder_7d493_0 : decode cJ0_coder_7d493 0 = .ok (.getstatic 38, 3) := by decide +kernel
theorem dJ0_coder_7d493_3 : decode cJ0_coder_7d493 3 = .ok (.ifCond .eq 10, 3) := by decide +kernel
theorem dJ0_coder_7d493_6 : decode cJ0_coder_7d493 6 = .ok (.aload_n 0, 1) := by decide +kernel
theorem dJ0_coder_7d493_7 : decode cJ0_coder_7d493 7 = .ok (.getfield 15, 3) := by decide +kernel
theorem dJ0_coder_7d493_10 : decode cJ0_coder_7d493 10 = .ok (.goto 4, 3) := by decide +kernel
theorem dJ0_coder_7d493_13 : decode cJ0_coder_7d493 13 = .ok (.iconst 1, 1) := by decide +kernel
theorem dJ0_coder_7d493_14 : decode cJ0_coder_7d493 14 = .ok (.ireturn, 1) := by decide +kernel
theorem dJ0_isLatin1_aae02_0 : decode cJ0_isLatin1_aae02 0 = .ok (.getstatic 38, 3) := by decide +kernel
theorem dJ0_isLatin1_aae02_3 : decode cJ0_isLatin1_aae02 3 = .ok (.ifCond .eq 14, 3) := by decide +kernel
theorem dJ0_isLatin1_aae02_6 : decode cJ0_isLatin1_aae02 6 = .ok (.aload_n 0, 1) := by decide +kernel
theorem dJ0_isLatin1_aae02_7 : decode cJ0_isLatin1_aae02 7 = .ok (.getfield 15, 3) := by decide +kernel
theorem dJ0_isLatin1_aae02_10 : decode cJ0_isLatin1_aae02 10 = .ok (.ifCond .ne 7, 3) := by decide +kernel
theorem dJ0_isLatin1_aae02_13 : decode cJ0_isLatin1_aae02 13 = .ok (.iconst 1, 1) := by decide +kernel
theorem dJ0_isLatin1_aae02_14 : decode cJ0_isLatin1_aae02 14 = .ok (.goto 4, 3) := by decide +kernel
theorem dJ0_isLatin1_aae02_17 : decode cJ0_isLatin1_aae02 17 = .ok (.iconst 0, 1) := by decide +kernel
theorem dJ0_isLatin1_aae02_18 : decode cJ0_isLatin1_aae02 18 = .ok (.ireturn, 1) := by decide +kernel
theorem dJ0_checkIndex_df160_0 : decode cJ0_checkIndex_df160 0 = .ok (.iload_n 0, 1) := by decide +kernel
theorem dJ0_checkIndex_df160_1 : decode cJ0_checkIndex_df160 1 = .ok (.iload_n 1, 1) := by decide +kernel
theorem dJ0_checkIndex_df160_2 : decode cJ0_checkIndex_df160 2 = .ok (.getstatic 1053, 3) := by decide +kernel
theorem dJ0_checkIndex_df160_5 : decode cJ0_checkIndex_df160 5 = .ok (.invokestatic 1059, 3) := by decide +kernel
theorem dJ0_checkIndex_df160_8 : decode cJ0_checkIndex_df160 8 = .ok (.pop, 1) := by decide +kernel
theorem dJ0_checkIndex_df160_9 : decode cJ0_checkIndex_df160 9 = .ok (.return_, 1) := by decide +kernel
theorem dJ1_charAt_3b067_0 : decode cJ1_charAt_3b067 0 = .ok (.iload_n 1, 1) := by decide +kernel
theorem dJ1_charAt_3b067_1 : decode cJ1_charAt_3b067 1 = .ok (.aload_n 0, 1) := by decide +kernel
theorem dJ1_charAt_3b067_2 : decode cJ1_charAt_3b067 2 = .ok (.arraylength, 1) := by decide +kernel
theorem dJ1_charAt_3b067_3 : decode cJ1_charAt_3b067 3 = .ok (.invokestatic 9, 3) := by decide +kernel
theorem dJ1_charAt_3b067_6 : decode cJ1_charAt_3b067 6 = .ok (.aload_n 0, 1) := by decide +kernel
theorem dJ1_charAt_3b067_7 : decode cJ1_charAt_3b067 7 = .ok (.iload_n 1, 1) := by decide +kernel
theorem dJ1_charAt_3b067_8 : decode cJ1_charAt_3b067 8 = .ok (.baload, 1) := by decide +kernel
theorem dJ1_charAt_3b067_9 : decode cJ1_charAt_3b067 9 = .ok (.sipush 255, 3) := by decide +kernel
theorem dJ1_charAt_3b067_12 : decode cJ1_charAt_3b067 12 = .ok (.iand, 1) := by decide +kernel
theorem dJ1_charAt_3b067_13 : decode cJ1_charAt_3b067 13 = .ok (.i2c, 1) := by decide +kernel
theorem dJ1_charAt_3b067_14 : decode cJ1_charAt_3b067 14 = .ok (.ireturn, 1) := by decide +kernel
theorem dJ2_getChar_3b067_0 : decode cJ2_getChar_3b067 0 = .ok (.getstatic 44, 3) := by decide +kernel
theorem dJ2_getChar_3b067_3 : decode cJ2_getChar_3b067 3 = .ok (.ifCond .ne 25, 3) := by decide +kernel
theorem dJ2_getChar_3b067_6 : decode cJ2_getChar_3b067 6 = .ok (.iload_n 1, 1) := by decide +kernel
theorem dJ2_getChar_3b067_7 : decode cJ2_getChar_3b067 7 = .ok (.ifCond .lt 11, 3) := by decide +kernel
theorem dJ2_getChar_3b067_10 : decode cJ2_getChar_3b067 10 = .ok (.iload_n 1, 1) := by decide +kernel
theorem dJ2_getChar_3b067_11 : decode cJ2_getChar_3b067 11 = .ok (.aload_n 0, 1) := by decide +kernel
theorem dJ2_getChar_3b067_12 : decode cJ2_getChar_3b067 12 = .ok (.invokestatic 48, 3) := by decide +kernel
theorem dJ2_getChar_3b067_15 : decode cJ2_getChar_3b067 15 = .ok (.if_icmp .lt 13, 3) := by decide +kernel
theorem dJ2_getChar_3b067_18 : decode cJ2_getChar_3b067 18 = .ok (.new 52, 3) := by decide +kernel
theorem dJ2_getChar_3b067_21 : decode cJ2_getChar_3b067 21 = .ok (.dup, 1) := by decide +kernel
theorem dJ2_getChar_3b067_22 : decode cJ2_getChar_3b067 22 = .ok (.ldc 54, 2) := by decide +kernel
theorem dJ2_getChar_3b067_24 : decode cJ2_getChar_3b067 24 = .ok (.invokespecial 56, 3) := by decide +kernel
theorem dJ2_getChar_3b067_27 : decode cJ2_getChar_3b067 27 = .ok (.athrow, 1) := by decide +kernel
theorem dJ2_getChar_3b067_28 : decode cJ2_getChar_3b067 28 = .ok (.iload_n 1, 1) := by decide +kernel
theorem dJ2_getChar_3b067_29 : decode cJ2_getChar_3b067 29 = .ok (.iconst 1, 1) := by decide +kernel
theorem dJ2_getChar_3b067_30 : decode cJ2_getChar_3b067 30 = .ok (.ishl, 1) := by decide +kernel
theorem dJ2_getChar_3b067_31 : decode cJ2_getChar_3b067 31 = .ok (.istore_n 1, 1) := by decide +kernel
theorem dJ2_getChar_3b067_32 : decode cJ2_getChar_3b067 32 = .ok (.aload_n 0, 1) := by decide +kernel
theorem dJ2_getChar_3b067_33 : decode cJ2_getChar_3b067 33 = .ok (.iload_n 1, 1) := by decide +kernel
theorem dJ2_getChar_3b067_34 : decode cJ2_getChar_3b067 34 = .ok (.iinc 1 1, 3) := by decide +kernel
theorem dJ2_getChar_3b067_37 : decode cJ2_getChar_3b067 37 = .ok (.baload, 1) := by decide +kernel
theorem dJ2_getChar_3b067_38 : decode cJ2_getChar_3b067 38 = .ok (.sipush 255, 3) := by decide +kernel
theorem dJ2_getChar_3b067_41 : decode cJ2_getChar_3b067 41 = .ok (.iand, 1) := by decide +kernel
theorem dJ2_getChar_3b067_42 : decode cJ2_getChar_3b067 42 = .ok (.getstatic 59, 3) := by decide +kernel
theorem dJ2_getChar_3b067_45 : decode cJ2_getChar_3b067 45 = .ok (.ishl, 1) := by decide +kernel
theorem dJ2_getChar_3b067_46 : decode cJ2_getChar_3b067 46 = .ok (.aload_n 0, 1) := by decide +kernel
theorem dJ2_getChar_3b067_47 : decode cJ2_getChar_3b067 47 = .ok (.iload_n 1, 1) := by decide +kernel
theorem dJ2_getChar_3b067_48 : decode cJ2_getChar_3b067 48 = .ok (.baload, 1) := by decide +kernel
theorem dJ2_getChar_3b067_49 : decode cJ2_getChar_3b067 49 = .ok (.sipush 255, 3) := by decide +kernel
theorem dJ2_getChar_3b067_52 : decode cJ2_getChar_3b067 52 = .ok (.iand, 1) := by decide +kernel
theorem dJ2_getChar_3b067_53 : decode cJ2_getChar_3b067 53 = .ok (.getstatic 63, 3) := by decide +kernel
theorem dJ2_getChar_3b067_56 : decode cJ2_getChar_3b067 56 = .ok (.ishl, 1) := by decide +kernel
theorem dJ2_getChar_3b067_57 : decode cJ2_getChar_3b067 57 = .ok (.ior, 1) := by decide +kernel
theorem dJ2_getChar_3b067_58 : decode cJ2_getChar_3b067 58 = .ok (.i2c, 1) := by decide +kernel
theorem dJ2_getChar_3b067_59 : decode cJ2_getChar_3b067 59 = .ok (.ireturn, 1) := by decide +kernel
theorem dJ2_length_9d52b_0 : decode cJ2_length_9d52b 0 = .ok (.aload_n 0, 1) := by decide +kernel
theorem dJ2_length_9d52b_1 : decode cJ2_length_9d52b 1 = .ok (.arraylength, 1) := by decide +kernel
theorem dJ2_length_9d52b_2 : decode cJ2_length_9d52b 2 = .ok (.iconst 1, 1) := by decide +kernel
theorem dJ2_length_9d52b_3 : decode cJ2_length_9d52b 3 = .ok (.ishr, 1) := by decide +kernel
theorem dJ2_length_9d52b_4 : decode cJ2_length_9d52b 4 = .ok (.ireturn, 1) := by decide +kernel
theorem dJ2_charAt_3b067_0 : decode cJ2_charAt_3b067 0 = .ok (.iload_n 1, 1) := by decide +kernel
theorem dJ2_charAt_3b067_1 : decode cJ2_charAt_3b067 1 = .ok (.aload_n 0, 1) := by decide +kernel
theorem dJ2_charAt_3b067_2 : decode cJ2_charAt_3b067 2 = .ok (.invokestatic 67, 3) := by decide +kernel
theorem dJ2_charAt_3b067_5 : decode cJ2_charAt_3b067 5 = .ok (.aload_n 0, 1) := by decide +kernel
theorem dJ2_charAt_3b067_6 : decode cJ2_charAt_3b067 6 = .ok (.iload_n 1, 1) := by decide +kernel
theorem dJ2_charAt_3b067_7 : decode cJ2_charAt_3b067 7 = .ok (.invokestatic 71, 3) := by decide +kernel
theorem dJ2_charAt_3b067_10 : decode cJ2_charAt_3b067 10 = .ok (.ireturn, 1) := by decide +kernel
theorem dJ2_checkIndex_2214a_0 : decode cJ2_checkIndex_2214a 0 = .ok (.iload_n 0, 1) := by decide +kernel
theorem dJ2_checkIndex_2214a_1 : decode cJ2_checkIndex_2214a 1 = .ok (.aload_n 1, 1) := by decide +kernel
theorem dJ2_checkIndex_2214a_2 : decode cJ2_checkIndex_2214a 2 = .ok (.invokestatic 48, 3) := by decide +kernel
theorem dJ2_checkIndex_2214a_5 : decode cJ2_checkIndex_2214a 5 = .ok (.invokestatic 414, 3) := by decide +kernel
theorem dJ2_checkIndex_2214a_8 : decode cJ2_checkIndex_2214a 8 = .ok (.return_, 1) := by decide +kernel
theorem dJ3_checkIndex_8e157_0 : decode cJ3_checkIndex_8e157 0 = .ok (.iload_n 0, 1) := by decide +kernel
theorem dJ3_checkIndex_8e157_1 : decode cJ3_checkIndex_8e157 1 = .ok (.ifCond .lt 8, 3) := by decide +kernel
theorem dJ3_checkIndex_8e157_4 : decode cJ3_checkIndex_8e157 4 = .ok (.iload_n 0, 1) := by decide +kernel
theorem dJ3_checkIndex_8e157_5 : decode cJ3_checkIndex_8e157 5 = .ok (.iload_n 1, 1) := by decide +kernel
theorem dJ3_checkIndex_8e157_6 : decode cJ3_checkIndex_8e157 6 = .ok (.if_icmp .lt 10, 3) := by decide +kernel
theorem dJ3_checkIndex_8e157_9 : decode cJ3_checkIndex_8e157 9 = .ok (.aload_n 2, 1) := by decide +kernel
theorem dJ3_checkIndex_8e157_10 : decode cJ3_checkIndex_8e157 10 = .ok (.iload_n 0, 1) := by decide +kernel
theorem dJ3_checkIndex_8e157_11 : decode cJ3_checkIndex_8e157 11 = .ok (.iload_n 1, 1) := by decide +kernel
theorem dJ3_checkIndex_8e157_12 : decode cJ3_checkIndex_8e157 12 = .ok (.invokestatic 95, 3) := by decide +kernel
theorem dJ3_checkIndex_8e157_15 : decode cJ3_checkIndex_8e157 15 = .ok (.athrow, 1) := by decide +kernel
theorem dJ3_checkIndex_8e157_16 : decode cJ3_checkIndex_8e157 16 = .ok (.iload_n 0, 1) := by decide +kernel
theorem dJ3_checkIndex_8e157_17 : decode cJ3_checkIndex_8e157 17 = .ok (.ireturn, 1) := by decide +kernel
end
section
theorem dL_law_0 : decode cL_law 0 = .ok (.new 7, 3) := by decide +kernel
theorem dL_law_3 : decode cL_law 3 = .ok (.dup, 1) := by decide +kernel
theorem dL_law_4 : decode cL_law 4 = .ok (.invokespecial 9, 3) := by decide +kernel
theorem dL_law_7 : decode cL_law 7 = .ok (.astore_n 1, 1) := by decide +kernel
theorem dL_law_8 : decode cL_law 8 = .ok (.new 10, 3) := by decide +kernel
theorem dL_law_11 : decode cL_law 11 = .ok (.dup, 1) := by decide +kernel
theorem dL_law_12 : decode cL_law 12 = .ok (.invokespecial 12, 3) := by decide +kernel
theorem dL_law_15 : decode cL_law 15 = .ok (.astore_n 2, 1) := by decide +kernel
theorem dL_law_16 : decode cL_law 16 = .ok (.iconst 0, 1) := by decide +kernel
theorem dL_law_17 : decode cL_law 17 = .ok (.istore_n 3, 1) := by decide +kernel
theorem dL_law_18 : decode cL_law 18 = .ok (.iload_n 3, 1) := by decide +kernel
theorem dL_law_19 : decode cL_law 19 = .ok (.aload_n 0, 1) := by decide +kernel
theorem dL_law_20 : decode cL_law 20 = .ok (.arraylength, 1) := by decide +kernel
theorem dL_law_21 : decode cL_law 21 = .ok (.bipush 6, 2) := by decide +kernel
theorem dL_law_23 : decode cL_law 23 = .ok (.isub, 1) := by decide +kernel
theorem dL_law_24 : decode cL_law 24 = .ok (.if_icmp .gt 1277, 3) := by decide +kernel
theorem dL_law_27 : decode cL_law 27 = .ok (.aload_n 0, 1) := by decide +kernel
theorem dL_law_28 : decode cL_law 28 = .ok (.iload_n 3, 1) := by decide +kernel
theorem dL_law_29 : decode cL_law 29 = .ok (.iaload, 1) := by decide +kernel
theorem dL_law_30 : decode cL_law 30 = .ok (.bipush 63, 2) := by decide +kernel
theorem dL_law_32 : decode cL_law 32 = .ok (.iand, 1) := by decide +kernel
theorem dL_law_33 : decode cL_law 33 = .ok (.tableswitch 1262 0 34 #[155, 178, 201, 264, 297, 330, 343, 366, 379, 392, 425, 468, 511, 554, 587, 630, 653, 666, 699, 732, 765, 828, 871, 924, 967, 980, 1003, 1026, 1079, 1132, 1156, 1179, 1202, 1225, 1248], 155) := by decide +kernel
theorem dL_law_188 : decode cL_law 188 = .ok (.aload_n 1, 1) := by decide +kernel
theorem dL_law_189 : decode cL_law 189 = .ok (.aload_n 0, 1) := by decide +kernel
theorem dL_law_190 : decode cL_law 190 = .ok (.iload_n 3, 1) := by decide +kernel
theorem dL_law_191 : decode cL_law 191 = .ok (.iconst 1, 1) := by decide +kernel
theorem dL_law_192 : decode cL_law 192 = .ok (.iadd, 1) := by decide +kernel
theorem dL_law_193 : decode cL_law 193 = .ok (.iaload, 1) := by decide +kernel
theorem dL_law_194 : decode cL_law 194 = .ok (.invokevirtual 13, 3) := by decide +kernel
theorem dL_law_197 : decode cL_law 197 = .ok (.aload_n 2, 1) := by decide +kernel
theorem dL_law_198 : decode cL_law 198 = .ok (.aload_n 0, 1) := by decide +kernel
theorem dL_law_199 : decode cL_law 199 = .ok (.iload_n 3, 1) := by decide +kernel
theorem dL_law_200 : decode cL_law 200 = .ok (.iconst 1, 1) := by decide +kernel
theorem dL_law_201 : decode cL_law 201 = .ok (.iadd, 1) := by decide +kernel
theorem dL_law_202 : decode cL_law 202 = .ok (.iaload, 1) := by decide +kernel
theorem dL_law_203 : decode cL_law 203 = .ok (.invokevirtual 17, 3) := by decide +kernel
theorem dL_law_206 : decode cL_law 206 = .ok (.if_icmp .eq 1089, 3) := by decide +kernel
theorem dL_law_209 : decode cL_law 209 = .ok (.iconst 0, 1) := by decide +kernel
theorem dL_law_210 : decode cL_law 210 = .ok (.ireturn, 1) := by decide +kernel
theorem dL_law_211 : decode cL_law 211 = .ok (.aload_n 1, 1) := by decide +kernel
theorem dL_law_212 : decode cL_law 212 = .ok (.aload_n 0, 1) := by decide +kernel
theorem dL_law_213 : decode cL_law 213 = .ok (.iload_n 3, 1) := by decide +kernel
theorem dL_law_214 : decode cL_law 214 = .ok (.iconst 1, 1) := by decide +kernel
theorem dL_law_215 : decode cL_law 215 = .ok (.iadd, 1) := by decide +kernel
theorem dL_law_216 : decode cL_law 216 = .ok (.iaload, 1) := by decide +kernel
theorem dL_law_217 : decode cL_law 217 = .ok (.invokevirtual 18, 3) := by decide +kernel
theorem dL_law_220 : decode cL_law 220 = .ok (.aload_n 2, 1) := by decide +kernel
theorem dL_law_221 : decode cL_law 221 = .ok (.aload_n 0, 1) := by decide +kernel
theorem dL_law_222 : decode cL_law 222 = .ok (.iload_n 3, 1) := by decide +kernel
theorem dL_law_223 : decode cL_law 223 = .ok (.iconst 1, 1) := by decide +kernel
theorem dL_law_224 : decode cL_law 224 = .ok (.iadd, 1) := by decide +kernel
theorem dL_law_225 : decode cL_law 225 = .ok (.iaload, 1) := by decide +kernel
theorem dL_law_226 : decode cL_law 226 = .ok (.invokevirtual 21, 3) := by decide +kernel
theorem dL_law_229 : decode cL_law 229 = .ok (.if_icmp .eq 1066, 3) := by decide +kernel
theorem dL_law_232 : decode cL_law 232 = .ok (.iconst 0, 1) := by decide +kernel
theorem dL_law_233 : decode cL_law 233 = .ok (.ireturn, 1) := by decide +kernel
theorem dL_law_234 : decode cL_law 234 = .ok (.aload_n 1, 1) := by decide +kernel
theorem dL_law_235 : decode cL_law 235 = .ok (.aload_n 0, 1) := by decide +kernel
theorem dL_law_236 : decode cL_law 236 = .ok (.iload_n 3, 1) := by decide +kernel
theorem dL_law_237 : decode cL_law 237 = .ok (.iconst 1, 1) := by decide +kernel
theorem dL_law_238 : decode cL_law 238 = .ok (.iadd, 1) := by decide +kernel
theorem dL_law_239 : decode cL_law 239 = .ok (.iaload, 1) := by decide +kernel
theorem dL_law_240 : decode cL_law 240 = .ok (.aload_n 0, 1) := by decide +kernel
theorem dL_law_241 : decode cL_law 241 = .ok (.iload_n 3, 1) := by decide +kernel
theorem dL_law_242 : decode cL_law 242 = .ok (.iconst 2, 1) := by decide +kernel
theorem dL_law_243 : decode cL_law 243 = .ok (.iadd, 1) := by decide +kernel
theorem dL_law_244 : decode cL_law 244 = .ok (.iaload, 1) := by decide +kernel
theorem dL_law_245 : decode cL_law 245 = .ok (.aload_n 0, 1) := by decide +kernel
theorem dL_law_246 : decode cL_law 246 = .ok (.iload_n 3, 1) := by decide +kernel
theorem dL_law_247 : decode cL_law 247 = .ok (.iconst 3, 1) := by decide +kernel
theorem dL_law_248 : decode cL_law 248 = .ok (.iadd, 1) := by decide +kernel
theorem dL_law_249 : decode cL_law 249 = .ok (.iaload, 1) := by decide +kernel
theorem dL_law_250 : decode cL_law 250 = .ok (.aload_n 0, 1) := by decide +kernel
theorem dL_law_251 : decode cL_law 251 = .ok (.iload_n 3, 1) := by decide +kernel
theorem dL_law_252 : decode cL_law 252 = .ok (.iconst 4, 1) := by decide +kernel
theorem dL_law_253 : decode cL_law 253 = .ok (.iadd, 1) := by decide +kernel
theorem dL_law_254 : decode cL_law 254 = .ok (.iaload, 1) := by decide +kernel
theorem dL_law_255 : decode cL_law 255 = .ok (.aload_n 0, 1) := by decide +kernel
theorem dL_law_256 : decode cL_law 256 = .ok (.iload_n 3, 1) := by decide +kernel
theorem dL_law_257 : decode cL_law 257 = .ok (.iconst 5, 1) := by decide +kernel
theorem dL_law_258 : decode cL_law 258 = .ok (.iadd, 1) := by decide +kernel
theorem dL_law_259 : decode cL_law 259 = .ok (.iaload, 1) := by decide +kernel
theorem dL_law_260 : decode cL_law 260 = .ok (.invokevirtual 22, 3) := by decide +kernel
theorem dL_law_263 : decode cL_law 263 = .ok (.aload_n 2, 1) := by decide +kernel
theorem dL_law_264 : decode cL_law 264 = .ok (.aload_n 0, 1) := by decide +kernel
theorem dL_law_265 : decode cL_law 265 = .ok (.iload_n 3, 1) := by decide +kernel
theorem dL_law_266 : decode cL_law 266 = .ok (.iconst 1, 1) := by decide +kernel
theorem dL_law_267 : decode cL_law 267 = .ok (.iadd, 1) := by decide +kernel
theorem dL_law_268 : decode cL_law 268 = .ok (.iaload, 1) := by decide +kernel
theorem dL_law_269 : decode cL_law 269 = .ok (.aload_n 0, 1) := by decide +kernel
theorem dL_law_270 : decode cL_law 270 = .ok (.iload_n 3, 1) := by decide +kernel
theorem dL_law_271 : decode cL_law 271 = .ok (.iconst 2, 1) := by decide +kernel
theorem dL_law_272 : decode cL_law 272 = .ok (.iadd, 1) := by decide +kernel
theorem dL_law_273 : decode cL_law 273 = .ok (.iaload, 1) := by decide +kernel
theorem dL_law_274 : decode cL_law 274 = .ok (.aload_n 0, 1) := by decide +kernel
theorem dL_law_275 : decode cL_law 275 = .ok (.iload_n 3, 1) := by decide +kernel
theorem dL_law_276 : decode cL_law 276 = .ok (.iconst 3, 1) := by decide +kernel
theorem dL_law_277 : decode cL_law 277 = .ok (.iadd, 1) := by decide +kernel
theorem dL_law_278 : decode cL_law 278 = .ok (.iaload, 1) := by decide +kernel
theorem dL_law_279 : decode cL_law 279 = .ok (.aload_n 0, 1) := by decide +kernel
theorem dL_law_280 : decode cL_law 280 = .ok (.iload_n 3, 1) := by decide +kernel
theorem dL_law_281 : decode cL_law 281 = .ok (.iconst 4, 1) := by decide +kernel
theorem dL_law_282 : decode cL_law 282 = .ok (.iadd, 1) := by decide +kernel
theorem dL_law_283 : decode cL_law 283 = .ok (.iaload, 1) := by decide +kernel
theorem dL_law_284 : decode cL_law 284 = .ok (.aload_n 0, 1) := by decide +kernel
theorem dL_law_285 : decode cL_law 285 = .ok (.iload_n 3, 1) := by decide +kernel
theorem dL_law_286 : decode cL_law 286 = .ok (.iconst 5, 1) := by decide +kernel
theorem dL_law_287 : decode cL_law 287 = .ok (.iadd, 1) := by decide +kernel
theorem dL_law_288 : decode cL_law 288 = .ok (.iaload, 1) := by decide +kernel
theorem dL_law_289 : decode cL_law 289 = .ok (.invokevirtual 26, 3) := by decide +kernel
theorem dL_law_292 : decode cL_law 292 = .ok (.if_icmp .eq 1003, 3) := by decide +kernel
theorem dL_law_295 : decode cL_law 295 = .ok (.iconst 0, 1) := by decide +kernel
theorem dL_law_296 : decode cL_law 296 = .ok (.ireturn, 1) := by decide +kernel
theorem dL_law_297 : decode cL_law 297 = .ok (.aload_n 1, 1) := by decide +kernel
theorem dL_law_298 : decode cL_law 298 = .ok (.aload_n 0, 1) := by decide +kernel
theorem dL_law_299 : decode cL_law 299 = .ok (.iload_n 3, 1) := by decide +kernel
theorem dL_law_300 : decode cL_law 300 = .ok (.iconst 1, 1) := by decide +kernel
theorem dL_law_301 : decode cL_law 301 = .ok (.iadd, 1) := by decide +kernel
theorem dL_law_302 : decode cL_law 302 = .ok (.iaload, 1) := by decide +kernel
theorem dL_law_303 : decode cL_law 303 = .ok (.aload_n 0, 1) := by decide +kernel
theorem dL_law_304 : decode cL_law 304 = .ok (.iload_n 3, 1) := by decide +kernel
theorem dL_law_305 : decode cL_law 305 = .ok (.iconst 2, 1) := by decide +kernel
theorem dL_law_306 : decode cL_law 306 = .ok (.iadd, 1) := by decide +kernel
theorem dL_law_307 : decode cL_law 307 = .ok (.iaload, 1) := by decide +kernel
theorem dL_law_308 : decode cL_law 308 = .ok (.invokevirtual 27, 3) := by decide +kernel
theorem dL_law_311 : decode cL_law 311 = .ok (.aload_n 2, 1) := by decide +kernel
theorem dL_law_312 : decode cL_law 312 = .ok (.aload_n 0, 1) := by decide +kernel
theorem dL_law_313 : decode cL_law 313 = .ok (.iload_n 3, 1) := by decide +kernel
theorem dL_law_314 : decode cL_law 314 = .ok (.iconst 1, 1) := by decide +kernel
theorem dL_law_315 : decode cL_law 315 = .ok (.iadd, 1) := by decide +kernel
theorem dL_law_316 : decode cL_law 316 = .ok (.iaload, 1) := by decide +kernel
theorem dL_law_317 : decode cL_law 317 = .ok (.aload_n 0, 1) := by decide +kernel
theorem dL_law_318 : decode cL_law 318 = .ok (.iload_n 3, 1) := by decide +kernel
theorem dL_law_319 : decode cL_law 319 = .ok (.iconst 2, 1) := by decide +kernel
theorem dL_law_320 : decode cL_law 320 = .ok (.iadd, 1) := by decide +kernel
theorem dL_law_321 : decode cL_law 321 = .ok (.iaload, 1) := by decide +kernel
theorem dL_law_322 : decode cL_law 322 = .ok (.invokevirtual 31, 3) := by decide +kernel
theorem dL_law_325 : decode cL_law 325 = .ok (.if_icmp .eq 970, 3) := by decide +kernel
theorem dL_law_328 : decode cL_law 328 = .ok (.iconst 0, 1) := by decide +kernel
theorem dL_law_329 : decode cL_law 329 = .ok (.ireturn, 1) := by decide +kernel
theorem dL_law_330 : decode cL_law 330 = .ok (.aload_n 1, 1) := by decide +kernel
theorem dL_law_331 : decode cL_law 331 = .ok (.aload_n 0, 1) := by decide +kernel
theorem dL_law_332 : decode cL_law 332 = .ok (.iload_n 3, 1) := by decide +kernel
theorem dL_law_333 : decode cL_law 333 = .ok (.iconst 1, 1) := by decide +kernel
theorem dL_law_334 : decode cL_law 334 = .ok (.iadd, 1) := by decide +kernel
theorem dL_law_335 : decode cL_law 335 = .ok (.iaload, 1) := by decide +kernel
theorem dL_law_336 : decode cL_law 336 = .ok (.aload_n 0, 1) := by decide +kernel
theorem dL_law_337 : decode cL_law 337 = .ok (.iload_n 3, 1) := by decide +kernel
theorem dL_law_338 : decode cL_law 338 = .ok (.iconst 2, 1) := by decide +kernel
theorem dL_law_339 : decode cL_law 339 = .ok (.iadd, 1) := by decide +kernel
theorem dL_law_340 : decode cL_law 340 = .ok (.iaload, 1) := by decide +kernel
theorem dL_law_341 : decode cL_law 341 = .ok (.invokevirtual 32, 3) := by decide +kernel
theorem dL_law_344 : decode cL_law 344 = .ok (.aload_n 2, 1) := by decide +kernel
theorem dL_law_345 : decode cL_law 345 = .ok (.aload_n 0, 1) := by decide +kernel
theorem dL_law_346 : decode cL_law 346 = .ok (.iload_n 3, 1) := by decide +kernel
theorem dL_law_347 : decode cL_law 347 = .ok (.iconst 1, 1) := by decide +kernel
theorem dL_law_348 : decode cL_law 348 = .ok (.iadd, 1) := by decide +kernel
theorem dL_law_349 : decode cL_law 349 = .ok (.iaload, 1) := by decide +kernel
theorem dL_law_350 : decode cL_law 350 = .ok (.aload_n 0, 1) := by decide +kernel
theorem dL_law_351 : decode cL_law 351 = .ok (.iload_n 3, 1) := by decide +kernel
theorem dL_law_352 : decode cL_law 352 = .ok (.iconst 2, 1) := by decide +kernel
theorem dL_law_353 : decode cL_law 353 = .ok (.iadd, 1) := by decide +kernel
theorem dL_law_354 : decode cL_law 354 = .ok (.iaload, 1) := by decide +kernel
theorem dL_law_355 : decode cL_law 355 = .ok (.invokevirtual 35, 3) := by decide +kernel
theorem dL_law_358 : decode cL_law 358 = .ok (.if_icmp .eq 937, 3) := by decide +kernel
theorem dL_law_361 : decode cL_law 361 = .ok (.iconst 0, 1) := by decide +kernel
theorem dL_law_362 : decode cL_law 362 = .ok (.ireturn, 1) := by decide +kernel
theorem dL_law_363 : decode cL_law 363 = .ok (.aload_n 1, 1) := by decide +kernel
theorem dL_law_364 : decode cL_law 364 = .ok (.invokevirtual 36, 3) := by decide +kernel
theorem dL_law_367 : decode cL_law 367 = .ok (.aload_n 2, 1) := by decide +kernel
theorem dL_law_368 : decode cL_law 368 = .ok (.invokevirtual 40, 3) := by decide +kernel
theorem dL_law_371 : decode cL_law 371 = .ok (.if_icmp .eq 924, 3) := by decide +kernel
theorem dL_law_374 : decode cL_law 374 = .ok (.iconst 0, 1) := by decide +kernel
theorem dL_law_375 : decode cL_law 375 = .ok (.ireturn, 1) := by decide +kernel
theorem dL_law_376 : decode cL_law 376 = .ok (.aload_n 1, 1) := by decide +kernel
theorem dL_law_377 : decode cL_law 377 = .ok (.aload_n 0, 1) := by decide +kernel
theorem dL_law_378 : decode cL_law 378 = .ok (.iload_n 3, 1) := by decide +kernel
theorem dL_law_379 : decode cL_law 379 = .ok (.iconst 1, 1) := by decide +kernel
theorem dL_law_380 : decode cL_law 380 = .ok (.iadd, 1) := by decide +kernel
theorem dL_law_381 : decode cL_law 381 = .ok (.iaload, 1) := by decide +kernel
theorem dL_law_382 : decode cL_law 382 = .ok (.invokevirtual 41, 3) := by decide +kernel
theorem dL_law_385 : decode cL_law 385 = .ok (.aload_n 2, 1) := by decide +kernel
theorem dL_law_386 : decode cL_law 386 = .ok (.aload_n 0, 1) := by decide +kernel
theorem dL_law_387 : decode cL_law 387 = .ok (.iload_n 3, 1) := by decide +kernel
theorem dL_law_388 : decode cL_law 388 = .ok (.iconst 1, 1) := by decide +kernel
theorem dL_law_389 : decode cL_law 389 = .ok (.iadd, 1) := by decide +kernel
theorem dL_law_390 : decode cL_law 390 = .ok (.iaload, 1) := by decide +kernel
theorem dL_law_391 : decode cL_law 391 = .ok (.invokevirtual 44, 3) := by decide +kernel
theorem dL_law_394 : decode cL_law 394 = .ok (.if_icmp .eq 901, 3) := by decide +kernel
theorem dL_law_397 : decode cL_law 397 = .ok (.iconst 0, 1) := by decide +kernel
theorem dL_law_398 : decode cL_law 398 = .ok (.ireturn, 1) := by decide +kernel
theorem dL_law_399 : decode cL_law 399 = .ok (.aload_n 1, 1) := by decide +kernel
theorem dL_law_400 : decode cL_law 400 = .ok (.invokevirtual 45, 3) := by decide +kernel
theorem dL_law_403 : decode cL_law 403 = .ok (.aload_n 2, 1) := by decide +kernel
theorem dL_law_404 : decode cL_law 404 = .ok (.invokevirtual 48, 3) := by decide +kernel
theorem dL_law_407 : decode cL_law 407 = .ok (.if_icmp .eq 888, 3) := by decide +kernel
theorem dL_law_410 : decode cL_law 410 = .ok (.iconst 0, 1) := by decide +kernel
theorem dL_law_411 : decode cL_law 411 = .ok (.ireturn, 1) := by decide +kernel
theorem dL_law_412 : decode cL_law 412 = .ok (.aload_n 1, 1) := by decide +kernel
theorem dL_law_413 : decode cL_law 413 = .ok (.invokevirtual 49, 3) := by decide +kernel
theorem dL_law_416 : decode cL_law 416 = .ok (.aload_n 2, 1) := by decide +kernel
theorem dL_law_417 : decode cL_law 417 = .ok (.invokevirtual 52, 3) := by decide +kernel
theorem dL_law_420 : decode cL_law 420 = .ok (.if_icmp .eq 875, 3) := by decide +kernel
theorem dL_law_423 : decode cL_law 423 = .ok (.iconst 0, 1) := by decide +kernel
theorem dL_law_424 : decode cL_law 424 = .ok (.ireturn, 1) := by decide +kernel
theorem dL_law_425 : decode cL_law 425 = .ok (.aload_n 1, 1) := by decide +kernel
theorem dL_law_426 : decode cL_law 426 = .ok (.aload_n 0, 1) := by decide +kernel
theorem dL_law_427 : decode cL_law 427 = .ok (.iload_n 3, 1) := by decide +kernel
theorem dL_law_428 : decode cL_law 428 = .ok (.iconst 1, 1) := by decide +kernel
theorem dL_law_429 : decode cL_law 429 = .ok (.iadd, 1) := by decide +kernel
theorem dL_law_430 : decode cL_law 430 = .ok (.iaload, 1) := by decide +kernel
theorem dL_law_431 : decode cL_law 431 = .ok (.aload_n 0, 1) := by decide +kernel
theorem dL_law_432 : decode cL_law 432 = .ok (.iload_n 3, 1) := by decide +kernel
theorem dL_law_433 : decode cL_law 433 = .ok (.iconst 2, 1) := by decide +kernel
theorem dL_law_434 : decode cL_law 434 = .ok (.iadd, 1) := by decide +kernel
theorem dL_law_435 : decode cL_law 435 = .ok (.iaload, 1) := by decide +kernel
theorem dL_law_436 : decode cL_law 436 = .ok (.invokevirtual 53, 3) := by decide +kernel
theorem dL_law_439 : decode cL_law 439 = .ok (.aload_n 2, 1) := by decide +kernel
theorem dL_law_440 : decode cL_law 440 = .ok (.aload_n 0, 1) := by decide +kernel
theorem dL_law_441 : decode cL_law 441 = .ok (.iload_n 3, 1) := by decide +kernel
theorem dL_law_442 : decode cL_law 442 = .ok (.iconst 1, 1) := by decide +kernel
theorem dL_law_443 : decode cL_law 443 = .ok (.iadd, 1) := by decide +kernel
theorem dL_law_444 : decode cL_law 444 = .ok (.iaload, 1) := by decide +kernel
theorem dL_law_445 : decode cL_law 445 = .ok (.aload_n 0, 1) := by decide +kernel
theorem dL_law_446 : decode cL_law 446 = .ok (.iload_n 3, 1) := by decide +kernel
theorem dL_law_447 : decode cL_law 447 = .ok (.iconst 2, 1) := by decide +kernel
theorem dL_law_448 : decode cL_law 448 = .ok (.iadd, 1) := by decide +kernel
theorem dL_law_449 : decode cL_law 449 = .ok (.iaload, 1) := by decide +kernel
theorem dL_law_450 : decode cL_law 450 = .ok (.invokevirtual 56, 3) := by decide +kernel
theorem dL_law_453 : decode cL_law 453 = .ok (.if_icmp .eq 842, 3) := by decide +kernel
theorem dL_law_456 : decode cL_law 456 = .ok (.iconst 0, 1) := by decide +kernel
theorem dL_law_457 : decode cL_law 457 = .ok (.ireturn, 1) := by decide +kernel
theorem dL_law_458 : decode cL_law 458 = .ok (.aload_n 1, 1) := by decide +kernel
theorem dL_law_459 : decode cL_law 459 = .ok (.aload_n 0, 1) := by decide +kernel
theorem dL_law_460 : decode cL_law 460 = .ok (.iload_n 3, 1) := by decide +kernel
theorem dL_law_461 : decode cL_law 461 = .ok (.iconst 1, 1) := by decide +kernel
theorem dL_law_462 : decode cL_law 462 = .ok (.iadd, 1) := by decide +kernel
theorem dL_law_463 : decode cL_law 463 = .ok (.iaload, 1) := by decide +kernel
theorem dL_law_464 : decode cL_law 464 = .ok (.aload_n 0, 1) := by decide +kernel
theorem dL_law_465 : decode cL_law 465 = .ok (.iload_n 3, 1) := by decide +kernel
theorem dL_law_466 : decode cL_law 466 = .ok (.iconst 2, 1) := by decide +kernel
theorem dL_law_467 : decode cL_law 467 = .ok (.iadd, 1) := by decide +kernel
theorem dL_law_468 : decode cL_law 468 = .ok (.iaload, 1) := by decide +kernel
theorem dL_law_469 : decode cL_law 469 = .ok (.aload_n 0, 1) := by decide +kernel
theorem dL_law_470 : decode cL_law 470 = .ok (.iload_n 3, 1) := by decide +kernel
theorem dL_law_471 : decode cL_law 471 = .ok (.iconst 3, 1) := by decide +kernel
theorem dL_law_472 : decode cL_law 472 = .ok (.iadd, 1) := by decide +kernel
theorem dL_law_473 : decode cL_law 473 = .ok (.iaload, 1) := by decide +kernel
theorem dL_law_474 : decode cL_law 474 = .ok (.invokevirtual 57, 3) := by decide +kernel
theorem dL_law_477 : decode cL_law 477 = .ok (.aload_n 2, 1) := by decide +kernel
theorem dL_law_478 : decode cL_law 478 = .ok (.aload_n 0, 1) := by decide +kernel
theorem dL_law_479 : decode cL_law 479 = .ok (.iload_n 3, 1) := by decide +kernel
theorem dL_law_480 : decode cL_law 480 = .ok (.iconst 1, 1) := by decide +kernel
theorem dL_law_481 : decode cL_law 481 = .ok (.iadd, 1) := by decide +kernel
theorem dL_law_482 : decode cL_law 482 = .ok (.iaload, 1) := by decide +kernel
theorem dL_law_483 : decode cL_law 483 = .ok (.aload_n 0, 1) := by decide +kernel
theorem dL_law_484 : decode cL_law 484 = .ok (.iload_n 3, 1) := by decide +kernel
theorem dL_law_485 : decode cL_law 485 = .ok (.iconst 2, 1) := by decide +kernel
theorem dL_law_486 : decode cL_law 486 = .ok (.iadd, 1) := by decide +kernel
theorem dL_law_487 : decode cL_law 487 = .ok (.iaload, 1) := by decide +kernel
theorem dL_law_488 : decode cL_law 488 = .ok (.aload_n 0, 1) := by decide +kernel
theorem dL_law_489 : decode cL_law 489 = .ok (.iload_n 3, 1) := by decide +kernel
theorem dL_law_490 : decode cL_law 490 = .ok (.iconst 3, 1) := by decide +kernel
theorem dL_law_491 : decode cL_law 491 = .ok (.iadd, 1) := by decide +kernel
theorem dL_law_492 : decode cL_law 492 = .ok (.iaload, 1) := by decide +kernel
theorem dL_law_493 : decode cL_law 493 = .ok (.invokevirtual 61, 3) := by decide +kernel
theorem dL_law_496 : decode cL_law 496 = .ok (.if_icmp .eq 799, 3) := by decide +kernel
theorem dL_law_499 : decode cL_law 499 = .ok (.iconst 0, 1) := by decide +kernel
theorem dL_law_500 : decode cL_law 500 = .ok (.ireturn, 1) := by decide +kernel
theorem dL_law_501 : decode cL_law 501 = .ok (.aload_n 1, 1) := by decide +kernel
theorem dL_law_502 : decode cL_law 502 = .ok (.aload_n 0, 1) := by decide +kernel
theorem dL_law_503 : decode cL_law 503 = .ok (.iload_n 3, 1) := by decide +kernel
theorem dL_law_504 : decode cL_law 504 = .ok (.iconst 1, 1) := by decide +kernel
theorem dL_law_505 : decode cL_law 505 = .ok (.iadd, 1) := by decide +kernel
theorem dL_law_506 : decode cL_law 506 = .ok (.iaload, 1) := by decide +kernel
theorem dL_law_507 : decode cL_law 507 = .ok (.aload_n 0, 1) := by decide +kernel
theorem dL_law_508 : decode cL_law 508 = .ok (.iload_n 3, 1) := by decide +kernel
theorem dL_law_509 : decode cL_law 509 = .ok (.iconst 2, 1) := by decide +kernel
theorem dL_law_510 : decode cL_law 510 = .ok (.iadd, 1) := by decide +kernel
theorem dL_law_511 : decode cL_law 511 = .ok (.iaload, 1) := by decide +kernel
theorem dL_law_512 : decode cL_law 512 = .ok (.aload_n 0, 1) := by decide +kernel
theorem dL_law_513 : decode cL_law 513 = .ok (.iload_n 3, 1) := by decide +kernel
theorem dL_law_514 : decode cL_law 514 = .ok (.iconst 3, 1) := by decide +kernel
theorem dL_law_515 : decode cL_law 515 = .ok (.iadd, 1) := by decide +kernel
theorem dL_law_516 : decode cL_law 516 = .ok (.iaload, 1) := by decide +kernel
theorem dL_law_517 : decode cL_law 517 = .ok (.invokevirtual 62, 3) := by decide +kernel
theorem dL_law_520 : decode cL_law 520 = .ok (.aload_n 2, 1) := by decide +kernel
theorem dL_law_521 : decode cL_law 521 = .ok (.aload_n 0, 1) := by decide +kernel
theorem dL_law_522 : decode cL_law 522 = .ok (.iload_n 3, 1) := by decide +kernel
theorem dL_law_523 : decode cL_law 523 = .ok (.iconst 1, 1) := by decide +kernel
theorem dL_law_524 : decode cL_law 524 = .ok (.iadd, 1) := by decide +kernel
theorem dL_law_525 : decode cL_law 525 = .ok (.iaload, 1) := by decide +kernel
theorem dL_law_526 : decode cL_law 526 = .ok (.aload_n 0, 1) := by decide +kernel
theorem dL_law_527 : decode cL_law 527 = .ok (.iload_n 3, 1) := by decide +kernel
theorem dL_law_528 : decode cL_law 528 = .ok (.iconst 2, 1) := by decide +kernel
theorem dL_law_529 : decode cL_law 529 = .ok (.iadd, 1) := by decide +kernel
theorem dL_law_530 : decode cL_law 530 = .ok (.iaload, 1) := by decide +kernel
theorem dL_law_531 : decode cL_law 531 = .ok (.aload_n 0, 1) := by decide +kernel
theorem dL_law_532 : decode cL_law 532 = .ok (.iload_n 3, 1) := by decide +kernel
theorem dL_law_533 : decode cL_law 533 = .ok (.iconst 3, 1) := by decide +kernel
theorem dL_law_534 : decode cL_law 534 = .ok (.iadd, 1) := by decide +kernel
theorem dL_law_535 : decode cL_law 535 = .ok (.iaload, 1) := by decide +kernel
theorem dL_law_536 : decode cL_law 536 = .ok (.invokevirtual 65, 3) := by decide +kernel
theorem dL_law_539 : decode cL_law 539 = .ok (.if_icmp .eq 756, 3) := by decide +kernel
theorem dL_law_542 : decode cL_law 542 = .ok (.iconst 0, 1) := by decide +kernel
theorem dL_law_543 : decode cL_law 543 = .ok (.ireturn, 1) := by decide +kernel
theorem dL_law_544 : decode cL_law 544 = .ok (.aload_n 1, 1) := by decide +kernel
theorem dL_law_545 : decode cL_law 545 = .ok (.aload_n 0, 1) := by decide +kernel
theorem dL_law_546 : decode cL_law 546 = .ok (.iload_n 3, 1) := by decide +kernel
theorem dL_law_547 : decode cL_law 547 = .ok (.iconst 1, 1) := by decide +kernel
theorem dL_law_548 : decode cL_law 548 = .ok (.iadd, 1) := by decide +kernel
theorem dL_law_549 : decode cL_law 549 = .ok (.iaload, 1) := by decide +kernel
theorem dL_law_550 : decode cL_law 550 = .ok (.aload_n 0, 1) := by decide +kernel
theorem dL_law_551 : decode cL_law 551 = .ok (.iload_n 3, 1) := by decide +kernel
theorem dL_law_552 : decode cL_law 552 = .ok (.iconst 2, 1) := by decide +kernel
theorem dL_law_553 : decode cL_law 553 = .ok (.iadd, 1) := by decide +kernel
theorem dL_law_554 : decode cL_law 554 = .ok (.iaload, 1) := by decide +kernel
theorem dL_law_555 : decode cL_law 555 = .ok (.aload_n 0, 1) := by decide +kernel
theorem dL_law_556 : decode cL_law 556 = .ok (.iload_n 3, 1) := by decide +kernel
theorem dL_law_557 : decode cL_law 557 = .ok (.iconst 3, 1) := by decide +kernel
theorem dL_law_558 : decode cL_law 558 = .ok (.iadd, 1) := by decide +kernel
theorem dL_law_559 : decode cL_law 559 = .ok (.iaload, 1) := by decide +kernel
theorem dL_law_560 : decode cL_law 560 = .ok (.invokevirtual 66, 3) := by decide +kernel
theorem dL_law_563 : decode cL_law 563 = .ok (.aload_n 2, 1) := by decide +kernel
theorem dL_law_564 : decode cL_law 564 = .ok (.aload_n 0, 1) := by decide +kernel
theorem dL_law_565 : decode cL_law 565 = .ok (.iload_n 3, 1) := by decide +kernel
theorem dL_law_566 : decode cL_law 566 = .ok (.iconst 1, 1) := by decide +kernel
theorem dL_law_567 : decode cL_law 567 = .ok (.iadd, 1) := by decide +kernel
theorem dL_law_568 : decode cL_law 568 = .ok (.iaload, 1) := by decide +kernel
theorem dL_law_569 : decode cL_law 569 = .ok (.aload_n 0, 1) := by decide +kernel
theorem dL_law_570 : decode cL_law 570 = .ok (.iload_n 3, 1) := by decide +kernel
theorem dL_law_571 : decode cL_law 571 = .ok (.iconst 2, 1) := by decide +kernel
theorem dL_law_572 : decode cL_law 572 = .ok (.iadd, 1) := by decide +kernel
theorem dL_law_573 : decode cL_law 573 = .ok (.iaload, 1) := by decide +kernel
theorem dL_law_574 : decode cL_law 574 = .ok (.aload_n 0, 1) := by decide +kernel
theorem dL_law_575 : decode cL_law 575 = .ok (.iload_n 3, 1) := by decide +kernel
theorem dL_law_576 : decode cL_law 576 = .ok (.iconst 3, 1) := by decide +kernel
theorem dL_law_577 : decode cL_law 577 = .ok (.iadd, 1) := by decide +kernel
theorem dL_law_578 : decode cL_law 578 = .ok (.iaload, 1) := by decide +kernel
theorem dL_law_579 : decode cL_law 579 = .ok (.invokevirtual 69, 3) := by decide +kernel
theorem dL_law_582 : decode cL_law 582 = .ok (.if_icmp .eq 713, 3) := by decide +kernel
theorem dL_law_585 : decode cL_law 585 = .ok (.iconst 0, 1) := by decide +kernel
theorem dL_law_586 : decode cL_law 586 = .ok (.ireturn, 1) := by decide +kernel
theorem dL_law_587 : decode cL_law 587 = .ok (.aload_n 1, 1) := by decide +kernel
theorem dL_law_588 : decode cL_law 588 = .ok (.aload_n 0, 1) := by decide +kernel
theorem dL_law_589 : decode cL_law 589 = .ok (.iload_n 3, 1) := by decide +kernel
theorem dL_law_590 : decode cL_law 590 = .ok (.iconst 1, 1) := by decide +kernel
theorem dL_law_591 : decode cL_law 591 = .ok (.iadd, 1) := by decide +kernel
theorem dL_law_592 : decode cL_law 592 = .ok (.iaload, 1) := by decide +kernel
theorem dL_law_593 : decode cL_law 593 = .ok (.aload_n 0, 1) := by decide +kernel
theorem dL_law_594 : decode cL_law 594 = .ok (.iload_n 3, 1) := by decide +kernel
theorem dL_law_595 : decode cL_law 595 = .ok (.iconst 2, 1) := by decide +kernel
theorem dL_law_596 : decode cL_law 596 = .ok (.iadd, 1) := by decide +kernel
theorem dL_law_597 : decode cL_law 597 = .ok (.iaload, 1) := by decide +kernel
theorem dL_law_598 : decode cL_law 598 = .ok (.invokevirtual 70, 3) := by decide +kernel
theorem dL_law_601 : decode cL_law 601 = .ok (.aload_n 2, 1) := by decide +kernel
theorem dL_law_602 : decode cL_law 602 = .ok (.aload_n 0, 1) := by decide +kernel
theorem dL_law_603 : decode cL_law 603 = .ok (.iload_n 3, 1) := by decide +kernel
theorem dL_law_604 : decode cL_law 604 = .ok (.iconst 1, 1) := by decide +kernel
theorem dL_law_605 : decode cL_law 605 = .ok (.iadd, 1) := by decide +kernel
theorem dL_law_606 : decode cL_law 606 = .ok (.iaload, 1) := by decide +kernel
theorem dL_law_607 : decode cL_law 607 = .ok (.aload_n 0, 1) := by decide +kernel
theorem dL_law_608 : decode cL_law 608 = .ok (.iload_n 3, 1) := by decide +kernel
theorem dL_law_609 : decode cL_law 609 = .ok (.iconst 2, 1) := by decide +kernel
theorem dL_law_610 : decode cL_law 610 = .ok (.iadd, 1) := by decide +kernel
theorem dL_law_611 : decode cL_law 611 = .ok (.iaload, 1) := by decide +kernel
theorem dL_law_612 : decode cL_law 612 = .ok (.invokevirtual 73, 3) := by decide +kernel
theorem dL_law_615 : decode cL_law 615 = .ok (.if_icmp .eq 680, 3) := by decide +kernel
theorem dL_law_618 : decode cL_law 618 = .ok (.iconst 0, 1) := by decide +kernel
theorem dL_law_619 : decode cL_law 619 = .ok (.ireturn, 1) := by decide +kernel
theorem dL_law_620 : decode cL_law 620 = .ok (.aload_n 1, 1) := by decide +kernel
theorem dL_law_621 : decode cL_law 621 = .ok (.aload_n 0, 1) := by decide +kernel
theorem dL_law_622 : decode cL_law 622 = .ok (.iload_n 3, 1) := by decide +kernel
theorem dL_law_623 : decode cL_law 623 = .ok (.iconst 1, 1) := by decide +kernel
theorem dL_law_624 : decode cL_law 624 = .ok (.iadd, 1) := by decide +kernel
theorem dL_law_625 : decode cL_law 625 = .ok (.iaload, 1) := by decide +kernel
theorem dL_law_626 : decode cL_law 626 = .ok (.aload_n 0, 1) := by decide +kernel
theorem dL_law_627 : decode cL_law 627 = .ok (.iload_n 3, 1) := by decide +kernel
theorem dL_law_628 : decode cL_law 628 = .ok (.iconst 2, 1) := by decide +kernel
theorem dL_law_629 : decode cL_law 629 = .ok (.iadd, 1) := by decide +kernel
theorem dL_law_630 : decode cL_law 630 = .ok (.iaload, 1) := by decide +kernel
theorem dL_law_631 : decode cL_law 631 = .ok (.aload_n 0, 1) := by decide +kernel
theorem dL_law_632 : decode cL_law 632 = .ok (.iload_n 3, 1) := by decide +kernel
theorem dL_law_633 : decode cL_law 633 = .ok (.iconst 3, 1) := by decide +kernel
theorem dL_law_634 : decode cL_law 634 = .ok (.iadd, 1) := by decide +kernel
theorem dL_law_635 : decode cL_law 635 = .ok (.iaload, 1) := by decide +kernel
theorem dL_law_636 : decode cL_law 636 = .ok (.invokevirtual 74, 3) := by decide +kernel
theorem dL_law_639 : decode cL_law 639 = .ok (.aload_n 2, 1) := by decide +kernel
theorem dL_law_640 : decode cL_law 640 = .ok (.aload_n 0, 1) := by decide +kernel
theorem dL_law_641 : decode cL_law 641 = .ok (.iload_n 3, 1) := by decide +kernel
theorem dL_law_642 : decode cL_law 642 = .ok (.iconst 1, 1) := by decide +kernel
theorem dL_law_643 : decode cL_law 643 = .ok (.iadd, 1) := by decide +kernel
theorem dL_law_644 : decode cL_law 644 = .ok (.iaload, 1) := by decide +kernel
theorem dL_law_645 : decode cL_law 645 = .ok (.aload_n 0, 1) := by decide +kernel
theorem dL_law_646 : decode cL_law 646 = .ok (.iload_n 3, 1) := by decide +kernel
theorem dL_law_647 : decode cL_law 647 = .ok (.iconst 2, 1) := by decide +kernel
theorem dL_law_648 : decode cL_law 648 = .ok (.iadd, 1) := by decide +kernel
theorem dL_law_649 : decode cL_law 649 = .ok (.iaload, 1) := by decide +kernel
theorem dL_law_650 : decode cL_law 650 = .ok (.aload_n 0, 1) := by decide +kernel
theorem dL_law_651 : decode cL_law 651 = .ok (.iload_n 3, 1) := by decide +kernel
theorem dL_law_652 : decode cL_law 652 = .ok (.iconst 3, 1) := by decide +kernel
theorem dL_law_653 : decode cL_law 653 = .ok (.iadd, 1) := by decide +kernel
theorem dL_law_654 : decode cL_law 654 = .ok (.iaload, 1) := by decide +kernel
theorem dL_law_655 : decode cL_law 655 = .ok (.invokevirtual 77, 3) := by decide +kernel
theorem dL_law_658 : decode cL_law 658 = .ok (.if_icmp .eq 637, 3) := by decide +kernel
theorem dL_law_661 : decode cL_law 661 = .ok (.iconst 0, 1) := by decide +kernel
theorem dL_law_662 : decode cL_law 662 = .ok (.ireturn, 1) := by decide +kernel
theorem dL_law_663 : decode cL_law 663 = .ok (.aload_n 1, 1) := by decide +kernel
theorem dL_law_664 : decode cL_law 664 = .ok (.aload_n 0, 1) := by decide +kernel
theorem dL_law_665 : decode cL_law 665 = .ok (.iload_n 3, 1) := by decide +kernel
theorem dL_law_666 : decode cL_law 666 = .ok (.iconst 1, 1) := by decide +kernel
theorem dL_law_667 : decode cL_law 667 = .ok (.iadd, 1) := by decide +kernel
theorem dL_law_668 : decode cL_law 668 = .ok (.iaload, 1) := by decide +kernel
theorem dL_law_669 : decode cL_law 669 = .ok (.invokevirtual 78, 3) := by decide +kernel
theorem dL_law_672 : decode cL_law 672 = .ok (.aload_n 2, 1) := by decide +kernel
theorem dL_law_673 : decode cL_law 673 = .ok (.aload_n 0, 1) := by decide +kernel
theorem dL_law_674 : decode cL_law 674 = .ok (.iload_n 3, 1) := by decide +kernel
theorem dL_law_675 : decode cL_law 675 = .ok (.iconst 1, 1) := by decide +kernel
theorem dL_law_676 : decode cL_law 676 = .ok (.iadd, 1) := by decide +kernel
theorem dL_law_677 : decode cL_law 677 = .ok (.iaload, 1) := by decide +kernel
theorem dL_law_678 : decode cL_law 678 = .ok (.invokevirtual 81, 3) := by decide +kernel
theorem dL_law_681 : decode cL_law 681 = .ok (.if_icmp .eq 614, 3) := by decide +kernel
theorem dL_law_684 : decode cL_law 684 = .ok (.iconst 0, 1) := by decide +kernel
theorem dL_law_685 : decode cL_law 685 = .ok (.ireturn, 1) := by decide +kernel
theorem dL_law_686 : decode cL_law 686 = .ok (.aload_n 1, 1) := by decide +kernel
theorem dL_law_687 : decode cL_law 687 = .ok (.invokevirtual 82, 3) := by decide +kernel
theorem dL_law_690 : decode cL_law 690 = .ok (.aload_n 2, 1) := by decide +kernel
theorem dL_law_691 : decode cL_law 691 = .ok (.invokevirtual 85, 3) := by decide +kernel
theorem dL_law_694 : decode cL_law 694 = .ok (.if_icmp .eq 601, 3) := by decide +kernel
theorem dL_law_697 : decode cL_law 697 = .ok (.iconst 0, 1) := by decide +kernel
theorem dL_law_698 : decode cL_law 698 = .ok (.ireturn, 1) := by decide +kernel
theorem dL_law_699 : decode cL_law 699 = .ok (.aload_n 1, 1) := by decide +kernel
theorem dL_law_700 : decode cL_law 700 = .ok (.aload_n 0, 1) := by decide +kernel
theorem dL_law_701 : decode cL_law 701 = .ok (.iload_n 3, 1) := by decide +kernel
theorem dL_law_702 : decode cL_law 702 = .ok (.iconst 1, 1) := by decide +kernel
theorem dL_law_703 : decode cL_law 703 = .ok (.iadd, 1) := by decide +kernel
theorem dL_law_704 : decode cL_law 704 = .ok (.iaload, 1) := by decide +kernel
theorem dL_law_705 : decode cL_law 705 = .ok (.aload_n 0, 1) := by decide +kernel
theorem dL_law_706 : decode cL_law 706 = .ok (.iload_n 3, 1) := by decide +kernel
theorem dL_law_707 : decode cL_law 707 = .ok (.iconst 2, 1) := by decide +kernel
theorem dL_law_708 : decode cL_law 708 = .ok (.iadd, 1) := by decide +kernel
theorem dL_law_709 : decode cL_law 709 = .ok (.iaload, 1) := by decide +kernel
theorem dL_law_710 : decode cL_law 710 = .ok (.invokevirtual 86, 3) := by decide +kernel
theorem dL_law_713 : decode cL_law 713 = .ok (.aload_n 2, 1) := by decide +kernel
theorem dL_law_714 : decode cL_law 714 = .ok (.aload_n 0, 1) := by decide +kernel
theorem dL_law_715 : decode cL_law 715 = .ok (.iload_n 3, 1) := by decide +kernel
theorem dL_law_716 : decode cL_law 716 = .ok (.iconst 1, 1) := by decide +kernel
theorem dL_law_717 : decode cL_law 717 = .ok (.iadd, 1) := by decide +kernel
theorem dL_law_718 : decode cL_law 718 = .ok (.iaload, 1) := by decide +kernel
theorem dL_law_719 : decode cL_law 719 = .ok (.aload_n 0, 1) := by decide +kernel
theorem dL_law_720 : decode cL_law 720 = .ok (.iload_n 3, 1) := by decide +kernel
theorem dL_law_721 : decode cL_law 721 = .ok (.iconst 2, 1) := by decide +kernel
theorem dL_law_722 : decode cL_law 722 = .ok (.iadd, 1) := by decide +kernel
theorem dL_law_723 : decode cL_law 723 = .ok (.iaload, 1) := by decide +kernel
theorem dL_law_724 : decode cL_law 724 = .ok (.invokevirtual 89, 3) := by decide +kernel
theorem dL_law_727 : decode cL_law 727 = .ok (.if_icmp .eq 568, 3) := by decide +kernel
theorem dL_law_730 : decode cL_law 730 = .ok (.iconst 0, 1) := by decide +kernel
theorem dL_law_731 : decode cL_law 731 = .ok (.ireturn, 1) := by decide +kernel
theorem dL_law_732 : decode cL_law 732 = .ok (.aload_n 1, 1) := by decide +kernel
theorem dL_law_733 : decode cL_law 733 = .ok (.aload_n 0, 1) := by decide +kernel
theorem dL_law_734 : decode cL_law 734 = .ok (.iload_n 3, 1) := by decide +kernel
theorem dL_law_735 : decode cL_law 735 = .ok (.iconst 1, 1) := by decide +kernel
theorem dL_law_736 : decode cL_law 736 = .ok (.iadd, 1) := by decide +kernel
theorem dL_law_737 : decode cL_law 737 = .ok (.iaload, 1) := by decide +kernel
theorem dL_law_738 : decode cL_law 738 = .ok (.aload_n 0, 1) := by decide +kernel
theorem dL_law_739 : decode cL_law 739 = .ok (.iload_n 3, 1) := by decide +kernel
theorem dL_law_740 : decode cL_law 740 = .ok (.iconst 2, 1) := by decide +kernel
theorem dL_law_741 : decode cL_law 741 = .ok (.iadd, 1) := by decide +kernel
theorem dL_law_742 : decode cL_law 742 = .ok (.iaload, 1) := by decide +kernel
theorem dL_law_743 : decode cL_law 743 = .ok (.invokevirtual 90, 3) := by decide +kernel
theorem dL_law_746 : decode cL_law 746 = .ok (.aload_n 2, 1) := by decide +kernel
theorem dL_law_747 : decode cL_law 747 = .ok (.aload_n 0, 1) := by decide +kernel
theorem dL_law_748 : decode cL_law 748 = .ok (.iload_n 3, 1) := by decide +kernel
theorem dL_law_749 : decode cL_law 749 = .ok (.iconst 1, 1) := by decide +kernel
theorem dL_law_750 : decode cL_law 750 = .ok (.iadd, 1) := by decide +kernel
theorem dL_law_751 : decode cL_law 751 = .ok (.iaload, 1) := by decide +kernel
theorem dL_law_752 : decode cL_law 752 = .ok (.aload_n 0, 1) := by decide +kernel
theorem dL_law_753 : decode cL_law 753 = .ok (.iload_n 3, 1) := by decide +kernel
theorem dL_law_754 : decode cL_law 754 = .ok (.iconst 2, 1) := by decide +kernel
theorem dL_law_755 : decode cL_law 755 = .ok (.iadd, 1) := by decide +kernel
theorem dL_law_756 : decode cL_law 756 = .ok (.iaload, 1) := by decide +kernel
theorem dL_law_757 : decode cL_law 757 = .ok (.invokevirtual 93, 3) := by decide +kernel
theorem dL_law_760 : decode cL_law 760 = .ok (.if_icmp .eq 535, 3) := by decide +kernel
theorem dL_law_763 : decode cL_law 763 = .ok (.iconst 0, 1) := by decide +kernel
theorem dL_law_764 : decode cL_law 764 = .ok (.ireturn, 1) := by decide +kernel
theorem dL_law_765 : decode cL_law 765 = .ok (.aload_n 1, 1) := by decide +kernel
theorem dL_law_766 : decode cL_law 766 = .ok (.aload_n 0, 1) := by decide +kernel
theorem dL_law_767 : decode cL_law 767 = .ok (.iload_n 3, 1) := by decide +kernel
theorem dL_law_768 : decode cL_law 768 = .ok (.iconst 1, 1) := by decide +kernel
theorem dL_law_769 : decode cL_law 769 = .ok (.iadd, 1) := by decide +kernel
theorem dL_law_770 : decode cL_law 770 = .ok (.iaload, 1) := by decide +kernel
theorem dL_law_771 : decode cL_law 771 = .ok (.aload_n 0, 1) := by decide +kernel
theorem dL_law_772 : decode cL_law 772 = .ok (.iload_n 3, 1) := by decide +kernel
theorem dL_law_773 : decode cL_law 773 = .ok (.iconst 2, 1) := by decide +kernel
theorem dL_law_774 : decode cL_law 774 = .ok (.iadd, 1) := by decide +kernel
theorem dL_law_775 : decode cL_law 775 = .ok (.iaload, 1) := by decide +kernel
theorem dL_law_776 : decode cL_law 776 = .ok (.invokevirtual 94, 3) := by decide +kernel
theorem dL_law_779 : decode cL_law 779 = .ok (.aload_n 2, 1) := by decide +kernel
theorem dL_law_780 : decode cL_law 780 = .ok (.aload_n 0, 1) := by decide +kernel
theorem dL_law_781 : decode cL_law 781 = .ok (.iload_n 3, 1) := by decide +kernel
theorem dL_law_782 : decode cL_law 782 = .ok (.iconst 1, 1) := by decide +kernel
theorem dL_law_783 : decode cL_law 783 = .ok (.iadd, 1) := by decide +kernel
theorem dL_law_784 : decode cL_law 784 = .ok (.iaload, 1) := by decide +kernel
theorem dL_law_785 : decode cL_law 785 = .ok (.aload_n 0, 1) := by decide +kernel
theorem dL_law_786 : decode cL_law 786 = .ok (.iload_n 3, 1) := by decide +kernel
theorem dL_law_787 : decode cL_law 787 = .ok (.iconst 2, 1) := by decide +kernel
theorem dL_law_788 : decode cL_law 788 = .ok (.iadd, 1) := by decide +kernel
theorem dL_law_789 : decode cL_law 789 = .ok (.iaload, 1) := by decide +kernel
theorem dL_law_790 : decode cL_law 790 = .ok (.invokevirtual 97, 3) := by decide +kernel
theorem dL_law_793 : decode cL_law 793 = .ok (.if_icmp .eq 502, 3) := by decide +kernel
theorem dL_law_796 : decode cL_law 796 = .ok (.iconst 0, 1) := by decide +kernel
theorem dL_law_797 : decode cL_law 797 = .ok (.ireturn, 1) := by decide +kernel
theorem dL_law_798 : decode cL_law 798 = .ok (.aload_n 1, 1) := by decide +kernel
theorem dL_law_799 : decode cL_law 799 = .ok (.aload_n 0, 1) := by decide +kernel
theorem dL_law_800 : decode cL_law 800 = .ok (.iload_n 3, 1) := by decide +kernel
theorem dL_law_801 : decode cL_law 801 = .ok (.iconst 1, 1) := by decide +kernel
theorem dL_law_802 : decode cL_law 802 = .ok (.iadd, 1) := by decide +kernel
theorem dL_law_803 : decode cL_law 803 = .ok (.iaload, 1) := by decide +kernel
theorem dL_law_804 : decode cL_law 804 = .ok (.aload_n 0, 1) := by decide +kernel
theorem dL_law_805 : decode cL_law 805 = .ok (.iload_n 3, 1) := by decide +kernel
theorem dL_law_806 : decode cL_law 806 = .ok (.iconst 2, 1) := by decide +kernel
theorem dL_law_807 : decode cL_law 807 = .ok (.iadd, 1) := by decide +kernel
theorem dL_law_808 : decode cL_law 808 = .ok (.iaload, 1) := by decide +kernel
theorem dL_law_809 : decode cL_law 809 = .ok (.aload_n 0, 1) := by decide +kernel
theorem dL_law_810 : decode cL_law 810 = .ok (.iload_n 3, 1) := by decide +kernel
theorem dL_law_811 : decode cL_law 811 = .ok (.iconst 3, 1) := by decide +kernel
theorem dL_law_812 : decode cL_law 812 = .ok (.iadd, 1) := by decide +kernel
theorem dL_law_813 : decode cL_law 813 = .ok (.iaload, 1) := by decide +kernel
theorem dL_law_814 : decode cL_law 814 = .ok (.aload_n 0, 1) := by decide +kernel
theorem dL_law_815 : decode cL_law 815 = .ok (.iload_n 3, 1) := by decide +kernel
theorem dL_law_816 : decode cL_law 816 = .ok (.iconst 4, 1) := by decide +kernel
theorem dL_law_817 : decode cL_law 817 = .ok (.iadd, 1) := by decide +kernel
theorem dL_law_818 : decode cL_law 818 = .ok (.iaload, 1) := by decide +kernel
theorem dL_law_819 : decode cL_law 819 = .ok (.aload_n 0, 1) := by decide +kernel
theorem dL_law_820 : decode cL_law 820 = .ok (.iload_n 3, 1) := by decide +kernel
theorem dL_law_821 : decode cL_law 821 = .ok (.iconst 5, 1) := by decide +kernel
theorem dL_law_822 : decode cL_law 822 = .ok (.iadd, 1) := by decide +kernel
theorem dL_law_823 : decode cL_law 823 = .ok (.iaload, 1) := by decide +kernel
theorem dL_law_824 : decode cL_law 824 = .ok (.invokevirtual 98, 3) := by decide +kernel
theorem dL_law_827 : decode cL_law 827 = .ok (.aload_n 2, 1) := by decide +kernel
theorem dL_law_828 : decode cL_law 828 = .ok (.aload_n 0, 1) := by decide +kernel
theorem dL_law_829 : decode cL_law 829 = .ok (.iload_n 3, 1) := by decide +kernel
theorem dL_law_830 : decode cL_law 830 = .ok (.iconst 1, 1) := by decide +kernel
theorem dL_law_831 : decode cL_law 831 = .ok (.iadd, 1) := by decide +kernel
theorem dL_law_832 : decode cL_law 832 = .ok (.iaload, 1) := by decide +kernel
theorem dL_law_833 : decode cL_law 833 = .ok (.aload_n 0, 1) := by decide +kernel
theorem dL_law_834 : decode cL_law 834 = .ok (.iload_n 3, 1) := by decide +kernel
theorem dL_law_835 : decode cL_law 835 = .ok (.iconst 2, 1) := by decide +kernel
theorem dL_law_836 : decode cL_law 836 = .ok (.iadd, 1) := by decide +kernel
theorem dL_law_837 : decode cL_law 837 = .ok (.iaload, 1) := by decide +kernel
theorem dL_law_838 : decode cL_law 838 = .ok (.aload_n 0, 1) := by decide +kernel
theorem dL_law_839 : decode cL_law 839 = .ok (.iload_n 3, 1) := by decide +kernel
theorem dL_law_840 : decode cL_law 840 = .ok (.iconst 3, 1) := by decide +kernel
theorem dL_law_841 : decode cL_law 841 = .ok (.iadd, 1) := by decide +kernel
theorem dL_law_842 : decode cL_law 842 = .ok (.iaload, 1) := by decide +kernel
theorem dL_law_843 : decode cL_law 843 = .ok (.aload_n 0, 1) := by decide +kernel
theorem dL_law_844 : decode cL_law 844 = .ok (.iload_n 3, 1) := by decide +kernel
theorem dL_law_845 : decode cL_law 845 = .ok (.iconst 4, 1) := by decide +kernel
theorem dL_law_846 : decode cL_law 846 = .ok (.iadd, 1) := by decide +kernel
theorem dL_law_847 : decode cL_law 847 = .ok (.iaload, 1) := by decide +kernel
theorem dL_law_848 : decode cL_law 848 = .ok (.aload_n 0, 1) := by decide +kernel
theorem dL_law_849 : decode cL_law 849 = .ok (.iload_n 3, 1) := by decide +kernel
theorem dL_law_850 : decode cL_law 850 = .ok (.iconst 5, 1) := by decide +kernel
theorem dL_law_851 : decode cL_law 851 = .ok (.iadd, 1) := by decide +kernel
theorem dL_law_852 : decode cL_law 852 = .ok (.iaload, 1) := by decide +kernel
theorem dL_law_853 : decode cL_law 853 = .ok (.invokevirtual 101, 3) := by decide +kernel
theorem dL_law_856 : decode cL_law 856 = .ok (.if_icmp .eq 439, 3) := by decide +kernel
theorem dL_law_859 : decode cL_law 859 = .ok (.iconst 0, 1) := by decide +kernel
theorem dL_law_860 : decode cL_law 860 = .ok (.ireturn, 1) := by decide +kernel
theorem dL_law_861 : decode cL_law 861 = .ok (.aload_n 1, 1) := by decide +kernel
theorem dL_law_862 : decode cL_law 862 = .ok (.aload_n 0, 1) := by decide +kernel
theorem dL_law_863 : decode cL_law 863 = .ok (.iload_n 3, 1) := by decide +kernel
theorem dL_law_864 : decode cL_law 864 = .ok (.iconst 1, 1) := by decide +kernel
theorem dL_law_865 : decode cL_law 865 = .ok (.iadd, 1) := by decide +kernel
theorem dL_law_866 : decode cL_law 866 = .ok (.iaload, 1) := by decide +kernel
theorem dL_law_867 : decode cL_law 867 = .ok (.aload_n 0, 1) := by decide +kernel
theorem dL_law_868 : decode cL_law 868 = .ok (.iload_n 3, 1) := by decide +kernel
theorem dL_law_869 : decode cL_law 869 = .ok (.iconst 2, 1) := by decide +kernel
theorem dL_law_870 : decode cL_law 870 = .ok (.iadd, 1) := by decide +kernel
theorem dL_law_871 : decode cL_law 871 = .ok (.iaload, 1) := by decide +kernel
theorem dL_law_872 : decode cL_law 872 = .ok (.aload_n 0, 1) := by decide +kernel
theorem dL_law_873 : decode cL_law 873 = .ok (.iload_n 3, 1) := by decide +kernel
theorem dL_law_874 : decode cL_law 874 = .ok (.iconst 3, 1) := by decide +kernel
theorem dL_law_875 : decode cL_law 875 = .ok (.iadd, 1) := by decide +kernel
theorem dL_law_876 : decode cL_law 876 = .ok (.iaload, 1) := by decide +kernel
theorem dL_law_877 : decode cL_law 877 = .ok (.invokevirtual 102, 3) := by decide +kernel
theorem dL_law_880 : decode cL_law 880 = .ok (.aload_n 2, 1) := by decide +kernel
theorem dL_law_881 : decode cL_law 881 = .ok (.aload_n 0, 1) := by decide +kernel
theorem dL_law_882 : decode cL_law 882 = .ok (.iload_n 3, 1) := by decide +kernel
theorem dL_law_883 : decode cL_law 883 = .ok (.iconst 1, 1) := by decide +kernel
theorem dL_law_884 : decode cL_law 884 = .ok (.iadd, 1) := by decide +kernel
theorem dL_law_885 : decode cL_law 885 = .ok (.iaload, 1) := by decide +kernel
theorem dL_law_886 : decode cL_law 886 = .ok (.aload_n 0, 1) := by decide +kernel
theorem dL_law_887 : decode cL_law 887 = .ok (.iload_n 3, 1) := by decide +kernel
theorem dL_law_888 : decode cL_law 888 = .ok (.iconst 2, 1) := by decide +kernel
theorem dL_law_889 : decode cL_law 889 = .ok (.iadd, 1) := by decide +kernel
theorem dL_law_890 : decode cL_law 890 = .ok (.iaload, 1) := by decide +kernel
theorem dL_law_891 : decode cL_law 891 = .ok (.aload_n 0, 1) := by decide +kernel
theorem dL_law_892 : decode cL_law 892 = .ok (.iload_n 3, 1) := by decide +kernel
theorem dL_law_893 : decode cL_law 893 = .ok (.iconst 3, 1) := by decide +kernel
theorem dL_law_894 : decode cL_law 894 = .ok (.iadd, 1) := by decide +kernel
theorem dL_law_895 : decode cL_law 895 = .ok (.iaload, 1) := by decide +kernel
theorem dL_law_896 : decode cL_law 896 = .ok (.invokevirtual 105, 3) := by decide +kernel
theorem dL_law_899 : decode cL_law 899 = .ok (.if_icmp .eq 396, 3) := by decide +kernel
theorem dL_law_902 : decode cL_law 902 = .ok (.iconst 0, 1) := by decide +kernel
theorem dL_law_903 : decode cL_law 903 = .ok (.ireturn, 1) := by decide +kernel
theorem dL_law_904 : decode cL_law 904 = .ok (.aload_n 1, 1) := by decide +kernel
theorem dL_law_905 : decode cL_law 905 = .ok (.aload_n 0, 1) := by decide +kernel
theorem dL_law_906 : decode cL_law 906 = .ok (.iload_n 3, 1) := by decide +kernel
theorem dL_law_907 : decode cL_law 907 = .ok (.iconst 1, 1) := by decide +kernel
theorem dL_law_908 : decode cL_law 908 = .ok (.iadd, 1) := by decide +kernel
theorem dL_law_909 : decode cL_law 909 = .ok (.iaload, 1) := by decide +kernel
theorem dL_law_910 : decode cL_law 910 = .ok (.aload_n 0, 1) := by decide +kernel
theorem dL_law_911 : decode cL_law 911 = .ok (.iload_n 3, 1) := by decide +kernel
theorem dL_law_912 : decode cL_law 912 = .ok (.iconst 2, 1) := by decide +kernel
theorem dL_law_913 : decode cL_law 913 = .ok (.iadd, 1) := by decide +kernel
theorem dL_law_914 : decode cL_law 914 = .ok (.iaload, 1) := by decide +kernel
theorem dL_law_915 : decode cL_law 915 = .ok (.aload_n 0, 1) := by decide +kernel
theorem dL_law_916 : decode cL_law 916 = .ok (.iload_n 3, 1) := by decide +kernel
theorem dL_law_917 : decode cL_law 917 = .ok (.iconst 3, 1) := by decide +kernel
theorem dL_law_918 : decode cL_law 918 = .ok (.iadd, 1) := by decide +kernel
theorem dL_law_919 : decode cL_law 919 = .ok (.iaload, 1) := by decide +kernel
theorem dL_law_920 : decode cL_law 920 = .ok (.aload_n 0, 1) := by decide +kernel
theorem dL_law_921 : decode cL_law 921 = .ok (.iload_n 3, 1) := by decide +kernel
theorem dL_law_922 : decode cL_law 922 = .ok (.iconst 4, 1) := by decide +kernel
theorem dL_law_923 : decode cL_law 923 = .ok (.iadd, 1) := by decide +kernel
theorem dL_law_924 : decode cL_law 924 = .ok (.iaload, 1) := by decide +kernel
theorem dL_law_925 : decode cL_law 925 = .ok (.invokevirtual 106, 3) := by decide +kernel
theorem dL_law_928 : decode cL_law 928 = .ok (.aload_n 2, 1) := by decide +kernel
theorem dL_law_929 : decode cL_law 929 = .ok (.aload_n 0, 1) := by decide +kernel
theorem dL_law_930 : decode cL_law 930 = .ok (.iload_n 3, 1) := by decide +kernel
theorem dL_law_931 : decode cL_law 931 = .ok (.iconst 1, 1) := by decide +kernel
theorem dL_law_932 : decode cL_law 932 = .ok (.iadd, 1) := by decide +kernel
theorem dL_law_933 : decode cL_law 933 = .ok (.iaload, 1) := by decide +kernel
theorem dL_law_934 : decode cL_law 934 = .ok (.aload_n 0, 1) := by decide +kernel
theorem dL_law_935 : decode cL_law 935 = .ok (.iload_n 3, 1) := by decide +kernel
theorem dL_law_936 : decode cL_law 936 = .ok (.iconst 2, 1) := by decide +kernel
theorem dL_law_937 : decode cL_law 937 = .ok (.iadd, 1) := by decide +kernel
theorem dL_law_938 : decode cL_law 938 = .ok (.iaload, 1) := by decide +kernel
theorem dL_law_939 : decode cL_law 939 = .ok (.aload_n 0, 1) := by decide +kernel
theorem dL_law_940 : decode cL_law 940 = .ok (.iload_n 3, 1) := by decide +kernel
theorem dL_law_941 : decode cL_law 941 = .ok (.iconst 3, 1) := by decide +kernel
theorem dL_law_942 : decode cL_law 942 = .ok (.iadd, 1) := by decide +kernel
theorem dL_law_943 : decode cL_law 943 = .ok (.iaload, 1) := by decide +kernel
theorem dL_law_944 : decode cL_law 944 = .ok (.aload_n 0, 1) := by decide +kernel
theorem dL_law_945 : decode cL_law 945 = .ok (.iload_n 3, 1) := by decide +kernel
theorem dL_law_946 : decode cL_law 946 = .ok (.iconst 4, 1) := by decide +kernel
theorem dL_law_947 : decode cL_law 947 = .ok (.iadd, 1) := by decide +kernel
theorem dL_law_948 : decode cL_law 948 = .ok (.iaload, 1) := by decide +kernel
theorem dL_law_949 : decode cL_law 949 = .ok (.invokevirtual 110, 3) := by decide +kernel
theorem dL_law_952 : decode cL_law 952 = .ok (.if_icmp .eq 343, 3) := by decide +kernel
theorem dL_law_955 : decode cL_law 955 = .ok (.iconst 0, 1) := by decide +kernel
theorem dL_law_956 : decode cL_law 956 = .ok (.ireturn, 1) := by decide +kernel
theorem dL_law_957 : decode cL_law 957 = .ok (.aload_n 1, 1) := by decide +kernel
theorem dL_law_958 : decode cL_law 958 = .ok (.aload_n 0, 1) := by decide +kernel
theorem dL_law_959 : decode cL_law 959 = .ok (.iload_n 3, 1) := by decide +kernel
theorem dL_law_960 : decode cL_law 960 = .ok (.iconst 1, 1) := by decide +kernel
theorem dL_law_961 : decode cL_law 961 = .ok (.iadd, 1) := by decide +kernel
theorem dL_law_962 : decode cL_law 962 = .ok (.iaload, 1) := by decide +kernel
theorem dL_law_963 : decode cL_law 963 = .ok (.aload_n 0, 1) := by decide +kernel
theorem dL_law_964 : decode cL_law 964 = .ok (.iload_n 3, 1) := by decide +kernel
theorem dL_law_965 : decode cL_law 965 = .ok (.iconst 2, 1) := by decide +kernel
theorem dL_law_966 : decode cL_law 966 = .ok (.iadd, 1) := by decide +kernel
theorem dL_law_967 : decode cL_law 967 = .ok (.iaload, 1) := by decide +kernel
theorem dL_law_968 : decode cL_law 968 = .ok (.aload_n 0, 1) := by decide +kernel
theorem dL_law_969 : decode cL_law 969 = .ok (.iload_n 3, 1) := by decide +kernel
theorem dL_law_970 : decode cL_law 970 = .ok (.iconst 3, 1) := by decide +kernel
theorem dL_law_971 : decode cL_law 971 = .ok (.iadd, 1) := by decide +kernel
theorem dL_law_972 : decode cL_law 972 = .ok (.iaload, 1) := by decide +kernel
theorem dL_law_973 : decode cL_law 973 = .ok (.invokevirtual 111, 3) := by decide +kernel
theorem dL_law_976 : decode cL_law 976 = .ok (.aload_n 2, 1) := by decide +kernel
theorem dL_law_977 : decode cL_law 977 = .ok (.aload_n 0, 1) := by decide +kernel
theorem dL_law_978 : decode cL_law 978 = .ok (.iload_n 3, 1) := by decide +kernel
theorem dL_law_979 : decode cL_law 979 = .ok (.iconst 1, 1) := by decide +kernel
theorem dL_law_980 : decode cL_law 980 = .ok (.iadd, 1) := by decide +kernel
theorem dL_law_981 : decode cL_law 981 = .ok (.iaload, 1) := by decide +kernel
theorem dL_law_982 : decode cL_law 982 = .ok (.aload_n 0, 1) := by decide +kernel
theorem dL_law_983 : decode cL_law 983 = .ok (.iload_n 3, 1) := by decide +kernel
theorem dL_law_984 : decode cL_law 984 = .ok (.iconst 2, 1) := by decide +kernel
theorem dL_law_985 : decode cL_law 985 = .ok (.iadd, 1) := by decide +kernel
theorem dL_law_986 : decode cL_law 986 = .ok (.iaload, 1) := by decide +kernel
theorem dL_law_987 : decode cL_law 987 = .ok (.aload_n 0, 1) := by decide +kernel
theorem dL_law_988 : decode cL_law 988 = .ok (.iload_n 3, 1) := by decide +kernel
theorem dL_law_989 : decode cL_law 989 = .ok (.iconst 3, 1) := by decide +kernel
theorem dL_law_990 : decode cL_law 990 = .ok (.iadd, 1) := by decide +kernel
theorem dL_law_991 : decode cL_law 991 = .ok (.iaload, 1) := by decide +kernel
theorem dL_law_992 : decode cL_law 992 = .ok (.invokevirtual 114, 3) := by decide +kernel
theorem dL_law_995 : decode cL_law 995 = .ok (.if_icmp .eq 300, 3) := by decide +kernel
theorem dL_law_998 : decode cL_law 998 = .ok (.iconst 0, 1) := by decide +kernel
theorem dL_law_999 : decode cL_law 999 = .ok (.ireturn, 1) := by decide +kernel
theorem dL_law_1000 : decode cL_law 1000 = .ok (.aload_n 1, 1) := by decide +kernel
theorem dL_law_1001 : decode cL_law 1001 = .ok (.invokevirtual 115, 3) := by decide +kernel
theorem dL_law_1004 : decode cL_law 1004 = .ok (.aload_n 2, 1) := by decide +kernel
theorem dL_law_1005 : decode cL_law 1005 = .ok (.invokevirtual 118, 3) := by decide +kernel
theorem dL_law_1008 : decode cL_law 1008 = .ok (.if_icmp .eq 287, 3) := by decide +kernel
theorem dL_law_1011 : decode cL_law 1011 = .ok (.iconst 0, 1) := by decide +kernel
theorem dL_law_1012 : decode cL_law 1012 = .ok (.ireturn, 1) := by decide +kernel
theorem dL_law_1013 : decode cL_law 1013 = .ok (.aload_n 1, 1) := by decide +kernel
theorem dL_law_1014 : decode cL_law 1014 = .ok (.aload_n 0, 1) := by decide +kernel
theorem dL_law_1015 : decode cL_law 1015 = .ok (.iload_n 3, 1) := by decide +kernel
theorem dL_law_1016 : decode cL_law 1016 = .ok (.iconst 1, 1) := by decide +kernel
theorem dL_law_1017 : decode cL_law 1017 = .ok (.iadd, 1) := by decide +kernel
theorem dL_law_1018 : decode cL_law 1018 = .ok (.iaload, 1) := by decide +kernel
theorem dL_law_1019 : decode cL_law 1019 = .ok (.invokevirtual 119, 3) := by decide +kernel
theorem dL_law_1022 : decode cL_law 1022 = .ok (.aload_n 2, 1) := by decide +kernel
theorem dL_law_1023 : decode cL_law 1023 = .ok (.aload_n 0, 1) := by decide +kernel
theorem dL_law_1024 : decode cL_law 1024 = .ok (.iload_n 3, 1) := by decide +kernel
theorem dL_law_1025 : decode cL_law 1025 = .ok (.iconst 1, 1) := by decide +kernel
theorem dL_law_1026 : decode cL_law 1026 = .ok (.iadd, 1) := by decide +kernel
theorem dL_law_1027 : decode cL_law 1027 = .ok (.iaload, 1) := by decide +kernel
theorem dL_law_1028 : decode cL_law 1028 = .ok (.invokevirtual 122, 3) := by decide +kernel
theorem dL_law_1031 : decode cL_law 1031 = .ok (.if_icmp .eq 264, 3) := by decide +kernel
theorem dL_law_1034 : decode cL_law 1034 = .ok (.iconst 0, 1) := by decide +kernel
theorem dL_law_1035 : decode cL_law 1035 = .ok (.ireturn, 1) := by decide +kernel
theorem dL_law_1036 : decode cL_law 1036 = .ok (.aload_n 1, 1) := by decide +kernel
theorem dL_law_1037 : decode cL_law 1037 = .ok (.aload_n 0, 1) := by decide +kernel
theorem dL_law_1038 : decode cL_law 1038 = .ok (.iload_n 3, 1) := by decide +kernel
theorem dL_law_1039 : decode cL_law 1039 = .ok (.iconst 1, 1) := by decide +kernel
theorem dL_law_1040 : decode cL_law 1040 = .ok (.iadd, 1) := by decide +kernel
theorem dL_law_1041 : decode cL_law 1041 = .ok (.iaload, 1) := by decide +kernel
theorem dL_law_1042 : decode cL_law 1042 = .ok (.invokevirtual 123, 3) := by decide +kernel
theorem dL_law_1045 : decode cL_law 1045 = .ok (.aload_n 2, 1) := by decide +kernel
theorem dL_law_1046 : decode cL_law 1046 = .ok (.aload_n 0, 1) := by decide +kernel
theorem dL_law_1047 : decode cL_law 1047 = .ok (.iload_n 3, 1) := by decide +kernel
theorem dL_law_1048 : decode cL_law 1048 = .ok (.iconst 1, 1) := by decide +kernel
theorem dL_law_1049 : decode cL_law 1049 = .ok (.iadd, 1) := by decide +kernel
theorem dL_law_1050 : decode cL_law 1050 = .ok (.iaload, 1) := by decide +kernel
theorem dL_law_1051 : decode cL_law 1051 = .ok (.invokevirtual 126, 3) := by decide +kernel
theorem dL_law_1054 : decode cL_law 1054 = .ok (.if_icmp .eq 241, 3) := by decide +kernel
theorem dL_law_1057 : decode cL_law 1057 = .ok (.iconst 0, 1) := by decide +kernel
theorem dL_law_1058 : decode cL_law 1058 = .ok (.ireturn, 1) := by decide +kernel
theorem dL_law_1059 : decode cL_law 1059 = .ok (.aload_n 1, 1) := by decide +kernel
theorem dL_law_1060 : decode cL_law 1060 = .ok (.aload_n 0, 1) := by decide +kernel
theorem dL_law_1061 : decode cL_law 1061 = .ok (.iload_n 3, 1) := by decide +kernel
theorem dL_law_1062 : decode cL_law 1062 = .ok (.iconst 1, 1) := by decide +kernel
theorem dL_law_1063 : decode cL_law 1063 = .ok (.iadd, 1) := by decide +kernel
theorem dL_law_1064 : decode cL_law 1064 = .ok (.iaload, 1) := by decide +kernel
theorem dL_law_1065 : decode cL_law 1065 = .ok (.aload_n 0, 1) := by decide +kernel
theorem dL_law_1066 : decode cL_law 1066 = .ok (.iload_n 3, 1) := by decide +kernel
theorem dL_law_1067 : decode cL_law 1067 = .ok (.iconst 2, 1) := by decide +kernel
theorem dL_law_1068 : decode cL_law 1068 = .ok (.iadd, 1) := by decide +kernel
theorem dL_law_1069 : decode cL_law 1069 = .ok (.iaload, 1) := by decide +kernel
theorem dL_law_1070 : decode cL_law 1070 = .ok (.aload_n 0, 1) := by decide +kernel
theorem dL_law_1071 : decode cL_law 1071 = .ok (.iload_n 3, 1) := by decide +kernel
theorem dL_law_1072 : decode cL_law 1072 = .ok (.iconst 3, 1) := by decide +kernel
theorem dL_law_1073 : decode cL_law 1073 = .ok (.iadd, 1) := by decide +kernel
theorem dL_law_1074 : decode cL_law 1074 = .ok (.iaload, 1) := by decide +kernel
theorem dL_law_1075 : decode cL_law 1075 = .ok (.aload_n 0, 1) := by decide +kernel
theorem dL_law_1076 : decode cL_law 1076 = .ok (.iload_n 3, 1) := by decide +kernel
theorem dL_law_1077 : decode cL_law 1077 = .ok (.iconst 4, 1) := by decide +kernel
theorem dL_law_1078 : decode cL_law 1078 = .ok (.iadd, 1) := by decide +kernel
theorem dL_law_1079 : decode cL_law 1079 = .ok (.iaload, 1) := by decide +kernel
theorem dL_law_1080 : decode cL_law 1080 = .ok (.invokevirtual 127, 3) := by decide +kernel
theorem dL_law_1083 : decode cL_law 1083 = .ok (.aload_n 2, 1) := by decide +kernel
theorem dL_law_1084 : decode cL_law 1084 = .ok (.aload_n 0, 1) := by decide +kernel
theorem dL_law_1085 : decode cL_law 1085 = .ok (.iload_n 3, 1) := by decide +kernel
theorem dL_law_1086 : decode cL_law 1086 = .ok (.iconst 1, 1) := by decide +kernel
theorem dL_law_1087 : decode cL_law 1087 = .ok (.iadd, 1) := by decide +kernel
theorem dL_law_1088 : decode cL_law 1088 = .ok (.iaload, 1) := by decide +kernel
theorem dL_law_1089 : decode cL_law 1089 = .ok (.aload_n 0, 1) := by decide +kernel
theorem dL_law_1090 : decode cL_law 1090 = .ok (.iload_n 3, 1) := by decide +kernel
theorem dL_law_1091 : decode cL_law 1091 = .ok (.iconst 2, 1) := by decide +kernel
theorem dL_law_1092 : decode cL_law 1092 = .ok (.iadd, 1) := by decide +kernel
theorem dL_law_1093 : decode cL_law 1093 = .ok (.iaload, 1) := by decide +kernel
theorem dL_law_1094 : decode cL_law 1094 = .ok (.aload_n 0, 1) := by decide +kernel
theorem dL_law_1095 : decode cL_law 1095 = .ok (.iload_n 3, 1) := by decide +kernel
theorem dL_law_1096 : decode cL_law 1096 = .ok (.iconst 3, 1) := by decide +kernel
theorem dL_law_1097 : decode cL_law 1097 = .ok (.iadd, 1) := by decide +kernel
theorem dL_law_1098 : decode cL_law 1098 = .ok (.iaload, 1) := by decide +kernel
theorem dL_law_1099 : decode cL_law 1099 = .ok (.aload_n 0, 1) := by decide +kernel
theorem dL_law_1100 : decode cL_law 1100 = .ok (.iload_n 3, 1) := by decide +kernel
theorem dL_law_1101 : decode cL_law 1101 = .ok (.iconst 4, 1) := by decide +kernel
theorem dL_law_1102 : decode cL_law 1102 = .ok (.iadd, 1) := by decide +kernel
theorem dL_law_1103 : decode cL_law 1103 = .ok (.iaload, 1) := by decide +kernel
theorem dL_law_1104 : decode cL_law 1104 = .ok (.invokevirtual 130, 3) := by decide +kernel
theorem dL_law_1107 : decode cL_law 1107 = .ok (.if_icmp .eq 188, 3) := by decide +kernel
theorem dL_law_1110 : decode cL_law 1110 = .ok (.iconst 0, 1) := by decide +kernel
theorem dL_law_1111 : decode cL_law 1111 = .ok (.ireturn, 1) := by decide +kernel
theorem dL_law_1112 : decode cL_law 1112 = .ok (.aload_n 1, 1) := by decide +kernel
theorem dL_law_1113 : decode cL_law 1113 = .ok (.aload_n 0, 1) := by decide +kernel
theorem dL_law_1114 : decode cL_law 1114 = .ok (.iload_n 3, 1) := by decide +kernel
theorem dL_law_1115 : decode cL_law 1115 = .ok (.iconst 1, 1) := by decide +kernel
theorem dL_law_1116 : decode cL_law 1116 = .ok (.iadd, 1) := by decide +kernel
theorem dL_law_1117 : decode cL_law 1117 = .ok (.iaload, 1) := by decide +kernel
theorem dL_law_1118 : decode cL_law 1118 = .ok (.aload_n 0, 1) := by decide +kernel
theorem dL_law_1119 : decode cL_law 1119 = .ok (.iload_n 3, 1) := by decide +kernel
theorem dL_law_1120 : decode cL_law 1120 = .ok (.iconst 2, 1) := by decide +kernel
theorem dL_law_1121 : decode cL_law 1121 = .ok (.iadd, 1) := by decide +kernel
theorem dL_law_1122 : decode cL_law 1122 = .ok (.iaload, 1) := by decide +kernel
theorem dL_law_1123 : decode cL_law 1123 = .ok (.aload_n 0, 1) := by decide +kernel
theorem dL_law_1124 : decode cL_law 1124 = .ok (.iload_n 3, 1) := by decide +kernel
theorem dL_law_1125 : decode cL_law 1125 = .ok (.iconst 3, 1) := by decide +kernel
theorem dL_law_1126 : decode cL_law 1126 = .ok (.iadd, 1) := by decide +kernel
theorem dL_law_1127 : decode cL_law 1127 = .ok (.iaload, 1) := by decide +kernel
theorem dL_law_1128 : decode cL_law 1128 = .ok (.aload_n 0, 1) := by decide +kernel
theorem dL_law_1129 : decode cL_law 1129 = .ok (.iload_n 3, 1) := by decide +kernel
theorem dL_law_1130 : decode cL_law 1130 = .ok (.iconst 4, 1) := by decide +kernel
theorem dL_law_1131 : decode cL_law 1131 = .ok (.iadd, 1) := by decide +kernel
theorem dL_law_1132 : decode cL_law 1132 = .ok (.iaload, 1) := by decide +kernel
theorem dL_law_1133 : decode cL_law 1133 = .ok (.invokevirtual 131, 3) := by decide +kernel
theorem dL_law_1136 : decode cL_law 1136 = .ok (.aload_n 2, 1) := by decide +kernel
theorem dL_law_1137 : decode cL_law 1137 = .ok (.aload_n 0, 1) := by decide +kernel
theorem dL_law_1138 : decode cL_law 1138 = .ok (.iload_n 3, 1) := by decide +kernel
theorem dL_law_1139 : decode cL_law 1139 = .ok (.iconst 1, 1) := by decide +kernel
theorem dL_law_1140 : decode cL_law 1140 = .ok (.iadd, 1) := by decide +kernel
theorem dL_law_1141 : decode cL_law 1141 = .ok (.iaload, 1) := by decide +kernel
theorem dL_law_1142 : decode cL_law 1142 = .ok (.aload_n 0, 1) := by decide +kernel
theorem dL_law_1143 : decode cL_law 1143 = .ok (.iload_n 3, 1) := by decide +kernel
theorem dL_law_1144 : decode cL_law 1144 = .ok (.iconst 2, 1) := by decide +kernel
theorem dL_law_1145 : decode cL_law 1145 = .ok (.iadd, 1) := by decide +kernel
theorem dL_law_1146 : decode cL_law 1146 = .ok (.iaload, 1) := by decide +kernel
theorem dL_law_1147 : decode cL_law 1147 = .ok (.aload_n 0, 1) := by decide +kernel
theorem dL_law_1148 : decode cL_law 1148 = .ok (.iload_n 3, 1) := by decide +kernel
theorem dL_law_1149 : decode cL_law 1149 = .ok (.iconst 3, 1) := by decide +kernel
theorem dL_law_1150 : decode cL_law 1150 = .ok (.iadd, 1) := by decide +kernel
theorem dL_law_1151 : decode cL_law 1151 = .ok (.iaload, 1) := by decide +kernel
theorem dL_law_1152 : decode cL_law 1152 = .ok (.aload_n 0, 1) := by decide +kernel
theorem dL_law_1153 : decode cL_law 1153 = .ok (.iload_n 3, 1) := by decide +kernel
theorem dL_law_1154 : decode cL_law 1154 = .ok (.iconst 4, 1) := by decide +kernel
theorem dL_law_1155 : decode cL_law 1155 = .ok (.iadd, 1) := by decide +kernel
theorem dL_law_1156 : decode cL_law 1156 = .ok (.iaload, 1) := by decide +kernel
theorem dL_law_1157 : decode cL_law 1157 = .ok (.invokevirtual 134, 3) := by decide +kernel
theorem dL_law_1160 : decode cL_law 1160 = .ok (.if_icmp .eq 135, 3) := by decide +kernel
theorem dL_law_1163 : decode cL_law 1163 = .ok (.iconst 0, 1) := by decide +kernel
theorem dL_law_1164 : decode cL_law 1164 = .ok (.ireturn, 1) := by decide +kernel
theorem dL_law_1165 : decode cL_law 1165 = .ok (.aload_n 1, 1) := by decide +kernel
theorem dL_law_1166 : decode cL_law 1166 = .ok (.aload_n 0, 1) := by decide +kernel
theorem dL_law_1167 : decode cL_law 1167 = .ok (.iload_n 3, 1) := by decide +kernel
theorem dL_law_1168 : decode cL_law 1168 = .ok (.iconst 1, 1) := by decide +kernel
theorem dL_law_1169 : decode cL_law 1169 = .ok (.iadd, 1) := by decide +kernel
theorem dL_law_1170 : decode cL_law 1170 = .ok (.iaload, 1) := by decide +kernel
theorem dL_law_1171 : decode cL_law 1171 = .ok (.invokevirtual 135, 3) := by decide +kernel
theorem dL_law_1174 : decode cL_law 1174 = .ok (.aload_n 2, 1) := by decide +kernel
theorem dL_law_1175 : decode cL_law 1175 = .ok (.aload_n 0, 1) := by decide +kernel
theorem dL_law_1176 : decode cL_law 1176 = .ok (.iload_n 3, 1) := by decide +kernel
theorem dL_law_1177 : decode cL_law 1177 = .ok (.iconst 1, 1) := by decide +kernel
theorem dL_law_1178 : decode cL_law 1178 = .ok (.iadd, 1) := by decide +kernel
theorem dL_law_1179 : decode cL_law 1179 = .ok (.iaload, 1) := by decide +kernel
theorem dL_law_1180 : decode cL_law 1180 = .ok (.invokevirtual 139, 3) := by decide +kernel
theorem dL_law_1183 : decode cL_law 1183 = .ok (.lcmp, 1) := by decide +kernel
theorem dL_law_1184 : decode cL_law 1184 = .ok (.ifCond .eq 111, 3) := by decide +kernel
theorem dL_law_1187 : decode cL_law 1187 = .ok (.iconst 0, 1) := by decide +kernel
theorem dL_law_1188 : decode cL_law 1188 = .ok (.ireturn, 1) := by decide +kernel
theorem dL_law_1189 : decode cL_law 1189 = .ok (.aload_n 1, 1) := by decide +kernel
theorem dL_law_1190 : decode cL_law 1190 = .ok (.aload_n 0, 1) := by decide +kernel
theorem dL_law_1191 : decode cL_law 1191 = .ok (.iload_n 3, 1) := by decide +kernel
theorem dL_law_1192 : decode cL_law 1192 = .ok (.iconst 1, 1) := by decide +kernel
theorem dL_law_1193 : decode cL_law 1193 = .ok (.iadd, 1) := by decide +kernel
theorem dL_law_1194 : decode cL_law 1194 = .ok (.iaload, 1) := by decide +kernel
theorem dL_law_1195 : decode cL_law 1195 = .ok (.invokevirtual 140, 3) := by decide +kernel
theorem dL_law_1198 : decode cL_law 1198 = .ok (.aload_n 2, 1) := by decide +kernel
theorem dL_law_1199 : decode cL_law 1199 = .ok (.aload_n 0, 1) := by decide +kernel
theorem dL_law_1200 : decode cL_law 1200 = .ok (.iload_n 3, 1) := by decide +kernel
theorem dL_law_1201 : decode cL_law 1201 = .ok (.iconst 1, 1) := by decide +kernel
theorem dL_law_1202 : decode cL_law 1202 = .ok (.iadd, 1) := by decide +kernel
theorem dL_law_1203 : decode cL_law 1203 = .ok (.iaload, 1) := by decide +kernel
theorem dL_law_1204 : decode cL_law 1204 = .ok (.invokevirtual 143, 3) := by decide +kernel
theorem dL_law_1207 : decode cL_law 1207 = .ok (.if_icmp .eq 88, 3) := by decide +kernel
theorem dL_law_1210 : decode cL_law 1210 = .ok (.iconst 0, 1) := by decide +kernel
theorem dL_law_1211 : decode cL_law 1211 = .ok (.ireturn, 1) := by decide +kernel
theorem dL_law_1212 : decode cL_law 1212 = .ok (.aload_n 1, 1) := by decide +kernel
theorem dL_law_1213 : decode cL_law 1213 = .ok (.aload_n 0, 1) := by decide +kernel
theorem dL_law_1214 : decode cL_law 1214 = .ok (.iload_n 3, 1) := by decide +kernel
theorem dL_law_1215 : decode cL_law 1215 = .ok (.iconst 1, 1) := by decide +kernel
theorem dL_law_1216 : decode cL_law 1216 = .ok (.iadd, 1) := by decide +kernel
theorem dL_law_1217 : decode cL_law 1217 = .ok (.iaload, 1) := by decide +kernel
theorem dL_law_1218 : decode cL_law 1218 = .ok (.invokevirtual 144, 3) := by decide +kernel
theorem dL_law_1221 : decode cL_law 1221 = .ok (.aload_n 2, 1) := by decide +kernel
theorem dL_law_1222 : decode cL_law 1222 = .ok (.aload_n 0, 1) := by decide +kernel
theorem dL_law_1223 : decode cL_law 1223 = .ok (.iload_n 3, 1) := by decide +kernel
theorem dL_law_1224 : decode cL_law 1224 = .ok (.iconst 1, 1) := by decide +kernel
theorem dL_law_1225 : decode cL_law 1225 = .ok (.iadd, 1) := by decide +kernel
theorem dL_law_1226 : decode cL_law 1226 = .ok (.iaload, 1) := by decide +kernel
theorem dL_law_1227 : decode cL_law 1227 = .ok (.invokevirtual 147, 3) := by decide +kernel
theorem dL_law_1230 : decode cL_law 1230 = .ok (.if_icmp .eq 65, 3) := by decide +kernel
theorem dL_law_1233 : decode cL_law 1233 = .ok (.iconst 0, 1) := by decide +kernel
theorem dL_law_1234 : decode cL_law 1234 = .ok (.ireturn, 1) := by decide +kernel
theorem dL_law_1235 : decode cL_law 1235 = .ok (.aload_n 1, 1) := by decide +kernel
theorem dL_law_1236 : decode cL_law 1236 = .ok (.aload_n 0, 1) := by decide +kernel
theorem dL_law_1237 : decode cL_law 1237 = .ok (.iload_n 3, 1) := by decide +kernel
theorem dL_law_1238 : decode cL_law 1238 = .ok (.iconst 1, 1) := by decide +kernel
theorem dL_law_1239 : decode cL_law 1239 = .ok (.iadd, 1) := by decide +kernel
theorem dL_law_1240 : decode cL_law 1240 = .ok (.iaload, 1) := by decide +kernel
theorem dL_law_1241 : decode cL_law 1241 = .ok (.invokevirtual 148, 3) := by decide +kernel
theorem dL_law_1244 : decode cL_law 1244 = .ok (.aload_n 2, 1) := by decide +kernel
theorem dL_law_1245 : decode cL_law 1245 = .ok (.aload_n 0, 1) := by decide +kernel
theorem dL_law_1246 : decode cL_law 1246 = .ok (.iload_n 3, 1) := by decide +kernel
theorem dL_law_1247 : decode cL_law 1247 = .ok (.iconst 1, 1) := by decide +kernel
theorem dL_law_1248 : decode cL_law 1248 = .ok (.iadd, 1) := by decide +kernel
theorem dL_law_1249 : decode cL_law 1249 = .ok (.iaload, 1) := by decide +kernel
theorem dL_law_1250 : decode cL_law 1250 = .ok (.invokevirtual 151, 3) := by decide +kernel
theorem dL_law_1253 : decode cL_law 1253 = .ok (.if_icmp .eq 42, 3) := by decide +kernel
theorem dL_law_1256 : decode cL_law 1256 = .ok (.iconst 0, 1) := by decide +kernel
theorem dL_law_1257 : decode cL_law 1257 = .ok (.ireturn, 1) := by decide +kernel
theorem dL_law_1258 : decode cL_law 1258 = .ok (.aload_n 1, 1) := by decide +kernel
theorem dL_law_1259 : decode cL_law 1259 = .ok (.aload_n 0, 1) := by decide +kernel
theorem dL_law_1260 : decode cL_law 1260 = .ok (.iload_n 3, 1) := by decide +kernel
theorem dL_law_1261 : decode cL_law 1261 = .ok (.iconst 1, 1) := by decide +kernel
theorem dL_law_1262 : decode cL_law 1262 = .ok (.iadd, 1) := by decide +kernel
theorem dL_law_1263 : decode cL_law 1263 = .ok (.iaload, 1) := by decide +kernel
theorem dL_law_1264 : decode cL_law 1264 = .ok (.invokevirtual 152, 3) := by decide +kernel
theorem dL_law_1267 : decode cL_law 1267 = .ok (.aload_n 2, 1) := by decide +kernel
theorem dL_law_1268 : decode cL_law 1268 = .ok (.aload_n 0, 1) := by decide +kernel
theorem dL_law_1269 : decode cL_law 1269 = .ok (.iload_n 3, 1) := by decide +kernel
theorem dL_law_1270 : decode cL_law 1270 = .ok (.iconst 1, 1) := by decide +kernel
theorem dL_law_1271 : decode cL_law 1271 = .ok (.iadd, 1) := by decide +kernel
theorem dL_law_1272 : decode cL_law 1272 = .ok (.iaload, 1) := by decide +kernel
theorem dL_law_1273 : decode cL_law 1273 = .ok (.invokevirtual 155, 3) := by decide +kernel
theorem dL_law_1276 : decode cL_law 1276 = .ok (.if_icmp .eq 19, 3) := by decide +kernel
theorem dL_law_1279 : decode cL_law 1279 = .ok (.iconst 0, 1) := by decide +kernel
theorem dL_law_1280 : decode cL_law 1280 = .ok (.ireturn, 1) := by decide +kernel
theorem dL_law_1281 : decode cL_law 1281 = .ok (.aload_n 1, 1) := by decide +kernel
theorem dL_law_1282 : decode cL_law 1282 = .ok (.invokevirtual 156, 3) := by decide +kernel
theorem dL_law_1285 : decode cL_law 1285 = .ok (.aload_n 2, 1) := by decide +kernel
theorem dL_law_1286 : decode cL_law 1286 = .ok (.invokevirtual 160, 3) := by decide +kernel
theorem dL_law_1289 : decode cL_law 1289 = .ok (.lcmp, 1) := by decide +kernel
theorem dL_law_1290 : decode cL_law 1290 = .ok (.ifCond .eq 5, 3) := by decide +kernel
theorem dL_law_1293 : decode cL_law 1293 = .ok (.iconst 0, 1) := by decide +kernel
theorem dL_law_1294 : decode cL_law 1294 = .ok (.ireturn, 1) := by decide +kernel
theorem dL_law_1295 : decode cL_law 1295 = .ok (.iinc 3 6, 3) := by decide +kernel
theorem dL_law_1298 : decode cL_law 1298 = .ok (.goto (-1280), 3) := by decide +kernel
theorem dL_law_1301 : decode cL_law 1301 = .ok (.iconst 1, 1) := by decide +kernel
theorem dL_law_1302 : decode cL_law 1302 = .ok (.ireturn, 1) := by decide +kernel
end
section
/-! ===== the world: 92 cells, laid out once for all; its numbers ===== -/
abbrev Mm : Type := (Nat → Nat → Int32) × (Nat → Nat → Int64)
abbrev Ld : Type := (Nat × List (Option (Option Nat))) ⊕ (Nat × Nat) ⊕ (Nat × List Nat)
/-- addresses, array classes, the tables' numbers, the text constants' two addresses -/
abbrev Kt : Type := (Nat → Nat) × (Nat → ClassId) × va_G × (Nat → Nat) × (Nat → Nat)
def sA (w : Mm) (k : Nat) (f : Nat → Int32) : Mm := (fun a => if a = k then f else w.1 a, w.2)
def sI (w : Mm) (k i : Nat) (v : Int32) : Mm := sA w k (upd (w.1 k) i v)
def sJ (w : Mm) (k i : Nat) (v : Int64) : Mm := (w.1, fun a => if a = k then vp_updL (w.2 k) i v else w.2 a)
abbrev ap_cl : List vw_C := [(RX0, TX0, 0), (RX1, TX1, 0), (RX2, TX2, 0), (RX3, TX3, 9), (RX4, TX4, 0), (RX5, TX5, 7), (RX6, TX6, 7), (RX7, TX7, 0), (RX8, TX8, 17), (RX9, TX9, 5), (RX10, TX10, 0), (RX11, TX11, 12), (RX12, TX12, 23)]
def ap_fv (K : Kt) (w : Mm) (k i : Nat) (d : Option (Option Nat)) : Value := match d with
  | none => .int (w.1 k i)
  | some none => .long (w.2 k i)
  | some (some j) => .ref (K.1 j)
def ap_cell (K : Kt) (w : Mm) (k : Nat) (d : Ld) : va_E := match d with
  | .inl q => .inr (q.1, q.2.mapIdx (fun i fd => ap_fv K w k i fd))
  | .inr (.inl q) => .inl (K.2.1 q.1, q.2, .inl (w.1 k))
  | .inr (.inr q) => .inl (K.2.1 q.1, q.2.length, .inr (.inr (.inr (.inr (fun j => (q.2[j]?).map K.1)))))
/-- a valley: its object, eleven arrays behind it -/
def ap_val (v : Nat) : List Ld := [.inl (8, [none, none, none, some (some (v + 1)), some (some (v + 2)), some (some (v + 3)), some (some (v + 4)), some (some (v + 5)), none, some (some (v + 6)), none, some (some (v + 7)), some (some (v + 8)), some (some (v + 9)), none, some (some (v + 10)), some (some (v + 11))]),
  .inr (.inl (0, 7)), .inr (.inl (0, 7)), .inr (.inl (0, 7)), .inr (.inl (0, 7)), .inr (.inl (0, 7)), .inr (.inl (0, 6)), .inr (.inl (0, 6)), .inr (.inl (0, 6)), .inr (.inl (0, 6)), .inr (.inl (0, 56)), .inr (.inl (0, 8))]
def LAY : List Ld := [.inl (11, [some (some 1), some (some 49), some (some 50), some (some 51), some (some 53), some (some 68), some (some 73), some none, some none, none, none, none])] ++ ap_val 1 ++ ap_val 13 ++ ap_val 25 ++ ap_val 37 ++
  [.inr (.inr (3, [13, 25])), .inr (.inl (1, 2)),
   .inl (5, [some (some 37), none, some (some 52), none, none, none, none]), .inr (.inl (2, 150)),
   .inl (3, [some (some 1), some (some 54), some (some 61), some (some 62), some (some 63), some (some 64), some (some 65), some (some 66), some (some 67)]), .inr (.inr (4, [55, 56, 57, 58, 59, 60])),
   .inl (4, []), .inl (10, []), .inl (1, []), .inl (2, []), .inl (0, []), .inl (7, []),
   .inr (.inl (0, 448)), .inr (.inl (0, 7)), .inr (.inl (0, 64)), .inr (.inl (0, 64)), .inr (.inl (0, 15)), .inr (.inl (0, 4)), .inr (.inl (0, 4)),
   .inl (6, [some (some 1), some (some 53), some (some 69), some (some 70), none, some (some 71), some (some 72)]), .inr (.inl (0, 6)), .inr (.inl (1, 128)), .inr (.inl (0, 128)), .inr (.inl (0, 24)),
   .inl (9, [some (some 1), some (some 53), some (some 74), some (some 75), some (some 76)]), .inr (.inl (0, 64)), .inr (.inl (1, 64)), .inr (.inl (0, 64)),
   .inl (12, [some (some 78), some (some 79), some (some 80), some (some 81), some none, some none, none, some (some 82), some (some 83), some (some 84), some (some 85), some (some 86), some (some 87), some (some 88), none, some (some 89), none, none, none, none, none, some (some 90), some (some 91)]),
   .inr (.inl (0, 129)), .inr (.inl (0, 258)), .inr (.inl (1, 2)), .inr (.inl (0, 3)), .inr (.inl (0, 7)), .inr (.inl (0, 7)), .inr (.inl (0, 64)), .inr (.inl (0, 4)), .inr (.inl (0, 4)), .inr (.inl (1, 128)), .inr (.inl (0, 24)), .inr (.inl (0, 150)), .inr (.inl (0, 65)), .inr (.inl (0, 5))]
theorem LAY_len : LAY.length = 92 := by decide +kernel
def ap_w (K : Kt) (w : Mm) : va_W := LAY.mapIdx (fun k d => (K.1 k, ap_cell K w k d))
def ap_A (K : Kt) : Nat → Prop := fun q => ∃ k, k < 92 ∧ q = K.1 k
theorem ap_w_at {K : Kt} {w : Mm} {k : Nat} {d : Ld} (h : LAY[k]? = some d) : (ap_w K w)[k]? = some (K.1 k, ap_cell K w k d) := by
  simp [ap_w, List.getElem?_mapIdx, h]
theorem ap_w_of {K : Kt} {w : Mm} {k : Nat} {q : Nat × va_E} (h : (ap_w K w)[k]? = some q) : k < 92 ∧ q.1 = K.1 k := by
  rw [ap_w, List.getElem?_mapIdx] at h
  cases hd : LAY[k]? with
  | none => rw [hd] at h; cases h
  | some d =>
    rw [hd] at h
    have h2 := Option.some.inj h
    refine ⟨by rw [← LAY_len]; exact (List.getElem?_eq_some_iff.mp hd).1, by rw [← h2]⟩
theorem ap_cell_ne {K : Kt} {w w' : Mm} {k : Nat} {d : Ld} (h1 : w'.1 k = w.1 k) (h2 : w'.2 k = w.2 k) : ap_cell K w' k d = ap_cell K w k d := by
  cases d with
  | inl q =>
    have e : (fun i fd => ap_fv K w' k i fd) = (fun i fd => ap_fv K w k i fd) := by
      funext i fd
      cases fd with
      | none => simp [ap_fv, h1]
      | some x => cases x <;> simp [ap_fv, h2]
    simp only [ap_cell, e]
  | inr q => cases q with
    | inl q => simp only [ap_cell, h1]
    | inr q => rfl
theorem ap_w_set {K : Kt} {w w' : Mm} {k : Nat} {d : Ld} {x : va_E} (h : LAY[k]? = some d) (hx : ap_cell K w' k d = x) (h1 : ∀ j, j ≠ k → w'.1 j = w.1 j) (h2 : ∀ j, j ≠ k → w'.2 j = w.2 j) : (ap_w K w).set k (K.1 k, x) = ap_w K w' := by
  apply List.ext_getElem?
  intro j
  have hl : k < LAY.length := (List.getElem?_eq_some_iff.mp h).1
  rw [List.getElem?_set]
  by_cases hj : k = j
  · subst hj
    have : k < (ap_w K w).length := by simp only [ap_w, List.length_mapIdx]; exact hl
    rw [if_pos rfl, if_pos this, ap_w_at h, hx]
  · rw [if_neg hj]
    simp only [ap_w, List.getElem?_mapIdx]
    cases LAY[j]? with
    | none => rfl
    | some d' => simp only [Option.map_some]; rw [ap_cell_ne (h1 j (Ne.symm hj)) (h2 j (Ne.symm hj))]
theorem sA_same (w : Mm) (k : Nat) (f : Nat → Int32) : (sA w k f).1 k = f := by simp [sA]
theorem sA_ne (w : Mm) {k j : Nat} (f : Nat → Int32) (h : j ≠ k) : (sA w k f).1 j = w.1 j := by simp [sA, h]
theorem ap_w_sA {K : Kt} {w : Mm} {k t n : Nat} {f : Nat → Int32} (h : LAY[k]? = some (.inr (.inl (t, n)))) : (ap_w K w).set k (K.1 k, .inl (K.2.1 t, n, .inl f)) = ap_w K (sA w k f) :=
  ap_w_set h (by simp only [ap_cell, sA_same]) (fun j hj => sA_ne w f hj) (fun j _ => rfl)
theorem ap_w_sI {K : Kt} {w : Mm} {k ci i : Nat} {fds : List (Option (Option Nat))} {v : Int32} (h : LAY[k]? = some (.inl (ci, fds))) (hi : fds[i]? = some none) : (ap_w K w).set k (K.1 k, .inr (ci, (fds.mapIdx (fun i fd => ap_fv K w k i fd)).set i (.int v))) = ap_w K (sI w k i v) := by
  refine ap_w_set h ?_ (fun j hj => sA_ne w _ hj) (fun j _ => rfl)
  simp only [ap_cell]
  congr 2
  apply List.ext_getElem?
  intro j
  have hl : i < fds.length := (List.getElem?_eq_some_iff.mp hi).1
  rw [List.getElem?_set, List.getElem?_mapIdx, List.getElem?_mapIdx]
  by_cases hj : i = j
  · subst hj
    rw [if_pos rfl, if_pos (by simpa using hl), hi]
    simp [ap_fv, sI, sA, upd]
  · rw [if_neg hj]
    cases fds[j]? with
    | none => rfl
    | some fd =>
      simp only [Option.map_some]
      cases fd with
      | none => simp [ap_fv, sI, sA, upd, Ne.symm hj]
      | some x => cases x <;> rfl
theorem ap_w_sJ {K : Kt} {w : Mm} {k ci i : Nat} {fds : List (Option (Option Nat))} {v : Int64} (h : LAY[k]? = some (.inl (ci, fds))) (hi : fds[i]? = some (some none)) : (ap_w K w).set k (K.1 k, .inr (ci, (fds.mapIdx (fun i fd => ap_fv K w k i fd)).set i (.long v))) = ap_w K (sJ w k i v) := by
  refine ap_w_set h ?_ (fun j _ => rfl) (fun j hj => by simp [sJ, hj])
  simp only [ap_cell]
  congr 2
  apply List.ext_getElem?
  intro j
  have hl : i < fds.length := (List.getElem?_eq_some_iff.mp hi).1
  rw [List.getElem?_set, List.getElem?_mapIdx, List.getElem?_mapIdx]
  by_cases hj : i = j
  · subst hj
    rw [if_pos rfl, if_pos (by simpa using hl), hi]
    simp [ap_fv, sJ, vp_updL]
  · rw [if_neg hj]
    cases fds[j]? with
    | none => rfl
    | some fd =>
      simp only [Option.map_some]
      cases fd with
      | none => rfl
      | some x => cases x with
        | none => simp [ap_fv, sJ, vp_updL, Ne.symm hj]
        | some y => rfl
/-! ===== words, and what holds at a state ===== -/
def ap_gw : List Cond := lw_tbl.filter goodWord
theorem ap_in {w : Cond} (i : Nat) (h : lw_tbl[i]? = some w) (hg : goodWord w = true) : w ∈ ap_gw := List.mem_filter.mpr ⟨List.mem_of_getElem? h, hg⟩
def ap_ws (y : MethodName) (cc : ByteArray) (nL : Nat) (ret : Option FieldType) : List Cond := .code y cc nL ret :: ap_gw
theorem ap_good {y : MethodName} {cc : ByteArray} {nL : Nat} {ret : Option FieldType} (h : Cond.code y cc nL ret ∈ ap_gw) : GoodIn ap_gw (ap_ws y cc nL ret) := by
  intro w hw
  have h1 : w ∈ ap_gw := by
    rcases List.mem_cons.mp hw with e | e
    · rw [e]; exact h
    · exact e
  exact ⟨h1, good_of_word (List.mem_filter.mp h1).2⟩
abbrev ap_tys (K : Kt) : List (ClassId × FieldType) := [(K.2.1 0, .int), (K.2.1 1, .boolean), (K.2.1 2, .byte), (K.2.1 3, .object "CandleLand$Valley"), (K.2.1 4, .object "CandleLand$Plain")]
/-- the nest mates' words -/
def ap_nst : List Cond := [.methodLinkNest "CandleLand$Reader" 89 ⟨"CandleLand", "within", "(III)Z"⟩ "CandleLand", .methodLinkNest "CandleLand$Valley" 64 ⟨"CandleLand", "farBetween", "(II)I"⟩ "CandleLand", .methodLinkNest "CandleLand$Night" 141 ⟨"CandleLand", "farBetween", "(II)I"⟩ "CandleLand"]
/-- the text constants: candle .. -/
def ap_str (K : Kt) (U : State) : Prop := vk_S 3 [6, 6, 3] [[118, 97, 108, 108, 101, 121], [99, 97, 110, 100, 108, 101], [111, 117, 116]] K.2.2.2.1 K.2.2.2.2 (ap_A K) U U.heap ∧ va_Z "java/lang/String" "COMPACT_STRINGS" "Z" (.int 1) (ap_A K) U U.heap ∧ va_Zq "jdk/internal/util/Preconditions" "SIOOBE_FORMATTER" "Ljava/util/function/BiFunction;" (ap_A K) U U.heap
def ap_ldc (K : Kt) (U : State) : Prop := vk_R "CandleLand$Reader" 49 "valley" (K.2.2.2.1 0) U ∧ vk_R "CandleLand$Reader" 59 "candle" (K.2.2.2.1 1) U ∧ vk_R "CandleLand$Reader" 64 "out" (K.2.2.2.1 2) U
def ap_K (K : Kt) (U : State) : Prop := va_K K.2.2.1 ap_cl (ap_tys K) U ∧ (∀ q ∈ ap_nst, va_Nw q U) ∧ (∀ i j, i < 92 → j < 92 → K.1 i = K.1 j → i = j) ∧ ap_str K U ∧ ap_ldc K U
theorem ap_str.blind {K : Kt} {U : State} {g : JFrame} {mk : MethodId} {a : Array Value} (h : ap_str K U) : ap_str K (U.calling g mk a) :=
  ⟨vk_S.moved (u := U) (U := U.calling g mk a) (Vm.Alike.refl U.vm) h.1, va_Z.moved (u := U) (U := U.calling g mk a) (Vm.Alike.refl U.vm) h.2.1, va_Zq.moved (u := U) (U := U.calling g mk a) (Vm.Alike.refl U.vm) h.2.2⟩
theorem ap_K.blind {K : Kt} {U : State} {g : JFrame} {mk : MethodId} {a : Array Value} (h : ap_K K U) : ap_K K (U.calling g mk a) :=
  ⟨va_K.moved (u := U) (U := U.calling g mk a) (Vm.Alike.refl U.vm) h.1, fun q hq => by
    have h1 := h.2.1 q hq
    simp only [ap_nst, List.mem_cons, List.not_mem_nil, or_false] at hq
    rcases hq with rfl | rfl | rfl <;> exact va_Nw.same rfl rfl h1, h.2.2.1, h.2.2.2.1.blind, vk_R.same (u := U) rfl h.2.2.2.2.1, vk_R.same (u := U) rfl h.2.2.2.2.2.1, vk_R.same (u := U) rfl h.2.2.2.2.2.2⟩
theorem ap_K.call {K : Kt} {s U : State} {H : Heap} {locs : List Loc} (h : ap_K K s) (hS : va_S (ap_A K) s.heap H locs) (hU : U.heap = H) (hW : s.WarmedH U.vm) : ap_K K U := by
  obtain ⟨h1, h2, h3, ⟨h4, h5, h6⟩, h7, h8, h9⟩ := h
  have hq : ∀ a : Nat, a < s.heap.size → ¬ (ap_A K) a → U.heap[a]? = s.heap[a]? := fun a ha hA => by rw [hU]; exact hS.2.1 a ha hA
  refine ⟨va_K.moved hW.alike h1, fun q hq => ?_, h3, ⟨(vk_S.moved hW.alike h4).kept hq, (va_Z.moved hW.alike h5).kept hq, (va_Zq.moved hW.alike h6).kept hq⟩, vk_R.warm hW h7, vk_R.warm hW h8, vk_R.warm hW h9⟩
  have h10 := h2 q hq
  simp only [ap_nst, List.mem_cons, List.not_mem_nil, or_false] at hq
  rcases hq with rfl | rfl | rfl <;> exact va_Nw.warmM hW h10
theorem ap_D {K : Kt} {w : Mm} (h : ∀ i j, i < 92 → j < 92 → K.1 i = K.1 j → i = j) : va_D (ap_A K) (ap_w K w) := by
  refine ⟨fun i j p q hp hq e => ?_, fun k q hq => ?_⟩
  · have h1 := ap_w_of hp
    have h2 := ap_w_of hq
    exact h i j h1.1 h2.1 (by rw [← h1.2, ← h2.2]; exact e)
  · have h1 := ap_w_of hq
    exact ⟨k, h1.1, h1.2⟩
/-! ===== the walk over the world ===== -/
/-- where a method stands: its code, the words, the tables -/
def ap_C (K : Kt) (cc : ByteArray) (own : String) (nL : Nat) (ret : Option FieldType) (E : Array Value → State → Prop) (p : Program) (s : State) (m : MethodId) (args : Array Value) (meth : Method) (c : Code) : Prop :=
  p.tables.exec = Jvm.exec ∧ c.code = cc ∧ c.maxLocals = nL ∧ meth.sig.returnType = ret ∧ s.vm.findClass own = some m.cls ∧ (∀ w ∈ ap_gw, w.before args s = true) ∧ meth.locks = false ∧ ap_K K s ∧ E args s
def AW (l : Launch) (K : Kt) (cc : ByteArray) (own : String) (nL : Nat) (ret : Option FieldType) (R : Room) (cells slots : Nat) (E : Array Value → State → Prop) (Qf : List Frame → Array Value → State → State → Prop) (w : Mm) (pc : Nat) (lv : List (Nat × Value)) (st : List Value) : Prop :=
  ∀ (p : Program) (e : Env) (s : State) (m : MethodId) (args : Array Value) (below : List Frame) (meth : Method) (c : Code) (H : Heap) (locs : List Loc) (ls : Array Slot), ap_C K cc own nL ret E p s m args meth c → va_P K.2.2.1 ap_cl (ap_w K w) H → va_S (ap_A K) s.heap H locs → lv_has ls nL lv → W p l e R s m args below meth c H locs cells slots (Qf below args s) (F0 m pc ls st)
/-- a method's end: its answer, and the world -/
def ap_Q (K : Kt) (r : Option Value) (w : Mm) : Array Value → State → Outcome → State → Prop := fun _ s o t => o = .returned r ∧ va_P K.2.2.1 ap_cl (ap_w K w) t.heap ∧ va_F (ap_A K) s t
def ap_F (K : Kt) (r : Option Value) (w : Mm) : List Frame → Array Value → State → State → Prop := fun below args s => MQ below (ap_Q K r w) args s 0 0 (ap_A K)
def ap_P (K : Kt) (w : Mm) (As : List Value) : Array Value → State → Prop := va_Pc As (fun U => va_P K.2.2.1 ap_cl (ap_w K w) U.heap ∧ ap_K K U)
/-- a method's contract, at these arguments in this world -/
def MC (l : Launch) (K : Kt) (y : MethodName) (cc : ByteArray) (nL : Nat) (ret : Option FieldType) (rm : Room) (w : Mm) (As : List Value) (r : Option Value) (w' : Mm) : Prop :=
  Met l y (ap_ws y cc nL ret) rm (ap_P K w As) (ap_Q K r w') 0 0 (ap_A K)
abbrev ap_E : Array Value → State → Prop := fun _ _ => True
theorem ap_P.blind {K : Kt} {w : Mm} {As : List Value} : FrameBlind (ap_P K w As) := fun a U g mk h => ⟨h.1, h.2.1, h.2.2.blind⟩
theorem MC.of {l : Launch} {K : Kt} {y : MethodName} {cc : ByteArray} {nL : Nat} {ret : Option FieldType} {rm : Room} {w w' : Mm} {As : List Value} {r : Option Value} {lv : List (Nat × Value)} (hy : plainName y.cls = true) (hn : (lg_sl As).length ≤ nL) (hlv : lv_args 0 As = lv)
    (h : AW l K cc y.cls nL ret rm 0 0 ap_E (ap_F K r w') w 0 lv []) : MC l K y cc nL ret rm w As r w' := by
  refine Met.ofW (cc := cc) (maxL := nL) (ret := ret) hy rfl ?_
  intro p e s m args below meth c s₁ B hml hv
  obtain ⟨rfl, hP, hK⟩ := hv
  have hts := atoms_spec (ws := ap_ws y cc nL ret) B.pre
  have hown : s.vm.findClass y.cls = some m.cls := findClass_of_methodNamed B.named
  have hl := lv_entry As (n := nL) hn
  rw [hlv] at hl
  rw [lg_entry_eq]
  exact h p e s m As.toArray below meth c s.heap [] _ ⟨B.exec, B.bytes, hml, B.returns, hown, fun w hw => hts w (List.mem_cons_of_mem _ hw), B.notSynchronized, hK, trivial⟩ hP va_S.rf hl
section AP
variable {l : Launch} {K : Kt} {cc : ByteArray} {own : String} {nL : Nat} {ret : Option FieldType} {R : Room} {cells slots : Nat} {E : Array Value → State → Prop} {Qf : List Frame → Array Value → State → State → Prop} {w : Mm} {pc : Nat} {lv lv' : List (Nat × Value)} {st : List Value}
theorem ap_sub (ks : List Nat) (h : lv_pick lv ks = lv') (k : AW l K cc own nL ret R cells slots E Qf w pc lv' st) : AW l K cc own nL ret R cells slots E Qf w pc lv st :=
  fun p e s m args below meth c H locs ls hC hP hS hl => k p e s m args below meth c H locs ls hC hP hS (lv_sub hl ks h)
theorem ap_iconst {n : Int} {v : Int32} (hdg : decode cc pc = .ok (.iconst n, 1)) (hv : Int32.ofInt n = v) (k : AW l K cc own nL ret R cells slots E Qf w (pc + 1) lv (.int v :: st)) : AW l K cc own nL ret R cells slots E Qf w pc lv (st) :=
  fun p e s m args below meth c H locs ls hC hP hS hl => lv_iconst hC.1 hC.2.1  hdg hv (k p e s m args below meth c H locs ls hC hP hS hl)
theorem ap_bipush {n : Int} {v : Int32} (hdg : decode cc pc = .ok (.bipush n, 2)) (hv : (Int8.ofInt n).toInt32 = v) (k : AW l K cc own nL ret R cells slots E Qf w (pc + 2) lv (.int v :: st)) : AW l K cc own nL ret R cells slots E Qf w pc lv (st) :=
  fun p e s m args below meth c H locs ls hC hP hS hl => lv_bipush hC.1 hC.2.1  hdg hv (k p e s m args below meth c H locs ls hC hP hS hl)
theorem ap_sipush {n : Int} {v : Int32} (hdg : decode cc pc = .ok (.sipush n, 3)) (hv : (Int16.ofInt n).toInt32 = v) (k : AW l K cc own nL ret R cells slots E Qf w (pc + 3) lv (.int v :: st)) : AW l K cc own nL ret R cells slots E Qf w pc lv (st) :=
  fun p e s m args below meth c H locs ls hC hP hS hl => lv_sipush hC.1 hC.2.1  hdg hv (k p e s m args below meth c H locs ls hC hP hS hl)
theorem ap_lconst {n : Fin 2} {v : Int64} (hdg : decode cc pc = .ok (.lconst n, 1)) (hv : Int64.ofNat (n : Nat) = v) (k : AW l K cc own nL ret R cells slots E Qf w (pc + 1) lv (.long v :: st)) : AW l K cc own nL ret R cells slots E Qf w pc lv (st) :=
  fun p e s m args below meth c H locs ls hC hP hS hl => lv_lconst hC.1 hC.2.1  hdg hv (k p e s m args below meth c H locs ls hC hP hS hl)
theorem ap_iload_n {k0 : Fin 4} {i : Nat} {x : Int32} (hdg : decode cc pc = .ok (.iload_n k0, 1)) (q : Nat) (hi : (k0 : Nat) = i) (hq : lv[q]? = some (i, .int x)) (k : AW l K cc own nL ret R cells slots E Qf w (pc + 1) lv (.int x :: st)) : AW l K cc own nL ret R cells slots E Qf w pc lv (st) :=
  fun p e s m args below meth c H locs ls hC hP hS hl => lv_iload_n hC.1 hC.2.1  hdg hi (lv_at hl q hq) (k p e s m args below meth c H locs ls hC hP hS hl)
theorem ap_iload {i : Nat} {x : Int32} (hdg : decode cc pc = .ok (.iload i, 2)) (q : Nat) (hq : lv[q]? = some (i, .int x)) (k : AW l K cc own nL ret R cells slots E Qf w (pc + 2) lv (.int x :: st)) : AW l K cc own nL ret R cells slots E Qf w pc lv (st) :=
  fun p e s m args below meth c H locs ls hC hP hS hl => lv_iload hC.1 hC.2.1  hdg (lv_at hl q hq) (k p e s m args below meth c H locs ls hC hP hS hl)
theorem ap_lload_n {k0 : Fin 4} {i : Nat} {x : Int64} (hdg : decode cc pc = .ok (.lload_n k0, 1)) (q : Nat) (hi : (k0 : Nat) = i) (hq : lv[q]? = some (i, .long x)) (k : AW l K cc own nL ret R cells slots E Qf w (pc + 1) lv (.long x :: st)) : AW l K cc own nL ret R cells slots E Qf w pc lv (st) :=
  fun p e s m args below meth c H locs ls hC hP hS hl => lv_lload_n hC.1 hC.2.1  hdg hi (lv_at hl q hq) (k p e s m args below meth c H locs ls hC hP hS hl)
theorem ap_lload {i : Nat} {x : Int64} (hdg : decode cc pc = .ok (.lload i, 2)) (q : Nat) (hq : lv[q]? = some (i, .long x)) (k : AW l K cc own nL ret R cells slots E Qf w (pc + 2) lv (.long x :: st)) : AW l K cc own nL ret R cells slots E Qf w pc lv (st) :=
  fun p e s m args below meth c H locs ls hC hP hS hl => lv_lload hC.1 hC.2.1  hdg (lv_at hl q hq) (k p e s m args below meth c H locs ls hC hP hS hl)
theorem ap_aload_n {k0 : Fin 4} {i : Nat} {x : Nat} (hdg : decode cc pc = .ok (.aload_n k0, 1)) (q : Nat) (hi : (k0 : Nat) = i) (hq : lv[q]? = some (i, .ref x)) (k : AW l K cc own nL ret R cells slots E Qf w (pc + 1) lv (.ref x :: st)) : AW l K cc own nL ret R cells slots E Qf w pc lv (st) :=
  fun p e s m args below meth c H locs ls hC hP hS hl => lv_aload_n hC.1 hC.2.1  hdg hi (lv_at hl q hq) (k p e s m args below meth c H locs ls hC hP hS hl)
theorem ap_aload {i : Nat} {x : Nat} (hdg : decode cc pc = .ok (.aload i, 2)) (q : Nat) (hq : lv[q]? = some (i, .ref x)) (k : AW l K cc own nL ret R cells slots E Qf w (pc + 2) lv (.ref x :: st)) : AW l K cc own nL ret R cells slots E Qf w pc lv (st) :=
  fun p e s m args below meth c H locs ls hC hP hS hl => lv_aload hC.1 hC.2.1  hdg (lv_at hl q hq) (k p e s m args below meth c H locs ls hC hP hS hl)
theorem ap_istore_n {k0 : Fin 4} {i : Nat} {x : Int32} (hdg : decode cc pc = .ok (.istore_n k0, 1)) (hi : (k0 : Nat) = i) (hn : i < nL) (hv : (i, Value.int x) :: lv.filter (fun q => !(q.1 == i) && !(q.1 + 1 == i && q.2.category == 2)) = lv') (k : AW l K cc own nL ret R cells slots E Qf w (pc + 1) lv' st) : AW l K cc own nL ret R cells slots E Qf w pc lv (Value.int x :: st) :=
  fun p e s m args below meth c H locs ls hC hP hS hl => lv_istore_n hC.1 hC.2.1 hdg hi hl hn hv (fun ls hl => k p e s m args below meth c H locs ls hC hP hS hl)
theorem ap_istore {i : Nat} {x : Int32} (hdg : decode cc pc = .ok (.istore i, 2)) (hn : i < nL) (hv : (i, Value.int x) :: lv.filter (fun q => !(q.1 == i) && !(q.1 + 1 == i && q.2.category == 2)) = lv') (k : AW l K cc own nL ret R cells slots E Qf w (pc + 2) lv' st) : AW l K cc own nL ret R cells slots E Qf w pc lv (Value.int x :: st) :=
  fun p e s m args below meth c H locs ls hC hP hS hl => lv_istore hC.1 hC.2.1 hdg hl hn hv (fun ls hl => k p e s m args below meth c H locs ls hC hP hS hl)
theorem ap_lstore_n {k0 : Fin 4} {i : Nat} {x : Int64} (hdg : decode cc pc = .ok (.lstore_n k0, 1)) (hi : (k0 : Nat) = i) (hn : i + 1 < nL) (hv : (i, Value.long x) :: lv.filter (fun q => !(q.1 == i) && (!(q.1 == i + 1) && !(q.1 + 1 == i && q.2.category == 2))) = lv') (k : AW l K cc own nL ret R cells slots E Qf w (pc + 1) lv' st) : AW l K cc own nL ret R cells slots E Qf w pc lv (Value.long x :: st) :=
  fun p e s m args below meth c H locs ls hC hP hS hl => lv_lstore_n hC.1 hC.2.1 hdg hi hl hn hv (fun ls hl => k p e s m args below meth c H locs ls hC hP hS hl)
theorem ap_lstore {i : Nat} {x : Int64} (hdg : decode cc pc = .ok (.lstore i, 2)) (hn : i + 1 < nL) (hv : (i, Value.long x) :: lv.filter (fun q => !(q.1 == i) && (!(q.1 == i + 1) && !(q.1 + 1 == i && q.2.category == 2))) = lv') (k : AW l K cc own nL ret R cells slots E Qf w (pc + 2) lv' st) : AW l K cc own nL ret R cells slots E Qf w pc lv (Value.long x :: st) :=
  fun p e s m args below meth c H locs ls hC hP hS hl => lv_lstore hC.1 hC.2.1 hdg hl hn hv (fun ls hl => k p e s m args below meth c H locs ls hC hP hS hl)
theorem ap_astore_n {k0 : Fin 4} {i : Nat} {x : Nat} (hdg : decode cc pc = .ok (.astore_n k0, 1)) (hi : (k0 : Nat) = i) (hn : i < nL) (hv : (i, Value.ref x) :: lv.filter (fun q => !(q.1 == i) && !(q.1 + 1 == i && q.2.category == 2)) = lv') (k : AW l K cc own nL ret R cells slots E Qf w (pc + 1) lv' st) : AW l K cc own nL ret R cells slots E Qf w pc lv (Value.ref x :: st) :=
  fun p e s m args below meth c H locs ls hC hP hS hl => lv_astore_n hC.1 hC.2.1 hdg hi hl hn hv (fun ls hl => k p e s m args below meth c H locs ls hC hP hS hl)
theorem ap_astore {i : Nat} {x : Nat} (hdg : decode cc pc = .ok (.astore i, 2)) (hn : i < nL) (hv : (i, Value.ref x) :: lv.filter (fun q => !(q.1 == i) && !(q.1 + 1 == i && q.2.category == 2)) = lv') (k : AW l K cc own nL ret R cells slots E Qf w (pc + 2) lv' st) : AW l K cc own nL ret R cells slots E Qf w pc lv (Value.ref x :: st) :=
  fun p e s m args below meth c H locs ls hC hP hS hl => lv_astore hC.1 hC.2.1 hdg hl hn hv (fun ls hl => k p e s m args below meth c H locs ls hC hP hS hl)
theorem ap_iinc {i : Nat} {n : Int} {x v : Int32} (hdg : decode cc pc = .ok (.iinc i n, 3)) (q : Nat) (hq : lv[q]? = some (i, .int x)) (hw : x + Int32.ofInt n = v) (hn : i < nL) (hv : (i, Value.int v) :: lv.filter (fun q => !(q.1 == i) && !(q.1 + 1 == i && q.2.category == 2)) = lv') (k : AW l K cc own nL ret R cells slots E Qf w (pc + 3) lv' st) : AW l K cc own nL ret R cells slots E Qf w pc lv st :=
  fun p e s m args below meth c H locs ls hC hP hS hl => lv_iinc hC.1 hC.2.1 hdg hl hq hw hn hv (fun ls hl => k p e s m args below meth c H locs ls hC hP hS hl)
theorem ap_iadd {x y : Int32} (hdg : decode cc pc = .ok (.iadd, 1))  (k : AW l K cc own nL ret R cells slots E Qf w (pc + 1) lv (.int (x + y) :: st)) : AW l K cc own nL ret R cells slots E Qf w pc lv (.int y :: .int x :: st) :=
  fun p e s m args below meth c H locs ls hC hP hS hl => lv_iadd hC.1 hC.2.1  hdg  (k p e s m args below meth c H locs ls hC hP hS hl)
theorem ap_isub {x y : Int32} (hdg : decode cc pc = .ok (.isub, 1))  (k : AW l K cc own nL ret R cells slots E Qf w (pc + 1) lv (.int (x - y) :: st)) : AW l K cc own nL ret R cells slots E Qf w pc lv (.int y :: .int x :: st) :=
  fun p e s m args below meth c H locs ls hC hP hS hl => lv_isub hC.1 hC.2.1  hdg  (k p e s m args below meth c H locs ls hC hP hS hl)
theorem ap_imul {x y : Int32} (hdg : decode cc pc = .ok (.imul, 1))  (k : AW l K cc own nL ret R cells slots E Qf w (pc + 1) lv (.int (x * y) :: st)) : AW l K cc own nL ret R cells slots E Qf w pc lv (.int y :: .int x :: st) :=
  fun p e s m args below meth c H locs ls hC hP hS hl => lv_imul hC.1 hC.2.1  hdg  (k p e s m args below meth c H locs ls hC hP hS hl)
theorem ap_iand {x y : Int32} (hdg : decode cc pc = .ok (.iand, 1))  (k : AW l K cc own nL ret R cells slots E Qf w (pc + 1) lv (.int (x &&& y) :: st)) : AW l K cc own nL ret R cells slots E Qf w pc lv (.int y :: .int x :: st) :=
  fun p e s m args below meth c H locs ls hC hP hS hl => lv_iand hC.1 hC.2.1  hdg  (k p e s m args below meth c H locs ls hC hP hS hl)
theorem ap_ior {x y : Int32} (hdg : decode cc pc = .ok (.ior, 1))  (k : AW l K cc own nL ret R cells slots E Qf w (pc + 1) lv (.int (x ||| y) :: st)) : AW l K cc own nL ret R cells slots E Qf w pc lv (.int y :: .int x :: st) :=
  fun p e s m args below meth c H locs ls hC hP hS hl => lv_ior hC.1 hC.2.1  hdg  (k p e s m args below meth c H locs ls hC hP hS hl)
theorem ap_ixor {x y : Int32} (hdg : decode cc pc = .ok (.ixor, 1))  (k : AW l K cc own nL ret R cells slots E Qf w (pc + 1) lv (.int (x ^^^ y) :: st)) : AW l K cc own nL ret R cells slots E Qf w pc lv (.int y :: .int x :: st) :=
  fun p e s m args below meth c H locs ls hC hP hS hl => lv_ixor hC.1 hC.2.1  hdg  (k p e s m args below meth c H locs ls hC hP hS hl)
theorem ap_ishl {x y : Int32} (hdg : decode cc pc = .ok (.ishl, 1))  (k : AW l K cc own nL ret R cells slots E Qf w (pc + 1) lv (.int (x <<< (y &&& 31)) :: st)) : AW l K cc own nL ret R cells slots E Qf w pc lv (.int y :: .int x :: st) :=
  fun p e s m args below meth c H locs ls hC hP hS hl => lv_ishl hC.1 hC.2.1  hdg  (k p e s m args below meth c H locs ls hC hP hS hl)
theorem ap_ishr {x y : Int32} (hdg : decode cc pc = .ok (.ishr, 1))  (k : AW l K cc own nL ret R cells slots E Qf w (pc + 1) lv (.int (x >>> (y &&& 31)) :: st)) : AW l K cc own nL ret R cells slots E Qf w pc lv (.int y :: .int x :: st) :=
  fun p e s m args below meth c H locs ls hC hP hS hl => lv_ishr hC.1 hC.2.1  hdg  (k p e s m args below meth c H locs ls hC hP hS hl)
theorem ap_ineg {x : Int32} (hdg : decode cc pc = .ok (.ineg, 1))  (k : AW l K cc own nL ret R cells slots E Qf w (pc + 1) lv (.int (-x) :: st)) : AW l K cc own nL ret R cells slots E Qf w pc lv (.int x :: st) :=
  fun p e s m args below meth c H locs ls hC hP hS hl => lv_ineg hC.1 hC.2.1  hdg  (k p e s m args below meth c H locs ls hC hP hS hl)
theorem ap_idiv {x y : Int32} (hdg : decode cc pc = .ok (.idiv, 1)) (hne : ¬ y = 0) (k : AW l K cc own nL ret R cells slots E Qf w (pc + 1) lv (.int (x / y) :: st)) : AW l K cc own nL ret R cells slots E Qf w pc lv (.int y :: .int x :: st) :=
  fun p e s m args below meth c H locs ls hC hP hS hl => lv_idiv hC.1 hC.2.1  hdg hne (k p e s m args below meth c H locs ls hC hP hS hl)
theorem ap_irem {x y : Int32} (hdg : decode cc pc = .ok (.irem, 1)) (hne : ¬ y = 0) (k : AW l K cc own nL ret R cells slots E Qf w (pc + 1) lv (.int (x - x / y * y) :: st)) : AW l K cc own nL ret R cells slots E Qf w pc lv (.int y :: .int x :: st) :=
  fun p e s m args below meth c H locs ls hC hP hS hl => lv_irem hC.1 hC.2.1  hdg hne (k p e s m args below meth c H locs ls hC hP hS hl)
theorem ap_iushr {x y v : Int32} (hdg : decode cc pc = .ok (.iushr, 1)) (hv : (x.toUInt32 >>> (y.toUInt32 &&& Int32.toUInt32 31)).toInt32 = v) (k : AW l K cc own nL ret R cells slots E Qf w (pc + 1) lv (.int v :: st)) : AW l K cc own nL ret R cells slots E Qf w pc lv (.int y :: .int x :: st) :=
  fun p e s m args below meth c H locs ls hC hP hS hl => lv_iushr hC.1 hC.2.1  hdg hv (k p e s m args below meth c H locs ls hC hP hS hl)
theorem ap_i2l {x : Int32} {v : Int64} (hdg : decode cc pc = .ok (.i2l, 1)) (hv : x.toInt64 = v) (k : AW l K cc own nL ret R cells slots E Qf w (pc + 1) lv (.long v :: st)) : AW l K cc own nL ret R cells slots E Qf w pc lv (.int x :: st) :=
  fun p e s m args below meth c H locs ls hC hP hS hl => lv_i2l hC.1 hC.2.1  hdg hv (k p e s m args below meth c H locs ls hC hP hS hl)
theorem ap_i2b {x v : Int32} (hdg : decode cc pc = .ok (.i2b, 1)) (hv : x.toInt8.toInt32 = v) (k : AW l K cc own nL ret R cells slots E Qf w (pc + 1) lv (.int v :: st)) : AW l K cc own nL ret R cells slots E Qf w pc lv (.int x :: st) :=
  fun p e s m args below meth c H locs ls hC hP hS hl => lv_i2b hC.1 hC.2.1  hdg hv (k p e s m args below meth c H locs ls hC hP hS hl)
theorem ap_i2c {x v : Int32} (hdg : decode cc pc = .ok (.i2c, 1)) (hv : (x.toUInt32 % 65536).toInt32 = v) (k : AW l K cc own nL ret R cells slots E Qf w (pc + 1) lv (.int v :: st)) : AW l K cc own nL ret R cells slots E Qf w pc lv (.int x :: st) :=
  fun p e s m args below meth c H locs ls hC hP hS hl => lv_i2c hC.1 hC.2.1  hdg hv (k p e s m args below meth c H locs ls hC hP hS hl)
theorem ap_ladd {x y : Int64} (hdg : decode cc pc = .ok (.ladd, 1))  (k : AW l K cc own nL ret R cells slots E Qf w (pc + 1) lv (.long (x + y) :: st)) : AW l K cc own nL ret R cells slots E Qf w pc lv (.long y :: .long x :: st) :=
  fun p e s m args below meth c H locs ls hC hP hS hl => lv_ladd hC.1 hC.2.1  hdg  (k p e s m args below meth c H locs ls hC hP hS hl)
theorem ap_lsub {x y : Int64} (hdg : decode cc pc = .ok (.lsub, 1))  (k : AW l K cc own nL ret R cells slots E Qf w (pc + 1) lv (.long (x - y) :: st)) : AW l K cc own nL ret R cells slots E Qf w pc lv (.long y :: .long x :: st) :=
  fun p e s m args below meth c H locs ls hC hP hS hl => lv_lsub hC.1 hC.2.1  hdg  (k p e s m args below meth c H locs ls hC hP hS hl)
theorem ap_lmul {x y : Int64} (hdg : decode cc pc = .ok (.lmul, 1))  (k : AW l K cc own nL ret R cells slots E Qf w (pc + 1) lv (.long (x * y) :: st)) : AW l K cc own nL ret R cells slots E Qf w pc lv (.long y :: .long x :: st) :=
  fun p e s m args below meth c H locs ls hC hP hS hl => lv_lmul hC.1 hC.2.1  hdg  (k p e s m args below meth c H locs ls hC hP hS hl)
theorem ap_ldiv {x y : Int64} (hdg : decode cc pc = .ok (.ldiv, 1)) (hne : ¬ y = 0) (k : AW l K cc own nL ret R cells slots E Qf w (pc + 1) lv (.long (x / y) :: st)) : AW l K cc own nL ret R cells slots E Qf w pc lv (.long y :: .long x :: st) :=
  fun p e s m args below meth c H locs ls hC hP hS hl => lv_ldiv hC.1 hC.2.1  hdg hne (k p e s m args below meth c H locs ls hC hP hS hl)
theorem ap_lrem {x y : Int64} (hdg : decode cc pc = .ok (.lrem, 1)) (hne : ¬ y = 0) (k : AW l K cc own nL ret R cells slots E Qf w (pc + 1) lv (.long (x - x / y * y) :: st)) : AW l K cc own nL ret R cells slots E Qf w pc lv (.long y :: .long x :: st) :=
  fun p e s m args below meth c H locs ls hC hP hS hl => lv_lrem hC.1 hC.2.1  hdg hne (k p e s m args below meth c H locs ls hC hP hS hl)
theorem ap_lcmp {x y : Int64} (hdg : decode cc pc = .ok (.lcmp, 1))  (k : AW l K cc own nL ret R cells slots E Qf w (pc + 1) lv (.int (lg_cmp x y) :: st)) : AW l K cc own nL ret R cells slots E Qf w pc lv (.long y :: .long x :: st) :=
  fun p e s m args below meth c H locs ls hC hP hS hl => W.lcmp hC.1 hC.2.1  hdg  (k p e s m args below meth c H locs ls hC hP hS hl)
theorem ap_dup {va : Value} (hdg : decode cc pc = .ok (.dup, 1)) (hva : va.category = 1) (k : AW l K cc own nL ret R cells slots E Qf w (pc + 1) lv (va :: va :: st)) : AW l K cc own nL ret R cells slots E Qf w pc lv (va :: st) :=
  fun p e s m args below meth c H locs ls hC hP hS hl => lv_dup hC.1 hC.2.1  hdg hva (k p e s m args below meth c H locs ls hC hP hS hl)
theorem ap_pop {va : Value} (hdg : decode cc pc = .ok (.pop, 1)) (hva : va.category = 1) (k : AW l K cc own nL ret R cells slots E Qf w (pc + 1) lv (st)) : AW l K cc own nL ret R cells slots E Qf w pc lv (va :: st) :=
  fun p e s m args below meth c H locs ls hC hP hS hl => lv_pop hC.1 hC.2.1  hdg hva (k p e s m args below meth c H locs ls hC hP hS hl)
theorem ap_dup2 {va vb : Value} (hdg : decode cc pc = .ok (.dup2, 1)) (hva : va.category = 1) (hvb : vb.category = 1) (k : AW l K cc own nL ret R cells slots E Qf w (pc + 1) lv (va :: vb :: va :: vb :: st)) : AW l K cc own nL ret R cells slots E Qf w pc lv (va :: vb :: st) :=
  fun p e s m args below meth c H locs ls hC hP hS hl => lv_dup2_11 hC.1 hC.2.1  hdg hva hvb (k p e s m args below meth c H locs ls hC hP hS hl)
theorem ap_if_eq {x : Int32} {off : Int} {tgt : Nat} (hdg : decode cc pc = .ok (.ifCond .eq off, 3)) (ht : (pc : Int) + off = (tgt : Int)) (kt : x = 0 → AW l K cc own nL ret R cells slots E Qf w tgt lv st) (kf : ¬ x = 0 → AW l K cc own nL ret R cells slots E Qf w (pc + 3) lv st) : AW l K cc own nL ret R cells slots E Qf w pc lv (.int x :: st) :=
  fun p e s m args below meth c H locs ls hC hP hS hl => lv_if_eq hC.1 hC.2.1 hdg ht (fun z => kt z p e s m args below meth c H locs ls hC hP hS hl) (fun z => kf z p e s m args below meth c H locs ls hC hP hS hl)
theorem ap_icmp_eq {x y : Int32} {off : Int} {tgt : Nat} (hdg : decode cc pc = .ok (.if_icmp .eq off, 3)) (ht : (pc : Int) + off = (tgt : Int)) (kt : x = y → AW l K cc own nL ret R cells slots E Qf w tgt lv st) (kf : ¬ x = y → AW l K cc own nL ret R cells slots E Qf w (pc + 3) lv st) : AW l K cc own nL ret R cells slots E Qf w pc lv (.int y :: .int x :: st) :=
  fun p e s m args below meth c H locs ls hC hP hS hl => lv_icmp_eq hC.1 hC.2.1 hdg ht (fun z => kt z p e s m args below meth c H locs ls hC hP hS hl) (fun z => kf z p e s m args below meth c H locs ls hC hP hS hl)
theorem ap_if_ne {x : Int32} {off : Int} {tgt : Nat} (hdg : decode cc pc = .ok (.ifCond .ne off, 3)) (ht : (pc : Int) + off = (tgt : Int)) (kt : ¬ x = 0 → AW l K cc own nL ret R cells slots E Qf w tgt lv st) (kf : x = 0 → AW l K cc own nL ret R cells slots E Qf w (pc + 3) lv st) : AW l K cc own nL ret R cells slots E Qf w pc lv (.int x :: st) :=
  fun p e s m args below meth c H locs ls hC hP hS hl => lv_if_ne hC.1 hC.2.1 hdg ht (fun z => kt z p e s m args below meth c H locs ls hC hP hS hl) (fun z => kf z p e s m args below meth c H locs ls hC hP hS hl)
theorem ap_icmp_ne {x y : Int32} {off : Int} {tgt : Nat} (hdg : decode cc pc = .ok (.if_icmp .ne off, 3)) (ht : (pc : Int) + off = (tgt : Int)) (kt : ¬ x = y → AW l K cc own nL ret R cells slots E Qf w tgt lv st) (kf : x = y → AW l K cc own nL ret R cells slots E Qf w (pc + 3) lv st) : AW l K cc own nL ret R cells slots E Qf w pc lv (.int y :: .int x :: st) :=
  fun p e s m args below meth c H locs ls hC hP hS hl => lv_icmp_ne hC.1 hC.2.1 hdg ht (fun z => kt z p e s m args below meth c H locs ls hC hP hS hl) (fun z => kf z p e s m args below meth c H locs ls hC hP hS hl)
theorem ap_if_lt {x : Int32} {off : Int} {tgt : Nat} (hdg : decode cc pc = .ok (.ifCond .lt off, 3)) (ht : (pc : Int) + off = (tgt : Int)) (kt : x < 0 → AW l K cc own nL ret R cells slots E Qf w tgt lv st) (kf : ¬ x < 0 → AW l K cc own nL ret R cells slots E Qf w (pc + 3) lv st) : AW l K cc own nL ret R cells slots E Qf w pc lv (.int x :: st) :=
  fun p e s m args below meth c H locs ls hC hP hS hl => lv_if_lt hC.1 hC.2.1 hdg ht (fun z => kt z p e s m args below meth c H locs ls hC hP hS hl) (fun z => kf z p e s m args below meth c H locs ls hC hP hS hl)
theorem ap_icmp_lt {x y : Int32} {off : Int} {tgt : Nat} (hdg : decode cc pc = .ok (.if_icmp .lt off, 3)) (ht : (pc : Int) + off = (tgt : Int)) (kt : x < y → AW l K cc own nL ret R cells slots E Qf w tgt lv st) (kf : ¬ x < y → AW l K cc own nL ret R cells slots E Qf w (pc + 3) lv st) : AW l K cc own nL ret R cells slots E Qf w pc lv (.int y :: .int x :: st) :=
  fun p e s m args below meth c H locs ls hC hP hS hl => lv_icmp_lt hC.1 hC.2.1 hdg ht (fun z => kt z p e s m args below meth c H locs ls hC hP hS hl) (fun z => kf z p e s m args below meth c H locs ls hC hP hS hl)
theorem ap_if_ge {x : Int32} {off : Int} {tgt : Nat} (hdg : decode cc pc = .ok (.ifCond .ge off, 3)) (ht : (pc : Int) + off = (tgt : Int)) (kt : 0 ≤ x → AW l K cc own nL ret R cells slots E Qf w tgt lv st) (kf : ¬ 0 ≤ x → AW l K cc own nL ret R cells slots E Qf w (pc + 3) lv st) : AW l K cc own nL ret R cells slots E Qf w pc lv (.int x :: st) :=
  fun p e s m args below meth c H locs ls hC hP hS hl => lv_if_ge hC.1 hC.2.1 hdg ht (fun z => kt z p e s m args below meth c H locs ls hC hP hS hl) (fun z => kf z p e s m args below meth c H locs ls hC hP hS hl)
theorem ap_icmp_ge {x y : Int32} {off : Int} {tgt : Nat} (hdg : decode cc pc = .ok (.if_icmp .ge off, 3)) (ht : (pc : Int) + off = (tgt : Int)) (kt : y ≤ x → AW l K cc own nL ret R cells slots E Qf w tgt lv st) (kf : ¬ y ≤ x → AW l K cc own nL ret R cells slots E Qf w (pc + 3) lv st) : AW l K cc own nL ret R cells slots E Qf w pc lv (.int y :: .int x :: st) :=
  fun p e s m args below meth c H locs ls hC hP hS hl => lv_icmp_ge hC.1 hC.2.1 hdg ht (fun z => kt z p e s m args below meth c H locs ls hC hP hS hl) (fun z => kf z p e s m args below meth c H locs ls hC hP hS hl)
theorem ap_if_gt {x : Int32} {off : Int} {tgt : Nat} (hdg : decode cc pc = .ok (.ifCond .gt off, 3)) (ht : (pc : Int) + off = (tgt : Int)) (kt : 0 < x → AW l K cc own nL ret R cells slots E Qf w tgt lv st) (kf : ¬ 0 < x → AW l K cc own nL ret R cells slots E Qf w (pc + 3) lv st) : AW l K cc own nL ret R cells slots E Qf w pc lv (.int x :: st) :=
  fun p e s m args below meth c H locs ls hC hP hS hl => lv_if_gt hC.1 hC.2.1 hdg ht (fun z => kt z p e s m args below meth c H locs ls hC hP hS hl) (fun z => kf z p e s m args below meth c H locs ls hC hP hS hl)
theorem ap_icmp_gt {x y : Int32} {off : Int} {tgt : Nat} (hdg : decode cc pc = .ok (.if_icmp .gt off, 3)) (ht : (pc : Int) + off = (tgt : Int)) (kt : y < x → AW l K cc own nL ret R cells slots E Qf w tgt lv st) (kf : ¬ y < x → AW l K cc own nL ret R cells slots E Qf w (pc + 3) lv st) : AW l K cc own nL ret R cells slots E Qf w pc lv (.int y :: .int x :: st) :=
  fun p e s m args below meth c H locs ls hC hP hS hl => lv_icmp_gt hC.1 hC.2.1 hdg ht (fun z => kt z p e s m args below meth c H locs ls hC hP hS hl) (fun z => kf z p e s m args below meth c H locs ls hC hP hS hl)
theorem ap_if_le {x : Int32} {off : Int} {tgt : Nat} (hdg : decode cc pc = .ok (.ifCond .le off, 3)) (ht : (pc : Int) + off = (tgt : Int)) (kt : x ≤ 0 → AW l K cc own nL ret R cells slots E Qf w tgt lv st) (kf : ¬ x ≤ 0 → AW l K cc own nL ret R cells slots E Qf w (pc + 3) lv st) : AW l K cc own nL ret R cells slots E Qf w pc lv (.int x :: st) :=
  fun p e s m args below meth c H locs ls hC hP hS hl => lv_if_le hC.1 hC.2.1 hdg ht (fun z => kt z p e s m args below meth c H locs ls hC hP hS hl) (fun z => kf z p e s m args below meth c H locs ls hC hP hS hl)
theorem ap_icmp_le {x y : Int32} {off : Int} {tgt : Nat} (hdg : decode cc pc = .ok (.if_icmp .le off, 3)) (ht : (pc : Int) + off = (tgt : Int)) (kt : x ≤ y → AW l K cc own nL ret R cells slots E Qf w tgt lv st) (kf : ¬ x ≤ y → AW l K cc own nL ret R cells slots E Qf w (pc + 3) lv st) : AW l K cc own nL ret R cells slots E Qf w pc lv (.int y :: .int x :: st) :=
  fun p e s m args below meth c H locs ls hC hP hS hl => lv_icmp_le hC.1 hC.2.1 hdg ht (fun z => kt z p e s m args below meth c H locs ls hC hP hS hl) (fun z => kf z p e s m args below meth c H locs ls hC hP hS hl)
theorem ap_goto {off : Int} {tgt : Nat} (hdg : decode cc pc = .ok (.goto off, 3)) (ht : (pc : Int) + off = (tgt : Int)) (k : AW l K cc own nL ret R cells slots E Qf w tgt lv st) : AW l K cc own nL ret R cells slots E Qf w pc lv st :=
  fun p e s m args below meth c H locs ls hC hP hS hl => lv_goto hC.1 hC.2.1 hdg ht (k p e s m args below meth c H locs ls hC hP hS hl)
theorem ap_ldci {index : Nat} {v : Int32} (hc : Cond.constant own index v ∈ ap_gw) (hdg : decode cc pc = .ok (.ldc index, 2)) (k : AW l K cc own nL ret R cells slots E Qf w (pc + 2) lv (.int v :: st)) : AW l K cc own nL ret R cells slots E Qf w pc lv st :=
  fun p e s m args below meth c H locs ls hC hP hS hl => lv_ldc hC.1 hC.2.1 hC.2.2.2.2.1 (hC.2.2.2.2.2.1 _ hc) hdg (k p e s m args below meth c H locs ls hC hP hS hl)
theorem ap_ldcw {index : Nat} {v : Int32} (hc : Cond.constant own index v ∈ ap_gw) (hdg : decode cc pc = .ok (.ldc_w index, 3)) (k : AW l K cc own nL ret R cells slots E Qf w (pc + 3) lv (.int v :: st)) : AW l K cc own nL ret R cells slots E Qf w pc lv st :=
  fun p e s m args below meth c H locs ls hC hP hS hl => lv_ldcw hC.1 hC.2.1 hC.2.2.2.2.1 (hC.2.2.2.2.2.1 _ hc) hdg (k p e s m args below meth c H locs ls hC hP hS hl)
theorem ap_ldc2 {index : Nat} {v : Int64} (hc : Cond.constantLong own index v ∈ ap_gw) (hdg : decode cc pc = .ok (.ldc2_w index, 3)) (k : AW l K cc own nL ret R cells slots E Qf w (pc + 3) lv (.long v :: st)) : AW l K cc own nL ret R cells slots E Qf w pc lv st :=
  fun p e s m args below meth c H locs ls hC hP hS hl => lv_ldc2 hC.1 hC.2.1 hC.2.2.2.2.1 (hC.2.2.2.2.2.1 _ hc) hdg (k p e s m args below meth c H locs ls hC hP hS hl)
theorem ap_tabIn {dflt lo hi : Int} {offs : Array Int} {len : Nat} {x : Int32} {off : Int} {tgt : Nat} (hdg : decode cc pc = .ok (.tableswitch dflt lo hi offs, len)) (h1 : ¬ x.toInt < lo) (h2 : ¬ hi < x.toInt) (ho : offs[(x.toInt - lo).toNat]? = some off) (ht : (pc : Int) + off = (tgt : Int)) (k : AW l K cc own nL ret R cells slots E Qf w tgt lv st) : AW l K cc own nL ret R cells slots E Qf w pc lv (.int x :: st) :=
  fun p e s m args below meth c H locs ls hC hP hS hl => lv_tableIn hC.1 hC.2.1 hdg h1 h2 ho ht (k p e s m args below meth c H locs ls hC hP hS hl)
theorem ap_tabOut {dflt lo hi : Int} {offs : Array Int} {len : Nat} {x : Int32} {tgt : Nat} (hdg : decode cc pc = .ok (.tableswitch dflt lo hi offs, len)) (h : x.toInt < lo ∨ hi < x.toInt) (ht : (pc : Int) + dflt = (tgt : Int)) (k : AW l K cc own nL ret R cells slots E Qf w tgt lv st) : AW l K cc own nL ret R cells slots E Qf w pc lv (.int x :: st) :=
  fun p e s m args below meth c H locs ls hC hP hS hl => lv_tableOut hC.1 hC.2.1 hdg h ht (k p e s m args below meth c H locs ls hC hP hS hl)
/-! ===== fields ===== -/
def ap_fld (own : String) (index ci i : Nat) : Prop := ∃ (C : String) (T : u_T) (N : Nat), ap_cl[ci]? = some (C, T, N) ∧ (∀ w ∈ u_ws C T N, w ∈ ap_gw) ∧ i < N ∧ Cond.fieldLink own index (T i).1 (T i).2.1 (T i).2.2.1 ∈ ap_gw
def ap_fldP (own : String) (index ci i : Nat) (ty : FieldType) : Prop := ∃ (C : String) (T : u_T) (N : Nat) (ty0 : Nat → FieldType), ap_cl[ci]? = some (C, T, N) ∧ (∀ w ∈ u_ws C T N, w ∈ ap_gw) ∧ i < N ∧ Cond.fieldLink own index (T i).1 (T i).2.1 (T i).2.2.1 ∈ ap_gw ∧ (∀ k, k < N → parseFieldDescriptor (T k).2.2.1 = some (ty0 k)) ∧ (∀ a, a < N → ∀ b, b < N → a ≠ b → (T a).2.1 ≠ (T b).2.1) ∧ (T i).2.2.2 = false ∧ parseFieldDescriptor (T i).2.2.1 = some ty
theorem ap_get {k ci i index : Nat} {fds : List (Option (Option Nat))} {fd : Option (Option Nat)} {v : Value} (hF : ap_fld own index ci i) (hd : LAY[k]? = some (.inl (ci, fds))) (hf : fds[i]? = some fd) (hv : ap_fv K w k i fd = v) (hdg : decode cc pc = .ok (.getfield index, 3)) (kk : AW l K cc own nL ret R cells slots E Qf w (pc + 3) lv (v :: st)) : AW l K cc own nL ret R cells slots E Qf w pc lv (.ref (K.1 k) :: st) := by
  intro p e s m args below meth c H locs ls hC hP hS hl
  obtain ⟨C, T, N, h1, h2, h3, h4⟩ := hF
  exact va_get (D := K.2.2.1) (C := C) (T := T) (N := N) (ref := (T i).1) hC.1 hC.2.1 hC.2.2.2.2.2.1 h2 hC.2.2.2.2.1 hC.2.2.2.2.2.2.2.1.1 hP k (ap_w_at hd) h1 i h3 (hC.2.2.2.2.2.1 _ h4) (fun _ h9 => h9) (v := v) (by rw [List.getElem?_mapIdx, hf, ← hv]; rfl) hdg (kk p e s m args below meth c H locs ls hC hP hS hl)
theorem ap_putI {k ci i index : Nat} {fds : List (Option (Option Nat))} {v : Int32} {w1 : Mm} (hF : ap_fldP own index ci i .int) (hd : LAY[k]? = some (.inl (ci, fds))) (hf : fds[i]? = some none) (hw : sI w k i v = w1) (hdg : decode cc pc = .ok (.putfield index, 3)) (kk : AW l K cc own nL ret R cells slots E Qf w1 (pc + 3) lv st) : AW l K cc own nL ret R cells slots E Qf w pc lv (.int v :: .ref (K.1 k) :: st) := by
  intro p e s m args below meth c H locs ls hC hP hS hl
  obtain ⟨C, T, N, ty0, h1, h2, h3, h4, h5, h6, h7, h8⟩ := hF
  refine va_put (D := K.2.2.1) (C := C) (T := T) (N := N) (ref := (T i).1) (ty := .int) (v := .int v) hC.1 hC.2.1 hC.2.2.2.2.2.1 h2 ty0 h5 h6 hC.2.2.2.2.1 hC.2.2.2.2.2.2.2.1.1 hP (ap_D hC.2.2.2.2.2.2.2.1.2.2.1) hS k (ap_w_at hd) h1 i h3 (hC.2.2.2.2.2.1 _ h4) (fun _ h9 => h9) h7 h8 rfl rfl (by simpa using (List.getElem?_eq_some_iff.mp hf).1) hdg (fun H1 locs1 hP1 _ hS1 => ?_)
  rw [ap_w_sI hd hf, hw] at hP1
  exact kk p e s m args below meth c H1 locs1 ls hC hP1 hS1 hl
theorem ap_putJ {k ci i index : Nat} {fds : List (Option (Option Nat))} {v : Int64} {w1 : Mm} (hF : ap_fldP own index ci i .long) (hd : LAY[k]? = some (.inl (ci, fds))) (hf : fds[i]? = some (some none)) (hw : sJ w k i v = w1) (hdg : decode cc pc = .ok (.putfield index, 3)) (kk : AW l K cc own nL ret R cells slots E Qf w1 (pc + 3) lv st) : AW l K cc own nL ret R cells slots E Qf w pc lv (.long v :: .ref (K.1 k) :: st) := by
  intro p e s m args below meth c H locs ls hC hP hS hl
  obtain ⟨C, T, N, ty0, h1, h2, h3, h4, h5, h6, h7, h8⟩ := hF
  refine va_put (D := K.2.2.1) (C := C) (T := T) (N := N) (ref := (T i).1) (ty := .long) (v := .long v) hC.1 hC.2.1 hC.2.2.2.2.2.1 h2 ty0 h5 h6 hC.2.2.2.2.1 hC.2.2.2.2.2.2.2.1.1 hP (ap_D hC.2.2.2.2.2.2.2.1.2.2.1) hS k (ap_w_at hd) h1 i h3 (hC.2.2.2.2.2.1 _ h4) (fun _ h9 => h9) h7 h8 rfl rfl (by simpa using (List.getElem?_eq_some_iff.mp hf).1) hdg (fun H1 locs1 hP1 _ hS1 => ?_)
  rw [ap_w_sJ hd hf, hw] at hP1
  exact kk p e s m args below meth c H1 locs1 ls hC hP1 hS1 hl
/-! ===== arrays ===== -/
def rdA (w : Mm) (o n : Nat) (i : Int32) : Option Int32 := if i < 0 ∨ n ≤ i.toNatClampNeg then none else some (w.1 o i.toNatClampNeg)
def wrA (w : Mm) (o n : Nat) (i v : Int32) : Option Mm := if i < 0 ∨ n ≤ i.toNatClampNeg then none else some (sI w o i.toNatClampNeg v)
def rdR (n : Nat) (i : Int32) : Option Nat := if i < 0 ∨ n ≤ i.toNatClampNeg then none else some i.toNatClampNeg
def cpA (w : Mm) (o0 n0 o1 n1 : Nat) (sp dp n : Int32) : Option Mm := if (sp < 0 ∨ dp < 0 ∨ n < 0) ∨ n0 < sp.toNatClampNeg + n.toNatClampNeg ∨ n1 < dp.toNatClampNeg + n.toNatClampNeg then none else some (sA w o1 (va_cpy (w.1 o0) (w.1 o1) sp.toNatClampNeg dp.toNatClampNeg n.toNatClampNeg))
theorem rdA_some {w : Mm} {o n : Nat} {i x : Int32} (h : rdA w o n i = some x) : vp_in i n ∧ w.1 o i.toNatClampNeg = x := by
  unfold rdA at h
  by_cases hc : i < 0 ∨ n ≤ i.toNatClampNeg
  · rw [if_pos hc] at h; cases h
  · rw [if_neg hc] at h; exact ⟨hc, Option.some.inj h⟩
theorem wrA_some {w w1 : Mm} {o n : Nat} {i x : Int32} (h : wrA w o n i x = some w1) : vp_in i n ∧ sI w o i.toNatClampNeg x = w1 := by
  unfold wrA at h
  by_cases hc : i < 0 ∨ n ≤ i.toNatClampNeg
  · rw [if_pos hc] at h; cases h
  · rw [if_neg hc] at h; exact ⟨hc, Option.some.inj h⟩
theorem rdR_some {n : Nat} {i : Int32} {j : Nat} (h : rdR n i = some j) : vp_in i n ∧ i.toNatClampNeg = j ∧ j < n := by
  unfold rdR at h
  by_cases hc : i < 0 ∨ n ≤ i.toNatClampNeg
  · rw [if_pos hc] at h; cases h
  · rw [if_neg hc] at h
    have h1 := Option.some.inj h
    exact ⟨hc, h1, by rw [← h1]; exact Nat.not_le.mp (fun q => hc (Or.inr q))⟩
theorem ap_iald {k n : Nat} {i x : Int32} (hd : LAY[k]? = some (.inr (.inl (0, n)))) (h : rdA w k n i = some x) (hdg : decode cc pc = .ok (.iaload, 1)) (kk : AW l K cc own nL ret R cells slots E Qf w (pc + 1) lv (.int x :: st)) : AW l K cc own nL ret R cells slots E Qf w pc lv (.int i :: .ref (K.1 k) :: st) := by
  intro p e s m args below meth c H locs ls hC hP hS hl
  obtain ⟨h1, rfl⟩ := rdA_some h
  exact va_iald hC.1 hC.2.1 hC.2.2.2.2.2.2.2.1.1 hP k 0 (ap_w_at hd) rfl h1 hdg (kk p e s m args below meth c H locs ls hC hP hS hl)
theorem ap_zald {k n : Nat} {i x : Int32} (hd : LAY[k]? = some (.inr (.inl (1, n)))) (h : rdA w k n i = some x) (hdg : decode cc pc = .ok (.baload, 1)) (kk : AW l K cc own nL ret R cells slots E Qf w (pc + 1) lv (.int x :: st)) : AW l K cc own nL ret R cells slots E Qf w pc lv (.int i :: .ref (K.1 k) :: st) := by
  intro p e s m args below meth c H locs ls hC hP hS hl
  obtain ⟨h1, rfl⟩ := rdA_some h
  exact va_zald hC.1 hC.2.1 hC.2.2.2.2.2.2.2.1.1 hP k 1 (ap_w_at hd) rfl h1 hdg (kk p e s m args below meth c H locs ls hC hP hS hl)
theorem ap_bald {k n : Nat} {i x : Int32} (hd : LAY[k]? = some (.inr (.inl (2, n)))) (h : rdA w k n i = some x) (hdg : decode cc pc = .ok (.baload, 1)) (kk : AW l K cc own nL ret R cells slots E Qf w (pc + 1) lv (.int x :: st)) : AW l K cc own nL ret R cells slots E Qf w pc lv (.int i :: .ref (K.1 k) :: st) := by
  intro p e s m args below meth c H locs ls hC hP hS hl
  obtain ⟨h1, rfl⟩ := rdA_some h
  exact va_bald hC.1 hC.2.1 hC.2.2.2.2.2.2.2.1.1 hP k 2 (ap_w_at hd) rfl h1 hdg (kk p e s m args below meth c H locs ls hC hP hS hl)
theorem ap_iast {k n : Nat} {i x : Int32} {w1 : Mm} (hd : LAY[k]? = some (.inr (.inl (0, n)))) (h : wrA w k n i x = some w1) (hdg : decode cc pc = .ok (.iastore, 1)) (kk : AW l K cc own nL ret R cells slots E Qf w1 (pc + 1) lv st) : AW l K cc own nL ret R cells slots E Qf w pc lv (.int x :: .int i :: .ref (K.1 k) :: st) := by
  intro p e s m args below meth c H locs ls hC hP hS hl
  obtain ⟨h1, rfl⟩ := wrA_some h
  refine va_iast hC.1 hC.2.1 hC.2.2.2.2.2.2.2.1.1 hP (ap_D hC.2.2.2.2.2.2.2.1.2.2.1) hS k 0 (ap_w_at hd) rfl h1 hdg (fun H1 locs1 hP1 _ hS1 => ?_)
  rw [ap_w_sA hd] at hP1
  exact kk p e s m args below meth c H1 locs1 ls hC hP1 hS1 hl
theorem ap_zast {k n : Nat} {i x : Int32} {w1 : Mm} (hd : LAY[k]? = some (.inr (.inl (1, n)))) (h : wrA w k n i (vp_nar .boolean x) = some w1) (hdg : decode cc pc = .ok (.bastore, 1)) (kk : AW l K cc own nL ret R cells slots E Qf w1 (pc + 1) lv st) : AW l K cc own nL ret R cells slots E Qf w pc lv (.int x :: .int i :: .ref (K.1 k) :: st) := by
  intro p e s m args below meth c H locs ls hC hP hS hl
  obtain ⟨h1, rfl⟩ := wrA_some h
  refine va_zast hC.1 hC.2.1 hC.2.2.2.2.2.2.2.1.1 hP (ap_D hC.2.2.2.2.2.2.2.1.2.2.1) hS k 1 (ap_w_at hd) rfl h1 hdg (fun H1 locs1 hP1 _ hS1 => ?_)
  rw [ap_w_sA hd] at hP1
  exact kk p e s m args below meth c H1 locs1 ls hC hP1 hS1 hl
theorem ap_bast {k n : Nat} {i x : Int32} {w1 : Mm} (hd : LAY[k]? = some (.inr (.inl (2, n)))) (h : wrA w k n i (vp_nar .byte x) = some w1) (hdg : decode cc pc = .ok (.bastore, 1)) (kk : AW l K cc own nL ret R cells slots E Qf w1 (pc + 1) lv st) : AW l K cc own nL ret R cells slots E Qf w pc lv (.int x :: .int i :: .ref (K.1 k) :: st) := by
  intro p e s m args below meth c H locs ls hC hP hS hl
  obtain ⟨h1, rfl⟩ := wrA_some h
  refine va_bast hC.1 hC.2.1 hC.2.2.2.2.2.2.2.1.1 hP (ap_D hC.2.2.2.2.2.2.2.1.2.2.1) hS k 2 (ap_w_at hd) rfl h1 hdg (fun H1 locs1 hP1 _ hS1 => ?_)
  rw [ap_w_sA hd] at hP1
  exact kk p e s m args below meth c H1 locs1 ls hC hP1 hS1 hl
theorem ap_aald {k t j q : Nat} {C : String} {ids : List Nat} {i : Int32} (hd : LAY[k]? = some (.inr (.inr (t, ids)))) (ht : (ap_tys K)[t]? = some (K.2.1 t, .object C)) (h : rdR ids.length i = some j) (hq : ids[j]? = some q) (hdg : decode cc pc = .ok (.aaload, 1)) (kk : AW l K cc own nL ret R cells slots E Qf w (pc + 1) lv (.ref (K.1 q) :: st)) : AW l K cc own nL ret R cells slots E Qf w pc lv (.int i :: .ref (K.1 k) :: st) := by
  intro p e s m args below meth c H locs ls hC hP hS hl
  obtain ⟨h1, rfl, -⟩ := rdR_some h
  refine va_aldq hC.1 hC.2.1 hC.2.2.2.2.2.2.2.1.1 hP k t (ap_w_at hd) ht h1 hdg ?_
  rw [hq]
  exact kk p e s m args below meth c H locs ls hC hP hS hl
theorem ap_alen {k t n : Nat} {ty : FieldType} {v : Int32} (hd : LAY[k]? = some (.inr (.inl (t, n)))) (ht : (ap_tys K)[t]? = some (K.2.1 t, ty)) (hv : Int32.ofNat n = v) (hdg : decode cc pc = .ok (.arraylength, 1)) (kk : AW l K cc own nL ret R cells slots E Qf w (pc + 1) lv (.int v :: st)) : AW l K cc own nL ret R cells slots E Qf w pc lv (.ref (K.1 k) :: st) := by
  intro p e s m args below meth c H locs ls hC hP hS hl
  exact va_alen hC.1 hC.2.1 hC.2.2.2.2.2.2.2.1.1 hP k t (ap_w_at hd) ht hv hdg (kk p e s m args below meth c H locs ls hC hP hS hl)
theorem ap_copy {k0 k1 n0 n1 index : Nat} {sp dp n : Int32} {w1 : Mm} (hlink : Cond.methodLink own index arraycopyName ∈ ap_gw) (hnat : Cond.native arraycopyName ∈ ap_gw) (hstat : Cond.static arraycopyName ∈ ap_gw) (hini : Cond.initialized "java/lang/System" ∈ ap_gw) (hd0 : LAY[k0]? = some (.inr (.inl (0, n0)))) (hd1 : LAY[k1]? = some (.inr (.inl (0, n1)))) (h : cpA w k0 n0 k1 n1 sp dp n = some w1) (hR : 1 ≤ R.frames ∧ (st.map fun v => v.category).sum + (nativeFrameWords "java/lang/System" "arraycopy" 5 + 11) ≤ R.locals) (hdg : decode cc pc = .ok (.invokestatic index, 3))
    (kk : AW l K cc own nL ret R cells slots E Qf w1 (pc + 3) lv st) : AW l K cc own nL ret R cells slots E Qf w pc lv (.int n :: .int dp :: .ref (K.1 k1) :: .int sp :: .ref (K.1 k0) :: st) := by
  intro p e s m args below meth c H locs ls hC hP hS hl
  unfold cpA at h
  by_cases hc : (sp < 0 ∨ dp < 0 ∨ n < 0) ∨ n0 < sp.toNatClampNeg + n.toNatClampNeg ∨ n1 < dp.toNatClampNeg + n.toNatClampNeg
  · rw [if_pos hc] at h; cases h
  rw [if_neg hc] at h
  have hw := Option.some.inj h
  refine va_copyi (ty := .int) hC.1 hC.2.1 (by rw [hC.2.2.1]; exact hl.1.symm) hC.2.2.2.2.1 (hC.2.2.2.2.2.1 _ hlink) (hC.2.2.2.2.2.1 _ hnat) (hC.2.2.2.2.2.1 _ hstat) (hC.2.2.2.2.2.1 _ hini) hC.2.2.2.2.2.2.2.1.1 hP (ap_D hC.2.2.2.2.2.2.2.1.2.2.1) hS k0 k1 0 0 (ap_w_at hd0) (ap_w_at hd1) rfl rfl rfl (fun q => hc (Or.inl (Or.inl q))) (fun q => hc (Or.inl (Or.inr (Or.inl q)))) (fun q => hc (Or.inl (Or.inr (Or.inr q)))) (by omega) (by omega) (fun _ _ => rfl) hR.1 hR.2 hdg (fun H1 locs1 hP1 _ hS1 => ?_)
  rw [ap_w_sA hd1, hw] at hP1
  exact kk p e s m args below meth c H1 locs1 ls hC hP1 hS1 hl
/-! ===== ends ===== -/
theorem ap_iret {v : Int32} (hret : ret = some .int) (hdg : decode cc pc = .ok (.ireturn, 1)) : AW l K cc own nL ret R 0 0 E (ap_F K (some (.int v)) w) w pc lv [.int v] := by
  intro p e s m args below meth c H locs ls hC hP hS hl
  have hlocks := hC.2.2.2.2.2.2.1
  exact W.iret (v := v) hC.1 hC.2.1 (hC.2.2.2.1.trans hret) (fun t ht hW => ⟨rfl, by rw [ht]; exact hP, hS.F ht⟩) hS.2.2 hdg hlocks
def bz (v : Int32) : Option Int32 := if v = 0 ∨ v = 1 then some v else none
theorem bz_some {v x : Int32} (h : bz v = some x) : (v = 0 ∨ v = 1) ∧ v = x := by
  unfold bz at h
  by_cases hc : v = 0 ∨ v = 1
  · rw [if_pos hc] at h; exact ⟨hc, Option.some.inj h⟩
  · rw [if_neg hc] at h; cases h
theorem ap_zret {v : Int32} (hret : ret = some .boolean) (hv : v = 0 ∨ v = 1) (hdg : decode cc pc = .ok (.ireturn, 1)) : AW l K cc own nL ret R 0 0 E (ap_F K (some (.int v)) w) w pc lv [.int v] := by
  intro p e s m args below meth c H locs ls hC hP hS hl
  have hlocks := hC.2.2.2.2.2.2.1
  exact W.zret (v := v) (ty := .boolean) hC.1 hC.2.1 (hC.2.2.2.1.trans hret) (by rcases hv with rfl | rfl <;> decide) (fun t ht hW => ⟨rfl, by rw [ht]; exact hP, hS.F ht⟩) hS.2.2 hdg hlocks
theorem ap_lret {v : Int64} (hret : ret = some .long) (hdg : decode cc pc = .ok (.lreturn, 1)) : AW l K cc own nL ret R 0 0 E (ap_F K (some (.long v)) w) w pc lv [.long v] := by
  intro p e s m args below meth c H locs ls hC hP hS hl
  have hlocks := hC.2.2.2.2.2.2.1
  exact W.lret (v := v) hC.1 hC.2.1 (hC.2.2.2.1.trans hret) (fun t ht hW => ⟨rfl, by rw [ht]; exact hP, hS.F ht⟩) hS.2.2 hdg hlocks
theorem ap_vret (hret : ret = none) (hdg : decode cc pc = .ok (.return_, 1)) : AW l K cc own nL ret R 0 0 E (ap_F K none w) w pc lv [] := by
  intro p e s m args below meth c H locs ls hC hP hS hl
  have hlocks := hC.2.2.2.2.2.2.1
  exact W.vret hC.1 hC.2.1 (hC.2.2.2.1.trans hret) (fun t ht hW => ⟨rfl, by rw [ht]; exact hP, hS.F ht⟩) hS.2.2 hdg hlocks
/-! ===== calls ===== -/
theorem ap_after {p : Program} {e : Env} {s : State} {m : MethodId} {args : Array Value} {below : List Frame} {meth : Method} {c : Code} {H : Heap} {locs : List Loc} {ls : Array Slot} {st0 : List Value} {As : Array Value} {r : Option Value} {w1 : Mm} (hr : va_Run p l e R s m args below meth c H locs cells slots 0 0 (F0 m pc ls st0) st (ap_Q K r w1 As) (ap_A K)) (hC : ap_C K cc own nL ret E p s m args meth c) (hS : va_S (ap_A K) s.heap H locs) (hl : lv_has ls nL lv)
    (kk : AW l K cc own nL ret R cells slots E Qf w1 (pc + 3) lv (r.toList ++ st)) : W p l e R s m args below meth c H locs cells slots (Qf below args s) (F0 m pc ls st0) := by
  intro T hT X
  obtain ⟨v, st₀, t, T', L, h0, X', hL, e1, e2, ⟨hv, hPt, hz, hk⟩, stp⟩ := hr T hT X
  cases hv
  rw [h0] at hz hk
  obtain ⟨t2, a1, b1⟩ := kk p e s m args below meth c T'.heap (locs ++ L) ls hC (by rw [e1]; exact hPt)
    ⟨Nat.le_trans hS.1 (by rw [e1]; exact hz), fun q h1 h2 => by rw [e1, hk q (Nat.lt_of_lt_of_le h1 hS.1) h2]; exact hS.2.1 q h1 h2, fun q hq => by
      rcases List.mem_append.mp hq with h | h
      · exact hS.2.2 q h
      · exact hL q h⟩ hl T' rfl X'
  exact ⟨t2, stp t2 a1, b1⟩
def ap_rm (R rm : Room) (maxL : Nat) : Prop := rm.cells = 0 ∧ rm.slots = 0 ∧ rm.frames + 1 ≤ R.frames ∧ 8 + (maxL + 11) + rm.locals ≤ R.locals
/-- what a call's words are -/
def ap_cV (own : String) (index : Nat) (C : String) (y : MethodName) (cc : ByteArray) (nL : Nat) (ret : Option FieldType) (n : Nat) : Prop := GoodIn ap_gw (wsV own index C y (ap_ws y cc nL ret)) ∧ y.cls = C ∧ y.cls ≠ "java/lang/invoke/MethodHandle" ∧ y.cls ≠ "java/lang/invoke/VarHandle" ∧ (parseMethodDescriptor y.desc).map (fun d => d.parameters.length) = some n
def ap_cS (own : String) (index : Nat) (y : MethodName) (cc : ByteArray) (nL : Nat) (ret : Option FieldType) (n : Nat) : Prop := GoodIn ap_gw (va_wsS own index y (ap_ws y cc nL ret)) ∧ y.cls ≠ "java/lang/invoke/MethodHandle" ∧ y.cls ≠ "java/lang/invoke/VarHandle" ∧ (parseMethodDescriptor y.desc).map (fun d => d.parameters.length) = some n
def ap_cN (own : String) (index : Nat) (y : MethodName) (host : String) (cc : ByteArray) (nL : Nat) (ret : Option FieldType) (n : Nat) : Prop := Cond.code y cc nL ret ∈ ap_gw ∧ Cond.static y ∈ ap_gw ∧ Cond.initialized y.cls ∈ ap_gw ∧ Cond.methodLinkNest own index y host ∈ ap_nst ∧ y.cls ≠ "java/lang/invoke/MethodHandle" ∧ y.cls ≠ "java/lang/invoke/VarHandle" ∧ (parseMethodDescriptor y.desc).map (fun d => d.parameters.length) = some n
def ap_cU (own : String) (index : Nat) (y : MethodName) (cc : ByteArray) (nL : Nat) (ret : Option FieldType) (n : Nat) : Prop := GoodIn ap_gw (va_wsSU own index y (ap_ws y cc nL ret)) ∧ y.name ≠ "<init>" ∧ (parseMethodDescriptor y.desc).map (fun d => d.parameters.length) = some n
def ap_cO (own : String) (index : Nat) (C owner : String) (x y : MethodName) (cc : ByteArray) (nL : Nat) (ret : Option FieldType) (n : Nat) : Prop := GoodIn ap_gw (va_wsO own index C owner x y (ap_ws y cc nL ret)) ∧ (∃ (b0 : ByteArray) (m0 : Nat) (r0 : Option FieldType), Cond.code ⟨owner, x.name, x.desc⟩ b0 m0 r0 ∈ ap_gw) ∧ owner ≠ "java/lang/invoke/MethodHandle" ∧ owner ≠ "java/lang/invoke/VarHandle" ∧ (parseMethodDescriptor x.desc).map (fun d => d.parameters.length) = some n
theorem ap_g4 {a b c d : Cond} {ws : List Cond} (h1 : a ∈ ap_gw) (h2 : b ∈ ap_gw) (h3 : c ∈ ap_gw) (h4 : d ∈ ap_gw) (h5 : GoodIn ap_gw ws) : GoodIn ap_gw ([a, b, c, d] ++ ws) := by
  intro x hx
  rcases List.mem_append.mp hx with h | h
  · simp only [List.mem_cons, List.not_mem_nil, or_false] at h
    rcases h with rfl | rfl | rfl | rfl
    · exact ⟨h1, good_of_word (List.mem_filter.mp h1).2⟩
    · exact ⟨h2, good_of_word (List.mem_filter.mp h2).2⟩
    · exact ⟨h3, good_of_word (List.mem_filter.mp h3).2⟩
    · exact ⟨h4, good_of_word (List.mem_filter.mp h4).2⟩
  · exact h5 x h
theorem ap_gl {us ws : List Cond} (h1 : ∀ a ∈ us, a ∈ ap_gw) (h5 : GoodIn ap_gw ws) : GoodIn ap_gw (us ++ ws) := by
  intro x hx
  rcases List.mem_append.mp hx with h | h
  · exact ⟨h1 x h, good_of_word (List.mem_filter.mp (h1 x h)).2⟩
  · exact h5 x h
theorem ap_callV {index n k ci : Nat} {y : MethodName} {bytes : ByteArray} {maxL : Nat} {ret1 : Option FieldType} {rm : Room} {w1 : Mm} {As st0 : List Value} {r : Option Value} {fds : List (Option (Option Nat))} {C : String} {T : u_T} {N : Nat} (hM : MC l K y bytes maxL ret1 rm w (.ref (K.1 k) :: As) r w1) (hw : ap_cV own index C y bytes maxL ret1 n) (hcl : ap_cl[ci]? = some (C, T, N)) (hd : LAY[k]? = some (.inl (ci, fds))) (hR : ap_rm R rm maxL) (hn : As.length = n) (hcat : (st.map fun v => v.category).sum ≤ 8) (hcs : cells ≤ R.cells ∧ slots ≤ R.slots) (hdg : decode cc pc = .ok (.invokevirtual index, 3)) (hst : st0 = As.reverse ++ .ref (K.1 k) :: st)
    {st1 : List Value} (hst1 : r.toList ++ st = st1) (kk : AW l K cc own nL ret R cells slots E Qf w1 (pc + 3) lv st1) : AW l K cc own nL ret R cells slots E Qf w pc lv st0 := by
  intro p e s m args below meth c H locs ls hC hP hS hl
  subst hst1
  refine ap_after (va_runV (Ts := ap_gw) (As := As) (rest := st) (b := K.1 k) ⟨hC.1, hC.2.1, hC.2.2.1, hC.2.2.2.2.1, hC.2.2.2.2.2.1⟩ hM (cwV n hC.2.2.2.2.2.1 hw.1 rfl hR.1 hR.2.1 hw.2 hR.2.2) ⟨ap_P.blind, va_recv hC.2.2.2.2.2.2.2.1.1 hP hcl (ap_w_at hd), fun U hU hW => ⟨rfl, by rw [hU]; exact hP, hC.2.2.2.2.2.2.2.1.call hS hU hW⟩⟩ rfl hn hl.1 hst (lv_room hcat) hdg hcs) hC hS hl kk
theorem ap_callS {index n : Nat} {y : MethodName} {bytes : ByteArray} {maxL : Nat} {ret1 : Option FieldType} {rm : Room} {w1 : Mm} {As st0 : List Value} {r : Option Value} (hM : MC l K y bytes maxL ret1 rm w As r w1) (hw : ap_cS own index y bytes maxL ret1 n) (hR : ap_rm R rm maxL) (hn : As.length = n) (hcat : (st.map fun v => v.category).sum ≤ 8) (hcs : cells ≤ R.cells ∧ slots ≤ R.slots) (hdg : decode cc pc = .ok (.invokestatic index, 3)) (hst : st0 = As.reverse ++ st)
    {st1 : List Value} (hst1 : r.toList ++ st = st1) (kk : AW l K cc own nL ret R cells slots E Qf w1 (pc + 3) lv st1) : AW l K cc own nL ret R cells slots E Qf w pc lv st0 := by
  intro p e s m args below meth c H locs ls hC hP hS hl
  subst hst1
  refine ap_after (va_runS (Ts := ap_gw) (As := As) (rest := st) ⟨hC.1, hC.2.1, hC.2.2.1, hC.2.2.2.2.1, hC.2.2.2.2.2.1⟩ hM (va_cwS n hC.2.2.2.2.2.1 hw.1 rfl hR.1 hR.2.1 hw.2 hR.2.2) ⟨ap_P.blind, fun U hU hW => ⟨rfl, by rw [hU]; exact hP, hC.2.2.2.2.2.2.2.1.call hS hU hW⟩⟩ rfl hn hl.1 hst (lv_room hcat) hdg hcs) hC hS hl kk
theorem ap_callN {index n : Nat} {y : MethodName} {host : String} {bytes : ByteArray} {maxL : Nat} {ret1 : Option FieldType} {rm : Room} {w1 : Mm} {As st0 : List Value} {r : Option Value} (hM : MC l K y bytes maxL ret1 rm w As r w1) (hw : ap_cN own index y host bytes maxL ret1 n) (hR : ap_rm R rm maxL) (hn : As.length = n) (hcat : (st.map fun v => v.category).sum ≤ 8) (hcs : cells ≤ R.cells ∧ slots ≤ R.slots) (hdg : decode cc pc = .ok (.invokestatic index, 3)) (hst : st0 = As.reverse ++ st)
    {st1 : List Value} (hst1 : r.toList ++ st = st1) (kk : AW l K cc own nL ret R cells slots E Qf w1 (pc + 3) lv st1) : AW l K cc own nL ret R cells slots E Qf w pc lv st0 := by
  intro p e s m args below meth c H locs ls hC hP hS hl
  subst hst1
  refine ap_after (va_runSN (Ts := ap_gw) (As := As) (rest := st) ⟨hC.1, hC.2.1, hC.2.2.1, hC.2.2.2.2.1, hC.2.2.2.2.2.1⟩ hM ⟨va_cnB n hC.2.2.2.2.2.1 (ap_good hw.1) rfl hR.1 hR.2.1 (hC.2.2.2.2.2.2.2.1.2.1 _ hw.2.2.2.1) (hC.2.2.2.2.2.1 _ hw.2.2.1) hw.2.2.2.2 hR.2.2, hC.2.2.2.2.2.1 _ hw.2.1, trivial⟩ ⟨ap_P.blind, fun U hU hW => ⟨rfl, by rw [hU]; exact hP, hC.2.2.2.2.2.2.2.1.call hS hU hW⟩⟩ rfl hn hl.1 hst (lv_room hcat) hdg hcs) hC hS hl kk
theorem ap_callU {index n k ci : Nat} {y : MethodName} {bytes : ByteArray} {maxL : Nat} {ret1 : Option FieldType} {rm : Room} {w1 : Mm} {As st0 : List Value} {r : Option Value} {fds : List (Option (Option Nat))} {q : vw_C} (hM : MC l K y bytes maxL ret1 rm w (.ref (K.1 k) :: As) r w1) (hw : ap_cU own index y bytes maxL ret1 n) (hcl : ap_cl[ci]? = some q) (hd : LAY[k]? = some (.inl (ci, fds))) (hR : ap_rm R rm maxL) (hn : As.length = n) (hcat : (st.map fun v => v.category).sum ≤ 8) (hcs : cells ≤ R.cells ∧ slots ≤ R.slots) (hdg : decode cc pc = .ok (.invokespecial index, 3)) (hst : st0 = As.reverse ++ .ref (K.1 k) :: st)
    {st1 : List Value} (hst1 : r.toList ++ st = st1) (kk : AW l K cc own nL ret R cells slots E Qf w1 (pc + 3) lv st1) : AW l K cc own nL ret R cells slots E Qf w pc lv st0 := by
  intro p e s m args below meth c H locs ls hC hP hS hl
  subst hst1
  refine ap_after (va_runSU (Ts := ap_gw) (C := q.1) (As := As) (rest := st) (b := K.1 k) (hC.2.2.2.2.2.2.2.1.1.1 ci q hcl).2 ⟨hC.1, hC.2.1, hC.2.2.1, hC.2.2.2.2.1, hC.2.2.2.2.2.1⟩ hM (va_cwSU n hC.2.2.2.2.2.1 hw.1 rfl hR.1 hR.2.1 hw.2 hR.2.2) ⟨ap_P.blind, va_recv hC.2.2.2.2.2.2.2.1.1 hP hcl (ap_w_at hd), fun U hU hW => ⟨rfl, by rw [hU]; exact hP, hC.2.2.2.2.2.2.2.1.call hS hU hW⟩⟩ rfl hn hl.1 hst (lv_room hcat) hdg hcs) hC hS hl kk
theorem ap_callO {index n k ci : Nat} {owner : String} {x y : MethodName} {bytes : ByteArray} {maxL : Nat} {ret1 : Option FieldType} {rm : Room} {w1 : Mm} {As st0 : List Value} {r : Option Value} {fds : List (Option (Option Nat))} {C : String} {T : u_T} {N : Nat} (hM : MC l K y bytes maxL ret1 rm w (.ref (K.1 k) :: As) r w1) (hw : ap_cO own index C owner x y bytes maxL ret1 n) (hcl : ap_cl[ci]? = some (C, T, N)) (hd : LAY[k]? = some (.inl (ci, fds))) (hR : ap_rm R rm maxL) (hn : As.length = n) (hcat : (st.map fun v => v.category).sum ≤ 8) (hcs : cells ≤ R.cells ∧ slots ≤ R.slots) (hdg : decode cc pc = .ok (.invokevirtual index, 3)) (hst : st0 = As.reverse ++ .ref (K.1 k) :: st)
    {st1 : List Value} (hst1 : r.toList ++ st = st1) (kk : AW l K cc own nL ret R cells slots E Qf w1 (pc + 3) lv st1) : AW l K cc own nL ret R cells slots E Qf w pc lv st0 := by
  intro p e s m args below meth c H locs ls hC hP hS hl
  subst hst1
  obtain ⟨b0, m0, r0, h0⟩ := hw.2.1
  refine ap_after (va_runU (Ts := ap_gw) (C := C) (As := As) (rest := st) (b := K.1 k) ⟨hC.1, hC.2.1, hC.2.2.1, hC.2.2.2.2.1, hC.2.2.2.2.2.1⟩ hM (va_cwO n hC.2.2.2.2.2.1 hw.1 rfl hR.1 hR.2.1 h0 hw.2.2 hR.2.2) ⟨ap_P.blind, va_recv hC.2.2.2.2.2.2.2.1.1 hP hcl (ap_w_at hd), fun U hU hW => ⟨rfl, by rw [hU]; exact hP, hC.2.2.2.2.2.2.2.1.call hS hU hW⟩⟩ rfl hn hl.1 hst (lv_room hcat) hdg hcs) hC hS hl kk
/-! ===== long division, a switch's other values, and the binds of the decompiled text ===== -/
def dvJ (x y : Int64) : Option Int64 := if y = 0 then none else some (x / y)
def rmJ (x y : Int64) : Option Int64 := if y = 0 then none else some (x - x / y * y)
theorem ap_ldivO {x y v : Int64} (h : dvJ x y = some v) (hdg : decode cc pc = .ok (.ldiv, 1)) (k : AW l K cc own nL ret R cells slots E Qf w (pc + 1) lv (.long v :: st)) : AW l K cc own nL ret R cells slots E Qf w pc lv (.long y :: .long x :: st) := by
  unfold dvJ at h
  by_cases hc : y = 0
  · rw [if_pos hc] at h; cases h
  · rw [if_neg hc] at h; cases h; exact ap_ldiv hdg hc k
theorem ap_lremO {x y v : Int64} (h : rmJ x y = some v) (hdg : decode cc pc = .ok (.lrem, 1)) (k : AW l K cc own nL ret R cells slots E Qf w (pc + 1) lv (.long v :: st)) : AW l K cc own nL ret R cells slots E Qf w pc lv (.long y :: .long x :: st) := by
  unfold rmJ at h
  by_cases hc : y = 0
  · rw [if_pos hc] at h; cases h
  · rw [if_neg hc] at h; cases h; exact ap_lrem hdg hc k
theorem ap_ldcS {index i : Nat} {tx : String} (hT : own = "CandleLand$Reader" ∧ ((index = 49 ∧ i = 0) ∨ (index = 59 ∧ i = 1) ∨ (index = 64 ∧ i = 2))) (hdg : decode cc pc = .ok (.ldc index, 2)) (k : AW l K cc own nL ret R cells slots E Qf w (pc + 2) lv (.ref (K.2.2.2.1 i) :: st)) : AW l K cc own nL ret R cells slots E Qf w pc lv st := by
  intro p e s m args below meth c H locs ls hC hP hS hl
  obtain ⟨rfl, h⟩ := hT
  obtain ⟨h7, h8, h9⟩ := hC.2.2.2.2.2.2.2.1.2.2.2.2
  rcases h with ⟨rfl, rfl⟩ | ⟨rfl, rfl⟩ | ⟨rfl, rfl⟩
  · exact va_ldcS hC.1 hC.2.1 hC.2.2.2.2.1 h7 hdg (k p e s m args below meth c H locs ls hC hP hS hl)
  · exact va_ldcS hC.1 hC.2.1 hC.2.2.2.2.1 h8 hdg (k p e s m args below meth c H locs ls hC hP hS hl)
  · exact va_ldcS hC.1 hC.2.1 hC.2.2.2.2.1 h9 hdg (k p e s m args below meth c H locs ls hC hP hS hl)
end AP
theorem ap_out {x : Int32} {lo hi : Int} (h : ∀ z : Int, lo ≤ z → z ≤ hi → ¬ x = Int32.ofInt z) : x.toInt < lo ∨ hi < x.toInt := by
  by_cases h1 : x.toInt < lo
  · exact Or.inl h1
  · by_cases h2 : hi < x.toInt
    · exact Or.inr h2
    · exact absurd (Int32.ofInt_toInt x).symm (h x.toInt (by omega) (by omega))
def ob2 {α β : Type} (o : Option (α × Mm)) (k : α → Mm → Option β) : Option β := match o with
  | none => none
  | some q => k q.1 q.2
theorem ob2_iff {α β : Type} {o : Option (α × Mm)} {k : α → Mm → Option β} {b : β} (h : ob2 o k = some b) : ∃ a w, o = some (a, w) ∧ k a w = some b := by
  cases o with
  | none => cases h
  | some q => exact ⟨q.1, q.2, rfl, h⟩
def isV (v : Nat) : Prop := v = 1 ∨ v = 13 ∨ v = 25 ∨ v = 37
def isK (o : Nat) : Prop := ∃ (ci : Nat) (q : vw_C) (fds : List (Option (Option Nat))), ap_cl[ci]? = some q ∧ LAY[o]? = some (.inl (ci, fds))
end

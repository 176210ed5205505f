def fJ6_bitCount_0f7a4_L48 (x0 : Int32) : Int32 :=
(x0 &&& (63 : Int32))
set_option maxRecDepth 100000 in
set_option maxHeartbeats 4000000 in
theorem AJ6_bitCount_0f7a4_L48 {l : Launch} {K : Kt} {w : Mm}   {x0 : Int32} {zx : Int32} (h : fJ6_bitCount_0f7a4_L48 x0 = zx) : AW l K cJ6_bitCount_0f7a4 RJ6 1 (some .int) rmJ6_bitCount_0f7a4 0 0 ap_E (ap_F K (some (.int zx)) w) w 48 [(0, .int x0)] [] := by
  unfold fJ6_bitCount_0f7a4_L48 at h
  refine ap_iload_n dJ6_bitCount_0f7a4_48 0 rfl rfl ?_
  refine ap_bipush (v := 63) dJ6_bitCount_0f7a4_49 (by decide) ?_
  refine ap_iand dJ6_bitCount_0f7a4_51 ?_
  subst h
  exact ap_iret rfl dJ6_bitCount_0f7a4_52
def fJ6_bitCount_0f7a4_L41 (x0 : Int32) : Int32 :=
fJ6_bitCount_0f7a4_L48 (x0 + (x0.toUInt32 >>> ((16 : Int32).toUInt32 &&& Int32.toUInt32 31)).toInt32)
set_option maxRecDepth 100000 in
set_option maxHeartbeats 4000000 in
theorem AJ6_bitCount_0f7a4_L41 {l : Launch} {K : Kt} {w : Mm}   {x0 : Int32} {zx : Int32} (h : fJ6_bitCount_0f7a4_L41 x0 = zx) : AW l K cJ6_bitCount_0f7a4 RJ6 1 (some .int) rmJ6_bitCount_0f7a4 0 0 ap_E (ap_F K (some (.int zx)) w) w 41 [(0, .int x0)] [] := by
  unfold fJ6_bitCount_0f7a4_L41 at h
  refine ap_iload_n dJ6_bitCount_0f7a4_41 0 rfl rfl ?_
  refine ap_iload_n dJ6_bitCount_0f7a4_42 0 rfl rfl ?_
  refine ap_bipush (v := 16) dJ6_bitCount_0f7a4_43 (by decide) ?_
  refine ap_iushr (v := (x0.toUInt32 >>> ((16 : Int32).toUInt32 &&& Int32.toUInt32 31)).toInt32) dJ6_bitCount_0f7a4_45 rfl ?_
  refine ap_iadd dJ6_bitCount_0f7a4_46 ?_
  refine ap_istore_n (i := 0) (lv' := [(0, .int (x0 + (x0.toUInt32 >>> ((16 : Int32).toUInt32 &&& Int32.toUInt32 31)).toInt32))]) dJ6_bitCount_0f7a4_47 rfl (by decide) rfl ?_
  exact AJ6_bitCount_0f7a4_L48   h
def fJ6_bitCount_0f7a4_L34 (x0 : Int32) : Int32 :=
fJ6_bitCount_0f7a4_L41 (x0 + (x0.toUInt32 >>> ((8 : Int32).toUInt32 &&& Int32.toUInt32 31)).toInt32)
set_option maxRecDepth 100000 in
set_option maxHeartbeats 4000000 in
theorem AJ6_bitCount_0f7a4_L34 {l : Launch} {K : Kt} {w : Mm}   {x0 : Int32} {zx : Int32} (h : fJ6_bitCount_0f7a4_L34 x0 = zx) : AW l K cJ6_bitCount_0f7a4 RJ6 1 (some .int) rmJ6_bitCount_0f7a4 0 0 ap_E (ap_F K (some (.int zx)) w) w 34 [(0, .int x0)] [] := by
  unfold fJ6_bitCount_0f7a4_L34 at h
  refine ap_iload_n dJ6_bitCount_0f7a4_34 0 rfl rfl ?_
  refine ap_iload_n dJ6_bitCount_0f7a4_35 0 rfl rfl ?_
  refine ap_bipush (v := 8) dJ6_bitCount_0f7a4_36 (by decide) ?_
  refine ap_iushr (v := (x0.toUInt32 >>> ((8 : Int32).toUInt32 &&& Int32.toUInt32 31)).toInt32) dJ6_bitCount_0f7a4_38 rfl ?_
  refine ap_iadd dJ6_bitCount_0f7a4_39 ?_
  refine ap_istore_n (i := 0) (lv' := [(0, .int (x0 + (x0.toUInt32 >>> ((8 : Int32).toUInt32 &&& Int32.toUInt32 31)).toInt32))]) dJ6_bitCount_0f7a4_40 rfl (by decide) rfl ?_
  exact AJ6_bitCount_0f7a4_L41   h
def fJ6_bitCount_0f7a4_L24 (x0 : Int32) : Int32 :=
fJ6_bitCount_0f7a4_L34 ((x0 + (x0.toUInt32 >>> ((4 : Int32).toUInt32 &&& Int32.toUInt32 31)).toInt32) &&& (252645135 : Int32))
set_option maxRecDepth 100000 in
set_option maxHeartbeats 4000000 in
theorem AJ6_bitCount_0f7a4_L24 {l : Launch} {K : Kt} {w : Mm}   {x0 : Int32} {zx : Int32} (h : fJ6_bitCount_0f7a4_L24 x0 = zx) : AW l K cJ6_bitCount_0f7a4 RJ6 1 (some .int) rmJ6_bitCount_0f7a4 0 0 ap_E (ap_F K (some (.int zx)) w) w 24 [(0, .int x0)] [] := by
  unfold fJ6_bitCount_0f7a4_L24 at h
  refine ap_iload_n dJ6_bitCount_0f7a4_24 0 rfl rfl ?_
  refine ap_iload_n dJ6_bitCount_0f7a4_25 0 rfl rfl ?_
  refine ap_iconst (v := 4) dJ6_bitCount_0f7a4_26 (by decide) ?_
  refine ap_iushr (v := (x0.toUInt32 >>> ((4 : Int32).toUInt32 &&& Int32.toUInt32 31)).toInt32) dJ6_bitCount_0f7a4_27 rfl ?_
  refine ap_iadd dJ6_bitCount_0f7a4_28 ?_
  refine ap_ldcw (v := 252645135) wd_722 dJ6_bitCount_0f7a4_29 ?_
  refine ap_iand dJ6_bitCount_0f7a4_32 ?_
  refine ap_istore_n (i := 0) (lv' := [(0, .int ((x0 + (x0.toUInt32 >>> ((4 : Int32).toUInt32 &&& Int32.toUInt32 31)).toInt32) &&& (252645135 : Int32)))]) dJ6_bitCount_0f7a4_33 rfl (by decide) rfl ?_
  exact AJ6_bitCount_0f7a4_L34   h
def fJ6_bitCount_0f7a4_L10 (x0 : Int32) : Int32 :=
fJ6_bitCount_0f7a4_L24 ((x0 &&& (858993459 : Int32)) + ((x0.toUInt32 >>> ((2 : Int32).toUInt32 &&& Int32.toUInt32 31)).toInt32 &&& (858993459 : Int32)))
set_option maxRecDepth 100000 in
set_option maxHeartbeats 4000000 in
theorem AJ6_bitCount_0f7a4_L10 {l : Launch} {K : Kt} {w : Mm}   {x0 : Int32} {zx : Int32} (h : fJ6_bitCount_0f7a4_L10 x0 = zx) : AW l K cJ6_bitCount_0f7a4 RJ6 1 (some .int) rmJ6_bitCount_0f7a4 0 0 ap_E (ap_F K (some (.int zx)) w) w 10 [(0, .int x0)] [] := by
  unfold fJ6_bitCount_0f7a4_L10 at h
  refine ap_iload_n dJ6_bitCount_0f7a4_10 0 rfl rfl ?_
  refine ap_ldcw (v := 858993459) wd_721 dJ6_bitCount_0f7a4_11 ?_
  refine ap_iand dJ6_bitCount_0f7a4_14 ?_
  refine ap_iload_n dJ6_bitCount_0f7a4_15 0 rfl rfl ?_
  refine ap_iconst (v := 2) dJ6_bitCount_0f7a4_16 (by decide) ?_
  refine ap_iushr (v := (x0.toUInt32 >>> ((2 : Int32).toUInt32 &&& Int32.toUInt32 31)).toInt32) dJ6_bitCount_0f7a4_17 rfl ?_
  refine ap_ldcw (v := 858993459) wd_721 dJ6_bitCount_0f7a4_18 ?_
  refine ap_iand dJ6_bitCount_0f7a4_21 ?_
  refine ap_iadd dJ6_bitCount_0f7a4_22 ?_
  refine ap_istore_n (i := 0) (lv' := [(0, .int ((x0 &&& (858993459 : Int32)) + ((x0.toUInt32 >>> ((2 : Int32).toUInt32 &&& Int32.toUInt32 31)).toInt32 &&& (858993459 : Int32))))]) dJ6_bitCount_0f7a4_23 rfl (by decide) rfl ?_
  exact AJ6_bitCount_0f7a4_L24   h
def fJ6_bitCount_0f7a4 (x0 : Int32) : Int32 :=
fJ6_bitCount_0f7a4_L10 (x0 - ((x0.toUInt32 >>> ((1 : Int32).toUInt32 &&& Int32.toUInt32 31)).toInt32 &&& (1431655765 : Int32)))
set_option maxRecDepth 100000 in
set_option maxHeartbeats 4000000 in
theorem AJ6_bitCount_0f7a4 {l : Launch} {K : Kt} {w : Mm}  {x0 : Int32} {zx : Int32} (h : fJ6_bitCount_0f7a4 x0 = zx) : AW l K cJ6_bitCount_0f7a4 RJ6 1 (some .int) rmJ6_bitCount_0f7a4 0 0 ap_E (ap_F K (some (.int zx)) w) w 0 [(0, .int x0)] [] := by
  unfold fJ6_bitCount_0f7a4 at h
  refine ap_iload_n dJ6_bitCount_0f7a4_0 0 rfl rfl ?_
  refine ap_iload_n dJ6_bitCount_0f7a4_1 0 rfl rfl ?_
  refine ap_iconst (v := 1) dJ6_bitCount_0f7a4_2 (by decide) ?_
  refine ap_iushr (v := (x0.toUInt32 >>> ((1 : Int32).toUInt32 &&& Int32.toUInt32 31)).toInt32) dJ6_bitCount_0f7a4_3 rfl ?_
  refine ap_ldcw (v := 1431655765) wd_720 dJ6_bitCount_0f7a4_4 ?_
  refine ap_iand dJ6_bitCount_0f7a4_7 ?_
  refine ap_isub dJ6_bitCount_0f7a4_8 ?_
  refine ap_istore_n (i := 0) (lv' := [(0, .int (x0 - ((x0.toUInt32 >>> ((1 : Int32).toUInt32 &&& Int32.toUInt32 31)).toInt32 &&& (1431655765 : Int32))))]) dJ6_bitCount_0f7a4_9 rfl (by decide) rfl ?_
  exact AJ6_bitCount_0f7a4_L10   h
theorem mcJ6_bitCount_0f7a4 {l : Launch} {K : Kt} {w : Mm}  {x0 : Int32} {zx : Int32} (h : fJ6_bitCount_0f7a4 x0 = zx) : MC l K yJ6_bitCount_0f7a4 cJ6_bitCount_0f7a4 1 (some .int) rmJ6_bitCount_0f7a4 w [.int x0] (some (.int zx)) w :=
  MC.of (by decide) (Nat.le_of_ble_eq_true rfl) rfl (AJ6_bitCount_0f7a4  h)
def fX3_resting_L158 (N : Nat) : Nat → Mm → Int32 → Int32 → Option (Int32 × Mm)
  | 0, _, _, _ => none
  | n0 + 1, w, x7, x8 => if (4 : Int32) ≤ x8 then (
some (x7, w))
else (
Option.bind (rdA w 66 4 x8) fun a11 =>
Option.bind (rdA w 66 4 (x8 ^^^ (1 : Int32))) fun a12 =>
if a11 < a12 then (
(fX3_resting_L158 N n0) w x7 (x8 + 1))
else (
Option.bind (rdA w 67 4 x8) fun a14 =>
Option.bind (rdA w 67 4 (x8 ^^^ (2 : Int32))) fun a15 =>
if a14 < a15 then (
(fX3_resting_L158 N n0) w x7 (x8 + 1))
else (
(fX3_resting_L158 N n0) w (x7 ||| ((1 : Int32) <<< (x8 &&& 31))) (x8 + 1))))
set_option maxRecDepth 100000 in
set_option maxHeartbeats 4000000 in
theorem AX3_resting_L158 {l : Launch} {K : Kt} {N : Nat}   : ∀ (n0 : Nat) (w : Mm) (x7 : Int32) (x8 : Int32) {zx : Int32} {zw : Mm}, fX3_resting_L158 N n0 w x7 x8 = some (zx, zw) → AW l K cX3_resting RX3 11 (some .int) rmX3_resting 0 0 ap_E (ap_F K (some (.int zx)) zw) w 158 [(0, .ref (K.1 53)), (7, .int x7), (8, .int x8)] [] := by
  intro n0
  induction n0 with
  | zero =>
    intro w x7 x8 zx zw h
    cases h
  | succ n0 ih =>
    intro w x7 x8 zx zw h
    rw [fX3_resting_L158] at h
    refine ap_iload dX3_resting_158 2 rfl ?_
    refine ap_iconst (v := 4) dX3_resting_160 (by decide) ?_
    refine ap_icmp_ge (tgt := 217) dX3_resting_161 (by decide) (fun hc10 => ?_) (fun hc10 => ?_)
    · rw [if_pos hc10] at h
      refine ap_iload dX3_resting_217 1 rfl ?_
      obtain ⟨rfl, rfl⟩ := Prod.mk.inj (Option.some.inj h)
      exact ap_iret rfl dX3_resting_219
    · rw [if_neg hc10] at h
      refine ap_aload_n dX3_resting_164 0 rfl rfl ?_
      refine ap_get (v := .ref (K.1 66)) fl_X3_49 ly_53 rfl rfl dX3_resting_165 ?_
      refine ap_iload dX3_resting_168 2 rfl ?_
      obtain ⟨a11, ha11, h⟩ := Option.bind_eq_some_iff.mp h
      refine ap_iald ly_66 ha11 dX3_resting_170 ?_
      refine ap_aload_n dX3_resting_171 0 rfl rfl ?_
      refine ap_get (v := .ref (K.1 66)) fl_X3_49 ly_53 rfl rfl dX3_resting_172 ?_
      refine ap_iload dX3_resting_175 2 rfl ?_
      refine ap_iconst (v := 1) dX3_resting_177 (by decide) ?_
      refine ap_ixor dX3_resting_178 ?_
      obtain ⟨a12, ha12, h⟩ := Option.bind_eq_some_iff.mp h
      refine ap_iald ly_66 ha12 dX3_resting_179 ?_
      refine ap_icmp_lt (tgt := 211) dX3_resting_180 (by decide) (fun hc13 => ?_) (fun hc13 => ?_)
      · rw [if_pos hc13] at h
        refine ap_iinc (v := x8 + 1) (lv' := [(8, .int (x8 + 1)), (0, .ref (K.1 53)), (7, .int x7)]) dX3_resting_211 2 rfl rfl (by decide) rfl ?_
        refine ap_goto (tgt := 158) dX3_resting_214 (by decide) ?_
        refine ap_sub [1, 2, 0] rfl ?_
        exact ih _ _ _ h
      · rw [if_neg hc13] at h
        refine ap_aload_n dX3_resting_183 0 rfl rfl ?_
        refine ap_get (v := .ref (K.1 67)) fl_X3_52 ly_53 rfl rfl dX3_resting_184 ?_
        refine ap_iload dX3_resting_187 2 rfl ?_
        obtain ⟨a14, ha14, h⟩ := Option.bind_eq_some_iff.mp h
        refine ap_iald ly_67 ha14 dX3_resting_189 ?_
        refine ap_aload_n dX3_resting_190 0 rfl rfl ?_
        refine ap_get (v := .ref (K.1 67)) fl_X3_52 ly_53 rfl rfl dX3_resting_191 ?_
        refine ap_iload dX3_resting_194 2 rfl ?_
        refine ap_iconst (v := 2) dX3_resting_196 (by decide) ?_
        refine ap_ixor dX3_resting_197 ?_
        obtain ⟨a15, ha15, h⟩ := Option.bind_eq_some_iff.mp h
        refine ap_iald ly_67 ha15 dX3_resting_198 ?_
        refine ap_icmp_lt (tgt := 211) dX3_resting_199 (by decide) (fun hc16 => ?_) (fun hc16 => ?_)
        · rw [if_pos hc16] at h
          refine ap_iinc (v := x8 + 1) (lv' := [(8, .int (x8 + 1)), (0, .ref (K.1 53)), (7, .int x7)]) dX3_resting_211 2 rfl rfl (by decide) rfl ?_
          refine ap_goto (tgt := 158) dX3_resting_214 (by decide) ?_
          refine ap_sub [1, 2, 0] rfl ?_
          exact ih _ _ _ h
        · rw [if_neg hc16] at h
          refine ap_iload dX3_resting_202 1 rfl ?_
          refine ap_iconst (v := 1) dX3_resting_204 (by decide) ?_
          refine ap_iload dX3_resting_205 2 rfl ?_
          refine ap_ishl dX3_resting_207 ?_
          refine ap_ior dX3_resting_208 ?_
          refine ap_istore (i := 7) (lv' := [(7, .int (x7 ||| ((1 : Int32) <<< (x8 &&& 31)))), (0, .ref (K.1 53)), (8, .int x8)]) dX3_resting_209 (by decide) rfl ?_
          refine ap_iinc (v := x8 + 1) (lv' := [(8, .int (x8 + 1)), (7, .int (x7 ||| ((1 : Int32) <<< (x8 &&& 31)))), (0, .ref (K.1 53))]) dX3_resting_211 2 rfl rfl (by decide) rfl ?_
          refine ap_goto (tgt := 158) dX3_resting_214 (by decide) ?_
          refine ap_sub [2, 1, 0] rfl ?_
          exact ih _ _ _ h
def fX3_resting_L70 (N : Nat) (k36 : Mm → Int32 → Int32 → Int32 → Int32 → Int32 → Int32 → Int32 → Option (Int32 × Mm)) (w : Mm) (x1 : Int32) (x2 : Int32) (x3 : Int32) (x4 : Int32) (x5 : Int32) (x6 : Int32) (x7 : Int32) (x8 : Int32) (t0 : Int32) : Option (Int32 × Mm) :=
Option.bind (fX3_acresOf N 5 7 w x1 ((x6 ||| x8) ||| t0)) fun a6 =>
Option.bind (wrA w 66 4 x7 (a6 - ((x3 * (fJ6_bitCount_0f7a4 x8)) / (10 : Int32)))) fun m7 =>
Option.bind (fX3_acresOf N 5 7 m7 x2 ((x6 ||| x8) ||| t0)) fun a8 =>
Option.bind (wrA m7 67 4 x7 (a8 - ((x3 * (fJ6_bitCount_0f7a4 t0)) / (10 : Int32)))) fun m9 =>
k36 m9 x1 x2 x3 x4 x5 x6 (x7 + 1)
set_option maxRecDepth 100000 in
set_option maxHeartbeats 4000000 in
theorem AX3_resting_L70 {l : Launch} {K : Kt} {N : Nat} {k36 : Mm → Int32 → Int32 → Int32 → Int32 → Int32 → Int32 → Int32 → Option (Int32 × Mm)} (hk36 : ∀ (w : Mm) (x1 : Int32) (x2 : Int32) (x3 : Int32) (x4 : Int32) (x5 : Int32) (x6 : Int32) (x7 : Int32) (zx : Int32) (zw : Mm), k36 w x1 x2 x3 x4 x5 x6 x7 = some (zx, zw) → AW l K cX3_resting RX3 11 (some .int) rmX3_resting 0 0 ap_E (ap_F K (some (.int zx)) zw) w 36 [(0, .ref (K.1 53)), (1, .int x1), (2, .int x2), (3, .int x3), (4, .int x4), (5, .int x5), (6, .int x6), (7, .int x7)] [])  {w : Mm} {x1 : Int32} {x2 : Int32} {x3 : Int32} {x4 : Int32} {x5 : Int32} {x6 : Int32} {x7 : Int32} {x8 : Int32} {t0 : Int32} {zx : Int32} {zw : Mm} (h : fX3_resting_L70 N k36 w x1 x2 x3 x4 x5 x6 x7 x8 t0 = some (zx, zw)) : AW l K cX3_resting RX3 11 (some .int) rmX3_resting 0 0 ap_E (ap_F K (some (.int zx)) zw) w 70 [(0, .ref (K.1 53)), (1, .int x1), (2, .int x2), (3, .int x3), (4, .int x4), (5, .int x5), (6, .int x6), (7, .int x7), (8, .int x8)] [.int t0] := by
  unfold fX3_resting_L70 at h
  refine ap_istore (i := 9) (lv' := [(9, .int t0), (0, .ref (K.1 53)), (1, .int x1), (2, .int x2), (3, .int x3), (4, .int x4), (5, .int x5), (6, .int x6), (7, .int x7), (8, .int x8)]) dX3_resting_70 (by decide) rfl ?_
  refine ap_iload dX3_resting_72 7 rfl ?_
  refine ap_iload dX3_resting_74 9 rfl ?_
  refine ap_ior dX3_resting_76 ?_
  refine ap_iload dX3_resting_77 0 rfl ?_
  refine ap_ior dX3_resting_79 ?_
  refine ap_istore (i := 10) (lv' := [(10, .int ((x6 ||| x8) ||| t0)), (9, .int t0), (0, .ref (K.1 53)), (1, .int x1), (2, .int x2), (3, .int x3), (4, .int x4), (5, .int x5), (6, .int x6), (7, .int x7), (8, .int x8)]) dX3_resting_80 (by decide) rfl ?_
  refine ap_aload_n dX3_resting_82 2 rfl rfl ?_
  refine ap_get (v := .ref (K.1 66)) fl_X3_49 ly_53 rfl rfl dX3_resting_83 ?_
  refine ap_iload dX3_resting_86 9 rfl ?_
  refine ap_aload_n dX3_resting_88 2 rfl rfl ?_
  refine ap_iload_n dX3_resting_89 3 rfl rfl ?_
  refine ap_iload dX3_resting_90 0 rfl ?_
  refine ap_aload_n dX3_resting_92 2 rfl rfl ?_
  refine ap_get (v := .ref (K.1 1)) fl_X3_55 ly_53 rfl rfl dX3_resting_93 ?_
  refine ap_get (v := .ref (K.1 5)) fl_X3_104 ly_1 rfl rfl dX3_resting_96 ?_
  obtain ⟨a6, ha6, h⟩ := Option.bind_eq_some_iff.mp h
  refine ap_callV (k := 53) (As := [.int x1, .int ((x6 ||| x8) ||| t0), .ref (K.1 5)]) (st := [.int x7, .ref (K.1 66)]) (st1 := [.int a6, .int x7, .ref (K.1 66)]) (mcX3_acresOf ly_5 (w := w) ha6) cv_X3_111 rfl ly_53 ⟨rfl, rfl, by decide, by decide⟩ rfl (Nat.le_of_ble_eq_true rfl) ⟨Nat.zero_le _, Nat.zero_le _⟩ dX3_resting_99 rfl rfl ?_
  refine ap_iload_n dX3_resting_102 5 rfl rfl ?_
  refine ap_iload dX3_resting_103 10 rfl ?_
  refine ap_callS (As := [.int x8]) (st := [.int x3, .int a6, .int x7, .ref (K.1 66)]) (st1 := [.int (fJ6_bitCount_0f7a4 x8), .int x3, .int a6, .int x7, .ref (K.1 66)]) (mcJ6_bitCount_0f7a4  (w := w) (zx := fJ6_bitCount_0f7a4 x8) rfl) cs_X3_117 ⟨rfl, rfl, by decide, by decide⟩ rfl (Nat.le_of_ble_eq_true rfl) ⟨Nat.zero_le _, Nat.zero_le _⟩ dX3_resting_105 rfl rfl ?_
  refine ap_imul dX3_resting_108 ?_
  refine ap_bipush (v := 10) dX3_resting_109 (by decide) ?_
  refine ap_idiv dX3_resting_111 (by decide) ?_
  refine ap_isub dX3_resting_112 ?_
  obtain ⟨m7, hm7, h⟩ := Option.bind_eq_some_iff.mp h
  refine ap_iast ly_66 hm7 dX3_resting_113 ?_
  refine ap_aload_n dX3_resting_114 2 rfl rfl ?_
  refine ap_get (v := .ref (K.1 67)) fl_X3_52 ly_53 rfl rfl dX3_resting_115 ?_
  refine ap_iload dX3_resting_118 9 rfl ?_
  refine ap_aload_n dX3_resting_120 2 rfl rfl ?_
  refine ap_iload_n dX3_resting_121 4 rfl rfl ?_
  refine ap_iload dX3_resting_122 0 rfl ?_
  refine ap_aload_n dX3_resting_124 2 rfl rfl ?_
  refine ap_get (v := .ref (K.1 1)) fl_X3_55 ly_53 rfl rfl dX3_resting_125 ?_
  refine ap_get (v := .ref (K.1 5)) fl_X3_104 ly_1 rfl rfl dX3_resting_128 ?_
  obtain ⟨a8, ha8, h⟩ := Option.bind_eq_some_iff.mp h
  refine ap_callV (k := 53) (As := [.int x2, .int ((x6 ||| x8) ||| t0), .ref (K.1 5)]) (st := [.int x7, .ref (K.1 67)]) (st1 := [.int a8, .int x7, .ref (K.1 67)]) (mcX3_acresOf ly_5 (w := m7) ha8) cv_X3_111 rfl ly_53 ⟨rfl, rfl, by decide, by decide⟩ rfl (Nat.le_of_ble_eq_true rfl) ⟨Nat.zero_le _, Nat.zero_le _⟩ dX3_resting_131 rfl rfl ?_
  refine ap_iload_n dX3_resting_134 5 rfl rfl ?_
  refine ap_iload dX3_resting_135 1 rfl ?_
  refine ap_callS (As := [.int t0]) (st := [.int x3, .int a8, .int x7, .ref (K.1 67)]) (st1 := [.int (fJ6_bitCount_0f7a4 t0), .int x3, .int a8, .int x7, .ref (K.1 67)]) (mcJ6_bitCount_0f7a4  (w := m7) (zx := fJ6_bitCount_0f7a4 t0) rfl) cs_X3_117 ⟨rfl, rfl, by decide, by decide⟩ rfl (Nat.le_of_ble_eq_true rfl) ⟨Nat.zero_le _, Nat.zero_le _⟩ dX3_resting_137 rfl rfl ?_
  refine ap_imul dX3_resting_140 ?_
  refine ap_bipush (v := 10) dX3_resting_141 (by decide) ?_
  refine ap_idiv dX3_resting_143 (by decide) ?_
  refine ap_isub dX3_resting_144 ?_
  obtain ⟨m9, hm9, h⟩ := Option.bind_eq_some_iff.mp h
  refine ap_iast ly_67 hm9 dX3_resting_145 ?_
  refine ap_iinc (v := x7 + 1) (lv' := [(7, .int (x7 + 1)), (10, .int ((x6 ||| x8) ||| t0)), (9, .int t0), (0, .ref (K.1 53)), (1, .int x1), (2, .int x2), (3, .int x3), (4, .int x4), (5, .int x5), (6, .int x6), (8, .int x8)]) dX3_resting_146 9 rfl rfl (by decide) rfl ?_
  refine ap_goto (tgt := 36) dX3_resting_149 (by decide) ?_
  refine ap_sub [3, 4, 5, 6, 7, 8, 9, 0] rfl ?_
  exact hk36 _ _ _ _ _ _ _ _ _ _ h
def fX3_resting_L55 (N : Nat) (k36 : Mm → Int32 → Int32 → Int32 → Int32 → Int32 → Int32 → Int32 → Option (Int32 × Mm)) (w : Mm) (x1 : Int32) (x2 : Int32) (x3 : Int32) (x4 : Int32) (x5 : Int32) (x6 : Int32) (x7 : Int32) (t0 : Int32) : Option (Int32 × Mm) :=
if (x7 &&& (2 : Int32)) = (0 : Int32) then (
fX3_resting_L70 N k36 w x1 x2 x3 x4 x5 x6 x7 t0 (0 : Int32))
else (
fX3_resting_L70 N k36 w x1 x2 x3 x4 x5 x6 x7 t0 x5)
set_option maxRecDepth 100000 in
set_option maxHeartbeats 4000000 in
theorem AX3_resting_L55 {l : Launch} {K : Kt} {N : Nat} {k36 : Mm → Int32 → Int32 → Int32 → Int32 → Int32 → Int32 → Int32 → Option (Int32 × Mm)} (hk36 : ∀ (w : Mm) (x1 : Int32) (x2 : Int32) (x3 : Int32) (x4 : Int32) (x5 : Int32) (x6 : Int32) (x7 : Int32) (zx : Int32) (zw : Mm), k36 w x1 x2 x3 x4 x5 x6 x7 = some (zx, zw) → AW l K cX3_resting RX3 11 (some .int) rmX3_resting 0 0 ap_E (ap_F K (some (.int zx)) zw) w 36 [(0, .ref (K.1 53)), (1, .int x1), (2, .int x2), (3, .int x3), (4, .int x4), (5, .int x5), (6, .int x6), (7, .int x7)] [])  {w : Mm} {x1 : Int32} {x2 : Int32} {x3 : Int32} {x4 : Int32} {x5 : Int32} {x6 : Int32} {x7 : Int32} {t0 : Int32} {zx : Int32} {zw : Mm} (h : fX3_resting_L55 N k36 w x1 x2 x3 x4 x5 x6 x7 t0 = some (zx, zw)) : AW l K cX3_resting RX3 11 (some .int) rmX3_resting 0 0 ap_E (ap_F K (some (.int zx)) zw) w 55 [(0, .ref (K.1 53)), (1, .int x1), (2, .int x2), (3, .int x3), (4, .int x4), (5, .int x5), (6, .int x6), (7, .int x7)] [.int t0] := by
  unfold fX3_resting_L55 at h
  refine ap_istore (i := 8) (lv' := [(8, .int t0), (0, .ref (K.1 53)), (1, .int x1), (2, .int x2), (3, .int x3), (4, .int x4), (5, .int x5), (6, .int x6), (7, .int x7)]) dX3_resting_55 (by decide) rfl ?_
  refine ap_iload dX3_resting_57 8 rfl ?_
  refine ap_iconst (v := 2) dX3_resting_59 (by decide) ?_
  refine ap_iand dX3_resting_60 ?_
  refine ap_if_eq (tgt := 69) dX3_resting_61 (by decide) (fun hc5 => ?_) (fun hc5 => ?_)
  · rw [if_pos hc5] at h
    refine ap_iconst (v := 0) dX3_resting_69 (by decide) ?_
    refine ap_sub [1, 2, 3, 4, 5, 6, 7, 8, 0] rfl ?_
    exact AX3_resting_L70 hk36  h
  · rw [if_neg hc5] at h
    refine ap_iload dX3_resting_64 6 rfl ?_
    refine ap_goto (tgt := 70) dX3_resting_66 (by decide) ?_
    refine ap_sub [1, 2, 3, 4, 5, 6, 7, 8, 0] rfl ?_
    exact AX3_resting_L70 hk36  h
def fX3_resting_L36 (N : Nat) : Nat → Mm → Int32 → Int32 → Int32 → Int32 → Int32 → Int32 → Int32 → Option (Int32 × Mm)
  | 0, _, _, _, _, _, _, _, _ => none
  | n0 + 1, w, x1, x2, x3, x4, x5, x6, x7 => if (4 : Int32) ≤ x7 then (
fX3_resting_L158 N N w (0 : Int32) (0 : Int32))
else (
if (x7 &&& (1 : Int32)) = (0 : Int32) then (
fX3_resting_L55 N (fX3_resting_L36 N n0) w x1 x2 x3 x4 x5 x6 x7 (0 : Int32))
else (
fX3_resting_L55 N (fX3_resting_L36 N n0) w x1 x2 x3 x4 x5 x6 x7 x4))
set_option maxRecDepth 100000 in
set_option maxHeartbeats 4000000 in
theorem AX3_resting_L36 {l : Launch} {K : Kt} {N : Nat}   : ∀ (n0 : Nat) (w : Mm) (x1 : Int32) (x2 : Int32) (x3 : Int32) (x4 : Int32) (x5 : Int32) (x6 : Int32) (x7 : Int32) {zx : Int32} {zw : Mm}, fX3_resting_L36 N n0 w x1 x2 x3 x4 x5 x6 x7 = some (zx, zw) → AW l K cX3_resting RX3 11 (some .int) rmX3_resting 0 0 ap_E (ap_F K (some (.int zx)) zw) w 36 [(0, .ref (K.1 53)), (1, .int x1), (2, .int x2), (3, .int x3), (4, .int x4), (5, .int x5), (6, .int x6), (7, .int x7)] [] := by
  intro n0
  induction n0 with
  | zero =>
    intro w x1 x2 x3 x4 x5 x6 x7 zx zw h
    cases h
  | succ n0 ih =>
    intro w x1 x2 x3 x4 x5 x6 x7 zx zw h
    rw [fX3_resting_L36] at h
    refine ap_iload dX3_resting_36 7 rfl ?_
    refine ap_iconst (v := 4) dX3_resting_38 (by decide) ?_
    refine ap_icmp_ge (tgt := 152) dX3_resting_39 (by decide) (fun hc3 => ?_) (fun hc3 => ?_)
    · rw [if_pos hc3] at h
      refine ap_iconst (v := 0) dX3_resting_152 (by decide) ?_
      refine ap_istore (i := 7) (lv' := [(7, .int (0 : Int32)), (0, .ref (K.1 53)), (1, .int x1), (2, .int x2), (3, .int x3), (4, .int x4), (5, .int x5), (6, .int x6)]) dX3_resting_153 (by decide) rfl ?_
      refine ap_iconst (v := 0) dX3_resting_155 (by decide) ?_
      refine ap_istore (i := 8) (lv' := [(8, .int (0 : Int32)), (7, .int (0 : Int32)), (0, .ref (K.1 53)), (1, .int x1), (2, .int x2), (3, .int x3), (4, .int x4), (5, .int x5), (6, .int x6)]) dX3_resting_156 (by decide) rfl ?_
      refine ap_sub [2, 1, 0] rfl ?_
      exact AX3_resting_L158  N _ _ _ h
    · rw [if_neg hc3] at h
      refine ap_iload dX3_resting_42 7 rfl ?_
      refine ap_iconst (v := 1) dX3_resting_44 (by decide) ?_
      refine ap_iand dX3_resting_45 ?_
      refine ap_if_eq (tgt := 54) dX3_resting_46 (by decide) (fun hc4 => ?_) (fun hc4 => ?_)
      · rw [if_pos hc4] at h
        refine ap_iconst (v := 0) dX3_resting_54 (by decide) ?_
        exact AX3_resting_L55 (fun q0 q1 q2 q3 q4 q5 q6 q7 q8 q9 hq => ih q0 q1 q2 q3 q4 q5 q6 q7 hq)  h
      · rw [if_neg hc4] at h
        refine ap_iload dX3_resting_49 4 rfl ?_
        refine ap_goto (tgt := 55) dX3_resting_51 (by decide) ?_
        exact AX3_resting_L55 (fun q0 q1 q2 q3 q4 q5 q6 q7 q8 q9 hq => ih q0 q1 q2 q3 q4 q5 q6 q7 hq)  h
def fX3_resting_L33 (N : Nat) (w : Mm) (x1 : Int32) (x2 : Int32) (x3 : Int32) (x4 : Int32) (x5 : Int32) (x6 : Int32) : Option (Int32 × Mm) :=
fX3_resting_L36 N N w x1 x2 x3 x4 x5 x6 (0 : Int32)
set_option maxRecDepth 100000 in
set_option maxHeartbeats 4000000 in
theorem AX3_resting_L33 {l : Launch} {K : Kt} {N : Nat}   {w : Mm} {x1 : Int32} {x2 : Int32} {x3 : Int32} {x4 : Int32} {x5 : Int32} {x6 : Int32} {zx : Int32} {zw : Mm} (h : fX3_resting_L33 N w x1 x2 x3 x4 x5 x6 = some (zx, zw)) : AW l K cX3_resting RX3 11 (some .int) rmX3_resting 0 0 ap_E (ap_F K (some (.int zx)) zw) w 33 [(0, .ref (K.1 53)), (1, .int x1), (2, .int x2), (3, .int x3), (4, .int x4), (5, .int x5), (6, .int x6)] [] := by
  unfold fX3_resting_L33 at h
  refine ap_iconst (v := 0) dX3_resting_33 (by decide) ?_
  refine ap_istore (i := 7) (lv' := [(7, .int (0 : Int32)), (0, .ref (K.1 53)), (1, .int x1), (2, .int x2), (3, .int x3), (4, .int x4), (5, .int x5), (6, .int x6)]) dX3_resting_34 (by decide) rfl ?_
  refine ap_sub [1, 2, 3, 4, 5, 6, 7, 0] rfl ?_
  exact AX3_resting_L36  N _ _ _ _ _ _ _ _ h
def fX3_resting (N : Nat) (w : Mm) (x1 : Int32) (x2 : Int32) (x3 : Int32) : Option (Int32 × Mm) :=
Option.bind (fX3_candlesOf N w x1) fun a1 =>
Option.bind (fX3_candlesOf N w x2) fun a2 =>
fX3_resting_L33 N w x1 x2 x3 a1 a2 (((w.1 1 2) &&& (a1 ^^^ (-1 : Int32))) &&& (a2 ^^^ (-1 : Int32)))
set_option maxRecDepth 100000 in
set_option maxHeartbeats 4000000 in
theorem AX3_resting {l : Launch} {K : Kt} {N : Nat}  {w : Mm} {x1 : Int32} {x2 : Int32} {x3 : Int32} {zx : Int32} {zw : Mm} (h : fX3_resting N w x1 x2 x3 = some (zx, zw)) : AW l K cX3_resting RX3 11 (some .int) rmX3_resting 0 0 ap_E (ap_F K (some (.int zx)) zw) w 0 [(0, .ref (K.1 53)), (1, .int x1), (2, .int x2), (3, .int x3)] [] := by
  unfold fX3_resting at h
  refine ap_aload_n dX3_resting_0 0 rfl rfl ?_
  refine ap_iload_n dX3_resting_1 1 rfl rfl ?_
  obtain ⟨a1, ha1, h⟩ := Option.bind_eq_some_iff.mp h
  refine ap_callV (k := 53) (As := [.int x1]) (st := []) (st1 := [.int a1]) (mcX3_candlesOf  (w := w) ha1) cv_X3_114 rfl ly_53 ⟨rfl, rfl, by decide, by decide⟩ rfl (Nat.le_of_ble_eq_true rfl) ⟨Nat.zero_le _, Nat.zero_le _⟩ dX3_resting_2 rfl rfl ?_
  refine ap_istore (i := 4) (lv' := [(4, .int a1), (0, .ref (K.1 53)), (1, .int x1), (2, .int x2), (3, .int x3)]) dX3_resting_5 (by decide) rfl ?_
  refine ap_aload_n dX3_resting_7 1 rfl rfl ?_
  refine ap_iload_n dX3_resting_8 3 rfl rfl ?_
  obtain ⟨a2, ha2, h⟩ := Option.bind_eq_some_iff.mp h
  refine ap_callV (k := 53) (As := [.int x2]) (st := []) (st1 := [.int a2]) (mcX3_candlesOf  (w := w) ha2) cv_X3_114 rfl ly_53 ⟨rfl, rfl, by decide, by decide⟩ rfl (Nat.le_of_ble_eq_true rfl) ⟨Nat.zero_le _, Nat.zero_le _⟩ dX3_resting_9 rfl rfl ?_
  refine ap_istore (i := 5) (lv' := [(5, .int a2), (4, .int a1), (0, .ref (K.1 53)), (1, .int x1), (2, .int x2), (3, .int x3)]) dX3_resting_12 (by decide) rfl ?_
  refine ap_aload_n dX3_resting_14 2 rfl rfl ?_
  refine ap_get (v := .ref (K.1 1)) fl_X3_55 ly_53 rfl rfl dX3_resting_15 ?_
  refine ap_get (v := .int (w.1 1 2)) fl_X3_101 ly_1 rfl rfl dX3_resting_18 ?_
  refine ap_iload dX3_resting_21 1 rfl ?_
  refine ap_iconst (v := -1) dX3_resting_23 (by decide) ?_
  refine ap_ixor dX3_resting_24 ?_
  refine ap_iand dX3_resting_25 ?_
  refine ap_iload dX3_resting_26 0 rfl ?_
  refine ap_iconst (v := -1) dX3_resting_28 (by decide) ?_
  refine ap_ixor dX3_resting_29 ?_
  refine ap_iand dX3_resting_30 ?_
  refine ap_istore (i := 6) (lv' := [(6, .int (((w.1 1 2) &&& (a1 ^^^ (-1 : Int32))) &&& (a2 ^^^ (-1 : Int32)))), (5, .int a2), (4, .int a1), (0, .ref (K.1 53)), (1, .int x1), (2, .int x2), (3, .int x3)]) dX3_resting_31 (by decide) rfl ?_
  refine ap_sub [3, 4, 5, 6, 2, 1, 0] rfl ?_
  exact AX3_resting_L33   h
theorem mcX3_resting {l : Launch} {K : Kt} {N : Nat}  {w : Mm} {x1 : Int32} {x2 : Int32} {x3 : Int32} {zx : Int32} {zw : Mm} (h : fX3_resting N w x1 x2 x3 = some (zx, zw)) : MC l K yX3_resting cX3_resting 11 (some .int) rmX3_resting w [.ref (K.1 53), .int x1, .int x2, .int x3] (some (.int zx)) zw :=
  MC.of (by decide) (Nat.le_of_ble_eq_true rfl) rfl (AX3_resting  h)
def fX3_acresOfNights_L50 (N : Nat) (k10 : Int32 → Int32 → Int32 → Int64 → Int32 → Int32 → Option Int32) (k22 : Int32 → Int32 → Int32 → Int64 → Int32 → Int32 → Int32 → Int32 → Option Int32) (w : Mm) (x1 : Int32) (x3 : Int32) (x4 : Int32) (x5 : Int64) (x7 : Int32) (x8 : Int32) (x9 : Int32) (x10 : Int32) : Option Int32 :=
if (0 : Int32) ≤ (lg_cmp ((x5 / (65536 : Int64)) - (x5 / (65536 : Int64)) / (100 : Int64) * (100 : Int64)) x4.toInt64) then (
k22 x1 x3 x4 x5 x7 x8 x9 (x10 + 1))
else (
k22 x1 x3 x4 x5 x7 x8 (x9 ||| ((1 : Int32) <<< (x10 &&& 31))) (x10 + 1))
set_option maxRecDepth 100000 in
set_option maxHeartbeats 4000000 in
theorem AX3_acresOfNights_L50 {l : Launch} {K : Kt} {N : Nat} {w : Mm} {k10 : Int32 → Int32 → Int32 → Int64 → Int32 → Int32 → Option Int32} {k22 : Int32 → Int32 → Int32 → Int64 → Int32 → Int32 → Int32 → Int32 → Option Int32} (hk10 : ∀ (x1 : Int32) (x3 : Int32) (x4 : Int32) (x5 : Int64) (x7 : Int32) (x8 : Int32) (zx : Int32), k10 x1 x3 x4 x5 x7 x8 = some zx → AW l K cX3_acresOfNights RX3 11 (some .int) rmX3_acresOfNights 0 0 ap_E (ap_F K (some (.int zx)) w) w 10 [(0, .ref (K.1 53)), (1, .int x1), (3, .int x3), (4, .int x4), (5, .long x5), (7, .int x7), (8, .int x8)] []) (hk22 : ∀ (x1 : Int32) (x3 : Int32) (x4 : Int32) (x5 : Int64) (x7 : Int32) (x8 : Int32) (x9 : Int32) (x10 : Int32) (zx : Int32), k22 x1 x3 x4 x5 x7 x8 x9 x10 = some zx → AW l K cX3_acresOfNights RX3 11 (some .int) rmX3_acresOfNights 0 0 ap_E (ap_F K (some (.int zx)) w) w 22 [(0, .ref (K.1 53)), (1, .int x1), (3, .int x3), (4, .int x4), (5, .long x5), (7, .int x7), (8, .int x8), (9, .int x9), (10, .int x10)] [])  {x1 : Int32} {x3 : Int32} {x4 : Int32} {x5 : Int64} {x7 : Int32} {x8 : Int32} {x9 : Int32} {x10 : Int32} {zx : Int32} (h : fX3_acresOfNights_L50 N k10 k22 w x1 x3 x4 x5 x7 x8 x9 x10 = some zx) : AW l K cX3_acresOfNights RX3 11 (some .int) rmX3_acresOfNights 0 0 ap_E (ap_F K (some (.int zx)) w) w 50 [(0, .ref (K.1 53)), (1, .int x1), (3, .int x3), (4, .int x4), (5, .long x5), (7, .int x7), (8, .int x8), (9, .int x9), (10, .int x10)] [] := by
  unfold fX3_acresOfNights_L50 at h
  refine ap_lload dX3_acresOfNights_50 4 rfl ?_
  refine ap_ldc2 (v := 65536) wd_865 dX3_acresOfNights_52 ?_
  refine ap_ldiv dX3_acresOfNights_55 (by decide) ?_
  refine ap_ldc2 (v := 100) wd_866 dX3_acresOfNights_56 ?_
  refine ap_lrem dX3_acresOfNights_59 (by decide) ?_
  refine ap_iload dX3_acresOfNights_60 3 rfl ?_
  refine ap_i2l (v := x4.toInt64) dX3_acresOfNights_62 rfl ?_
  refine ap_lcmp dX3_acresOfNights_63 ?_
  refine ap_if_ge (tgt := 76) dX3_acresOfNights_64 (by decide) (fun hc4 => ?_) (fun hc4 => ?_)
  · rw [if_pos hc4] at h
    refine ap_iinc (v := x10 + 1) (lv' := [(10, .int (x10 + 1)), (0, .ref (K.1 53)), (1, .int x1), (3, .int x3), (4, .int x4), (5, .long x5), (7, .int x7), (8, .int x8), (9, .int x9)]) dX3_acresOfNights_76 8 rfl rfl (by decide) rfl ?_
    refine ap_goto (tgt := 22) dX3_acresOfNights_79 (by decide) ?_
    refine ap_sub [1, 2, 3, 4, 5, 6, 7, 8, 0] rfl ?_
    exact hk22 _ _ _ _ _ _ _ _ _ h
  · rw [if_neg hc4] at h
    refine ap_iload dX3_acresOfNights_67 7 rfl ?_
    refine ap_iconst (v := 1) dX3_acresOfNights_69 (by decide) ?_
    refine ap_iload dX3_acresOfNights_70 8 rfl ?_
    refine ap_ishl dX3_acresOfNights_72 ?_
    refine ap_ior dX3_acresOfNights_73 ?_
    refine ap_istore (i := 9) (lv' := [(9, .int (x9 ||| ((1 : Int32) <<< (x10 &&& 31)))), (0, .ref (K.1 53)), (1, .int x1), (3, .int x3), (4, .int x4), (5, .long x5), (7, .int x7), (8, .int x8), (10, .int x10)]) dX3_acresOfNights_74 (by decide) rfl ?_
    refine ap_iinc (v := x10 + 1) (lv' := [(10, .int (x10 + 1)), (9, .int (x9 ||| ((1 : Int32) <<< (x10 &&& 31)))), (0, .ref (K.1 53)), (1, .int x1), (3, .int x3), (4, .int x4), (5, .long x5), (7, .int x7), (8, .int x8)]) dX3_acresOfNights_76 8 rfl rfl (by decide) rfl ?_
    refine ap_goto (tgt := 22) dX3_acresOfNights_79 (by decide) ?_
    refine ap_sub [2, 3, 4, 5, 6, 7, 8, 1, 0] rfl ?_
    exact hk22 _ _ _ _ _ _ _ _ _ h
def fX3_acresOfNights_L22 (N : Nat) (k10 : Int32 → Int32 → Int32 → Int64 → Int32 → Int32 → Option Int32) (w : Mm) : Nat → Int32 → Int32 → Int32 → Int64 → Int32 → Int32 → Int32 → Int32 → Option Int32
  | 0, _, _, _, _, _, _, _, _ => none
  | n0 + 1, x1, x3, x4, x5, x7, x8, x9, x10 => if (w.1 1 1) ≤ x10 then (
Option.bind (fX3_acresOf N 5 7 w x1 x9) fun a3 =>
k10 x1 x3 x4 x5 (x7 + a3) (x8 + 1))
else (
fX3_acresOfNights_L50 N k10 (fX3_acresOfNights_L22 N k10 w n0) w x1 x3 x4 (((x5 * (1103515245 : Int64)) + (12345 : Int64)) - ((x5 * (1103515245 : Int64)) + (12345 : Int64)) / (2147483648 : Int64) * (2147483648 : Int64)) x7 x8 x9 x10)
set_option maxRecDepth 100000 in
set_option maxHeartbeats 4000000 in
theorem AX3_acresOfNights_L22 {l : Launch} {K : Kt} {N : Nat} {w : Mm} {k10 : Int32 → Int32 → Int32 → Int64 → Int32 → Int32 → Option Int32} (hk10 : ∀ (x1 : Int32) (x3 : Int32) (x4 : Int32) (x5 : Int64) (x7 : Int32) (x8 : Int32) (zx : Int32), k10 x1 x3 x4 x5 x7 x8 = some zx → AW l K cX3_acresOfNights RX3 11 (some .int) rmX3_acresOfNights 0 0 ap_E (ap_F K (some (.int zx)) w) w 10 [(0, .ref (K.1 53)), (1, .int x1), (3, .int x3), (4, .int x4), (5, .long x5), (7, .int x7), (8, .int x8)] [])  : ∀ (n0 : Nat) (x1 : Int32) (x3 : Int32) (x4 : Int32) (x5 : Int64) (x7 : Int32) (x8 : Int32) (x9 : Int32) (x10 : Int32) {zx : Int32}, fX3_acresOfNights_L22 N k10 w n0 x1 x3 x4 x5 x7 x8 x9 x10 = some zx → AW l K cX3_acresOfNights RX3 11 (some .int) rmX3_acresOfNights 0 0 ap_E (ap_F K (some (.int zx)) w) w 22 [(0, .ref (K.1 53)), (1, .int x1), (3, .int x3), (4, .int x4), (5, .long x5), (7, .int x7), (8, .int x8), (9, .int x9), (10, .int x10)] [] := by
  intro n0
  induction n0 with
  | zero =>
    intro x1 x3 x4 x5 x7 x8 x9 x10 zx h
    cases h
  | succ n0 ih =>
    intro x1 x3 x4 x5 x7 x8 x9 x10 zx h
    rw [fX3_acresOfNights_L22] at h
    refine ap_iload dX3_acresOfNights_22 8 rfl ?_
    refine ap_aload_n dX3_acresOfNights_24 0 rfl rfl ?_
    refine ap_get (v := .ref (K.1 1)) fl_X3_55 ly_53 rfl rfl dX3_acresOfNights_25 ?_
    refine ap_get (v := .int (w.1 1 1)) fl_X3_87 ly_1 rfl rfl dX3_acresOfNights_28 ?_
    refine ap_icmp_ge (tgt := 82) dX3_acresOfNights_31 (by decide) (fun hc2 => ?_) (fun hc2 => ?_)
    · rw [if_pos hc2] at h
      refine ap_iload dX3_acresOfNights_82 5 rfl ?_
      refine ap_aload_n dX3_acresOfNights_84 0 rfl rfl ?_
      refine ap_iload_n dX3_acresOfNights_85 1 rfl rfl ?_
      refine ap_iload dX3_acresOfNights_86 7 rfl ?_
      refine ap_aload_n dX3_acresOfNights_88 0 rfl rfl ?_
      refine ap_get (v := .ref (K.1 1)) fl_X3_55 ly_53 rfl rfl dX3_acresOfNights_89 ?_
      refine ap_get (v := .ref (K.1 5)) fl_X3_104 ly_1 rfl rfl dX3_acresOfNights_92 ?_
      obtain ⟨a3, ha3, h⟩ := Option.bind_eq_some_iff.mp h
      refine ap_callV (k := 53) (As := [.int x1, .int x9, .ref (K.1 5)]) (st := [.int x7]) (st1 := [.int a3, .int x7]) (mcX3_acresOf ly_5 (w := w) ha3) cv_X3_111 rfl ly_53 ⟨rfl, rfl, by decide, by decide⟩ rfl (Nat.le_of_ble_eq_true rfl) ⟨Nat.zero_le _, Nat.zero_le _⟩ dX3_acresOfNights_95 rfl rfl ?_
      refine ap_iadd dX3_acresOfNights_98 ?_
      refine ap_istore (i := 7) (lv' := [(7, .int (x7 + a3)), (0, .ref (K.1 53)), (1, .int x1), (3, .int x3), (4, .int x4), (5, .long x5), (8, .int x8), (9, .int x9), (10, .int x10)]) dX3_acresOfNights_99 (by decide) rfl ?_
      refine ap_iinc (v := x8 + 1) (lv' := [(8, .int (x8 + 1)), (7, .int (x7 + a3)), (0, .ref (K.1 53)), (1, .int x1), (3, .int x3), (4, .int x4), (5, .long x5), (9, .int x9), (10, .int x10)]) dX3_acresOfNights_101 6 rfl rfl (by decide) rfl ?_
      refine ap_goto (tgt := 10) dX3_acresOfNights_104 (by decide) ?_
      refine ap_sub [2, 3, 4, 5, 6, 1, 0] rfl ?_
      exact hk10 _ _ _ _ _ _ _ h
    · rw [if_neg hc2] at h
      refine ap_lload dX3_acresOfNights_34 4 rfl ?_
      refine ap_ldc2 (v := 1103515245) wd_862 dX3_acresOfNights_36 ?_
      refine ap_lmul dX3_acresOfNights_39 ?_
      refine ap_ldc2 (v := 12345) wd_863 dX3_acresOfNights_40 ?_
      refine ap_ladd dX3_acresOfNights_43 ?_
      refine ap_ldc2 (v := 2147483648) wd_864 dX3_acresOfNights_44 ?_
      refine ap_lrem dX3_acresOfNights_47 (by decide) ?_
      refine ap_lstore (i := 5) (lv' := [(5, .long (((x5 * (1103515245 : Int64)) + (12345 : Int64)) - ((x5 * (1103515245 : Int64)) + (12345 : Int64)) / (2147483648 : Int64) * (2147483648 : Int64))), (0, .ref (K.1 53)), (1, .int x1), (3, .int x3), (4, .int x4), (7, .int x7), (8, .int x8), (9, .int x9), (10, .int x10)]) dX3_acresOfNights_48 (by decide) rfl ?_
      refine ap_sub [1, 2, 3, 4, 0, 5, 6, 7, 8] rfl ?_
      exact AX3_acresOfNights_L50 hk10 (fun q0 q1 q2 q3 q4 q5 q6 q7 q8 hq => ih q0 q1 q2 q3 q4 q5 q6 q7 hq)  h
def fX3_acresOfNights_L10 (N : Nat) (w : Mm) : Nat → Int32 → Int32 → Int32 → Int64 → Int32 → Int32 → Option Int32
  | 0, _, _, _, _, _, _ => none
  | n0 + 1, x1, x3, x4, x5, x7, x8 => if x3 ≤ x8 then (
some x7)
else (
fX3_acresOfNights_L22 N (fX3_acresOfNights_L10 N w n0) w N x1 x3 x4 x5 x7 x8 (0 : Int32) (0 : Int32))
set_option maxRecDepth 100000 in
set_option maxHeartbeats 4000000 in
theorem AX3_acresOfNights_L10 {l : Launch} {K : Kt} {N : Nat} {w : Mm}   : ∀ (n0 : Nat) (x1 : Int32) (x3 : Int32) (x4 : Int32) (x5 : Int64) (x7 : Int32) (x8 : Int32) {zx : Int32}, fX3_acresOfNights_L10 N w n0 x1 x3 x4 x5 x7 x8 = some zx → AW l K cX3_acresOfNights RX3 11 (some .int) rmX3_acresOfNights 0 0 ap_E (ap_F K (some (.int zx)) w) w 10 [(0, .ref (K.1 53)), (1, .int x1), (3, .int x3), (4, .int x4), (5, .long x5), (7, .int x7), (8, .int x8)] [] := by
  intro n0
  induction n0 with
  | zero =>
    intro x1 x3 x4 x5 x7 x8 zx h
    cases h
  | succ n0 ih =>
    intro x1 x3 x4 x5 x7 x8 zx h
    rw [fX3_acresOfNights_L10] at h
    refine ap_iload dX3_acresOfNights_10 6 rfl ?_
    refine ap_iload_n dX3_acresOfNights_12 2 rfl rfl ?_
    refine ap_icmp_ge (tgt := 107) dX3_acresOfNights_13 (by decide) (fun hc1 => ?_) (fun hc1 => ?_)
    · rw [if_pos hc1] at h
      refine ap_iload dX3_acresOfNights_107 5 rfl ?_
      obtain rfl := Option.some.inj h
      exact ap_iret rfl dX3_acresOfNights_109
    · rw [if_neg hc1] at h
      refine ap_iconst (v := 0) dX3_acresOfNights_16 (by decide) ?_
      refine ap_istore (i := 9) (lv' := [(9, .int (0 : Int32)), (0, .ref (K.1 53)), (1, .int x1), (3, .int x3), (4, .int x4), (5, .long x5), (7, .int x7), (8, .int x8)]) dX3_acresOfNights_17 (by decide) rfl ?_
      refine ap_iconst (v := 0) dX3_acresOfNights_19 (by decide) ?_
      refine ap_istore (i := 10) (lv' := [(10, .int (0 : Int32)), (9, .int (0 : Int32)), (0, .ref (K.1 53)), (1, .int x1), (3, .int x3), (4, .int x4), (5, .long x5), (7, .int x7), (8, .int x8)]) dX3_acresOfNights_20 (by decide) rfl ?_
      refine ap_sub [2, 3, 4, 5, 6, 7, 8, 1, 0] rfl ?_
      exact AX3_acresOfNights_L22 (fun q0 q1 q2 q3 q4 q5 q6 hq => ih q0 q1 q2 q3 q4 q5 hq)  N _ _ _ _ _ _ _ _ h
def fX3_acresOfNights (N : Nat) (w : Mm) (x1 : Int32) (x2 : Int32) (x3 : Int32) (x4 : Int32) : Option Int32 :=
fX3_acresOfNights_L10 N w N x1 x3 x4 x2.toInt64 (0 : Int32) (0 : Int32)
set_option maxRecDepth 100000 in
set_option maxHeartbeats 4000000 in
theorem AX3_acresOfNights {l : Launch} {K : Kt} {N : Nat} {w : Mm}  {x1 : Int32} {x2 : Int32} {x3 : Int32} {x4 : Int32} {zx : Int32} (h : fX3_acresOfNights N w x1 x2 x3 x4 = some zx) : AW l K cX3_acresOfNights RX3 11 (some .int) rmX3_acresOfNights 0 0 ap_E (ap_F K (some (.int zx)) w) w 0 [(0, .ref (K.1 53)), (1, .int x1), (2, .int x2), (3, .int x3), (4, .int x4)] [] := by
  unfold fX3_acresOfNights at h
  refine ap_iload_n dX3_acresOfNights_0 2 rfl rfl ?_
  refine ap_i2l (v := x2.toInt64) dX3_acresOfNights_1 rfl ?_
  refine ap_lstore (i := 5) (lv' := [(5, .long x2.toInt64), (0, .ref (K.1 53)), (1, .int x1), (2, .int x2), (3, .int x3), (4, .int x4)]) dX3_acresOfNights_2 (by decide) rfl ?_
  refine ap_iconst (v := 0) dX3_acresOfNights_4 (by decide) ?_
  refine ap_istore (i := 7) (lv' := [(7, .int (0 : Int32)), (5, .long x2.toInt64), (0, .ref (K.1 53)), (1, .int x1), (2, .int x2), (3, .int x3), (4, .int x4)]) dX3_acresOfNights_5 (by decide) rfl ?_
  refine ap_iconst (v := 0) dX3_acresOfNights_7 (by decide) ?_
  refine ap_istore (i := 8) (lv' := [(8, .int (0 : Int32)), (7, .int (0 : Int32)), (5, .long x2.toInt64), (0, .ref (K.1 53)), (1, .int x1), (2, .int x2), (3, .int x3), (4, .int x4)]) dX3_acresOfNights_8 (by decide) rfl ?_
  refine ap_sub [3, 4, 6, 7, 2, 1, 0] rfl ?_
  exact AX3_acresOfNights_L10  N _ _ _ _ _ _ h
theorem mcX3_acresOfNights {l : Launch} {K : Kt} {N : Nat} {w : Mm}  {x1 : Int32} {x2 : Int32} {x3 : Int32} {x4 : Int32} {zx : Int32} (h : fX3_acresOfNights N w x1 x2 x3 x4 = some zx) : MC l K yX3_acresOfNights cX3_acresOfNights 11 (some .int) rmX3_acresOfNights w [.ref (K.1 53), .int x1, .int x2, .int x3, .int x4] (some (.int zx)) w :=
  MC.of (by decide) (Nat.le_of_ble_eq_true rfl) rfl (AX3_acresOfNights  h)
def fX3_acresFrom_L4 (N : Nat) (w : Mm) : Nat → Int32 → Int32 → Int32 → Option Int32
  | 0, _, _, _ => none
  | n0 + 1, x1, x2, x3 => if (64 : Int32) ≤ x3 then (
some x2)
else (
Option.bind (rdA w 63 64 x3) fun a2 =>
Option.bind (rdA w 65 15 (fX11_farBetween x1 x3)) fun a3 =>
Option.bind (rdA w 64 64 x3) fun a4 =>
if (mxI a2 a3) ≤ a4 then (
(fX3_acresFrom_L4 N w n0) x1 x2 (x3 + 1))
else (
(fX3_acresFrom_L4 N w n0) x1 (x2 + 1) (x3 + 1)))
set_option maxRecDepth 100000 in
set_option maxHeartbeats 4000000 in
theorem AX3_acresFrom_L4 {l : Launch} {K : Kt} {N : Nat} {w : Mm}   : ∀ (n0 : Nat) (x1 : Int32) (x2 : Int32) (x3 : Int32) {zx : Int32}, fX3_acresFrom_L4 N w n0 x1 x2 x3 = some zx → AW l K cX3_acresFrom RX3 4 (some .int) rmX3_acresFrom 0 0 ap_E (ap_F K (some (.int zx)) w) w 4 [(0, .ref (K.1 53)), (1, .int x1), (2, .int x2), (3, .int x3)] [] := by
  intro n0
  induction n0 with
  | zero =>
    intro x1 x2 x3 zx h
    cases h
  | succ n0 ih =>
    intro x1 x2 x3 zx h
    rw [fX3_acresFrom_L4] at h
    refine ap_iload_n dX3_acresFrom_4 3 rfl rfl ?_
    refine ap_bipush (v := 64) dX3_acresFrom_5 (by decide) ?_
    refine ap_icmp_ge (tgt := 47) dX3_acresFrom_7 (by decide) (fun hc1 => ?_) (fun hc1 => ?_)
    · rw [if_pos hc1] at h
      refine ap_iload_n dX3_acresFrom_47 2 rfl rfl ?_
      obtain rfl := Option.some.inj h
      exact ap_iret rfl dX3_acresFrom_48
    · rw [if_neg hc1] at h
      refine ap_aload_n dX3_acresFrom_10 0 rfl rfl ?_
      refine ap_get (v := .ref (K.1 63)) fl_X3_40 ly_53 rfl rfl dX3_acresFrom_11 ?_
      refine ap_iload_n dX3_acresFrom_14 3 rfl rfl ?_
      obtain ⟨a2, ha2, h⟩ := Option.bind_eq_some_iff.mp h
      refine ap_iald ly_63 ha2 dX3_acresFrom_15 ?_
      refine ap_aload_n dX3_acresFrom_16 0 rfl rfl ?_
      refine ap_get (v := .ref (K.1 65)) fl_X3_46 ly_53 rfl rfl dX3_acresFrom_17 ?_
      refine ap_iload_n dX3_acresFrom_20 1 rfl rfl ?_
      refine ap_iload_n dX3_acresFrom_21 3 rfl rfl ?_
      refine ap_callN (As := [.int x1, .int x3]) (st := [.ref (K.1 65), .int a2]) (st1 := [.int (fX11_farBetween x1 x3), .ref (K.1 65), .int a2]) (mcX11_farBetween  (w := w) (zx := fX11_farBetween x1 x3) rfl) cn_X3_141 ⟨rfl, rfl, by decide, by decide⟩ rfl (Nat.le_of_ble_eq_true rfl) ⟨Nat.zero_le _, Nat.zero_le _⟩ dX3_acresFrom_22 rfl rfl ?_
      obtain ⟨a3, ha3, h⟩ := Option.bind_eq_some_iff.mp h
      refine ap_iald ly_65 ha3 dX3_acresFrom_25 ?_
      refine ap_mmax wd_638 ⟨by decide, by decide⟩ (Nat.le_of_ble_eq_true rfl) ⟨Nat.zero_le _, Nat.zero_le _⟩ dX3_acresFrom_26 ?_
      refine ap_aload_n dX3_acresFrom_29 0 rfl rfl ?_
      refine ap_get (v := .ref (K.1 64)) fl_X3_43 ly_53 rfl rfl dX3_acresFrom_30 ?_
      refine ap_iload_n dX3_acresFrom_33 3 rfl rfl ?_
      obtain ⟨a4, ha4, h⟩ := Option.bind_eq_some_iff.mp h
      refine ap_iald ly_64 ha4 dX3_acresFrom_34 ?_
      refine ap_icmp_le (tgt := 41) dX3_acresFrom_35 (by decide) (fun hc5 => ?_) (fun hc5 => ?_)
      · rw [if_pos hc5] at h
        refine ap_iinc (v := x3 + 1) (lv' := [(3, .int (x3 + 1)), (0, .ref (K.1 53)), (1, .int x1), (2, .int x2)]) dX3_acresFrom_41 3 rfl rfl (by decide) rfl ?_
        refine ap_goto (tgt := 4) dX3_acresFrom_44 (by decide) ?_
        refine ap_sub [1, 2, 3, 0] rfl ?_
        exact ih _ _ _ h
      · rw [if_neg hc5] at h
        refine ap_iinc (v := x2 + 1) (lv' := [(2, .int (x2 + 1)), (0, .ref (K.1 53)), (1, .int x1), (3, .int x3)]) dX3_acresFrom_38 2 rfl rfl (by decide) rfl ?_
        refine ap_iinc (v := x3 + 1) (lv' := [(3, .int (x3 + 1)), (2, .int (x2 + 1)), (0, .ref (K.1 53)), (1, .int x1)]) dX3_acresFrom_41 3 rfl rfl (by decide) rfl ?_
        refine ap_goto (tgt := 4) dX3_acresFrom_44 (by decide) ?_
        refine ap_sub [2, 3, 1, 0] rfl ?_
        exact ih _ _ _ h
def fX3_acresFrom (N : Nat) (w : Mm) (x1 : Int32) : Option Int32 :=
fX3_acresFrom_L4 N w N x1 (0 : Int32) (0 : Int32)
set_option maxRecDepth 100000 in
set_option maxHeartbeats 4000000 in
theorem AX3_acresFrom {l : Launch} {K : Kt} {N : Nat} {w : Mm}  {x1 : Int32} {zx : Int32} (h : fX3_acresFrom N w x1 = some zx) : AW l K cX3_acresFrom RX3 4 (some .int) rmX3_acresFrom 0 0 ap_E (ap_F K (some (.int zx)) w) w 0 [(0, .ref (K.1 53)), (1, .int x1)] [] := by
  unfold fX3_acresFrom at h
  refine ap_iconst (v := 0) dX3_acresFrom_0 (by decide) ?_
  refine ap_istore_n (i := 2) (lv' := [(2, .int (0 : Int32)), (0, .ref (K.1 53)), (1, .int x1)]) dX3_acresFrom_1 rfl (by decide) rfl ?_
  refine ap_iconst (v := 0) dX3_acresFrom_2 (by decide) ?_
  refine ap_istore_n (i := 3) (lv' := [(3, .int (0 : Int32)), (2, .int (0 : Int32)), (0, .ref (K.1 53)), (1, .int x1)]) dX3_acresFrom_3 rfl (by decide) rfl ?_
  refine ap_sub [2, 3, 1, 0] rfl ?_
  exact AX3_acresFrom_L4  N _ _ _ h
theorem mcX3_acresFrom {l : Launch} {K : Kt} {N : Nat} {w : Mm}  {x1 : Int32} {zx : Int32} (h : fX3_acresFrom N w x1 = some zx) : MC l K yX3_acresFrom cX3_acresFrom 4 (some .int) rmX3_acresFrom w [.ref (K.1 53), .int x1] (some (.int zx)) w :=
  MC.of (by decide) (Nat.le_of_ble_eq_true rfl) rfl (AX3_acresFrom  h)
def fX8_litAt (v : Nat) (w : Mm) (x1 : Int32) : Int32 :=
(((w.1 v 2) >>> (x1 &&& 31)) &&& (1 : Int32))
set_option maxRecDepth 100000 in
set_option maxHeartbeats 4000000 in
theorem AX8_litAt {l : Launch} {K : Kt} {v : Nat} {w : Mm} (hv : isV v) {x1 : Int32} {zx : Int32} (h : fX8_litAt v w x1 = zx) : AW l K cX8_litAt RX8 2 (some .int) rmX8_litAt 0 0 ap_E (ap_F K (some (.int zx)) w) w 0 [(0, .ref (K.1 v)), (1, .int x1)] [] := by
  unfold fX8_litAt at h
  refine ap_aload_n dX8_litAt_0 0 rfl rfl ?_
  refine ap_get (v := .int (w.1 v 2)) fl_X8_18 (lyv_0 hv) rfl rfl dX8_litAt_1 ?_
  refine ap_iload_n dX8_litAt_4 1 rfl rfl ?_
  refine ap_ishr dX8_litAt_5 ?_
  refine ap_iconst (v := 1) dX8_litAt_6 (by decide) ?_
  refine ap_iand dX8_litAt_7 ?_
  subst h
  exact ap_iret rfl dX8_litAt_8
theorem mcX8_litAt {l : Launch} {K : Kt} {v : Nat} {w : Mm} (hv : isV v) {x1 : Int32} {zx : Int32} (h : fX8_litAt v w x1 = zx) : MC l K yX8_litAt cX8_litAt 2 (some .int) rmX8_litAt w [.ref (K.1 v), .int x1] (some (.int zx)) w :=
  MC.of (by decide) (Nat.le_of_ble_eq_true rfl) rfl (AX8_litAt hv h)
def fX3_bestPlace_L109 (N : Nat) : Nat → Mm → Int32 → Int32 → Int32 → Option (Int32 × Mm)
  | 0, _, _, _, _ => none
  | n0 + 1, w, x5, x6, x7 => if (64 : Int32) ≤ x7 then (
some (x5, w))
else (
Option.bind (fX3_acresFrom N w x7) fun a11 =>
if a11 ≤ x6 then (
(fX3_bestPlace_L109 N n0) w x5 x6 (x7 + 1))
else (
(fX3_bestPlace_L109 N n0) w x7 a11 (x7 + 1)))
set_option maxRecDepth 100000 in
set_option maxHeartbeats 4000000 in
theorem AX3_bestPlace_L109 {l : Launch} {K : Kt} {N : Nat}   : ∀ (n0 : Nat) (w : Mm) (x5 : Int32) (x6 : Int32) (x7 : Int32) {zx : Int32} {zw : Mm}, fX3_bestPlace_L109 N n0 w x5 x6 x7 = some (zx, zw) → AW l K cX3_bestPlace RX3 9 (some .int) rmX3_bestPlace 0 0 ap_E (ap_F K (some (.int zx)) zw) w 109 [(0, .ref (K.1 53)), (5, .int x5), (6, .int x6), (7, .int x7)] [] := by
  intro n0
  induction n0 with
  | zero =>
    intro w x5 x6 x7 zx zw h
    cases h
  | succ n0 ih =>
    intro w x5 x6 x7 zx zw h
    rw [fX3_bestPlace_L109] at h
    refine ap_iload dX3_bestPlace_109 3 rfl ?_
    refine ap_bipush (v := 64) dX3_bestPlace_111 (by decide) ?_
    refine ap_icmp_ge (tgt := 145) dX3_bestPlace_113 (by decide) (fun hc10 => ?_) (fun hc10 => ?_)
    · rw [if_pos hc10] at h
      refine ap_iload dX3_bestPlace_145 1 rfl ?_
      obtain ⟨rfl, rfl⟩ := Prod.mk.inj (Option.some.inj h)
      exact ap_iret rfl dX3_bestPlace_147
    · rw [if_neg hc10] at h
      refine ap_aload_n dX3_bestPlace_116 0 rfl rfl ?_
      refine ap_iload dX3_bestPlace_117 3 rfl ?_
      obtain ⟨a11, ha11, h⟩ := Option.bind_eq_some_iff.mp h
      refine ap_callV (k := 53) (As := [.int x7]) (st := []) (st1 := [.int a11]) (mcX3_acresFrom  (w := w) ha11) cv_X3_138 rfl ly_53 ⟨rfl, rfl, by decide, by decide⟩ rfl (Nat.le_of_ble_eq_true rfl) ⟨Nat.zero_le _, Nat.zero_le _⟩ dX3_bestPlace_119 rfl rfl ?_
      refine ap_istore (i := 8) (lv' := [(8, .int a11), (0, .ref (K.1 53)), (5, .int x5), (6, .int x6), (7, .int x7)]) dX3_bestPlace_122 (by decide) rfl ?_
      refine ap_iload dX3_bestPlace_124 0 rfl ?_
      refine ap_iload dX3_bestPlace_126 3 rfl ?_
      refine ap_icmp_le (tgt := 139) dX3_bestPlace_128 (by decide) (fun hc12 => ?_) (fun hc12 => ?_)
      · rw [if_pos hc12] at h
        refine ap_iinc (v := x7 + 1) (lv' := [(7, .int (x7 + 1)), (8, .int a11), (0, .ref (K.1 53)), (5, .int x5), (6, .int x6)]) dX3_bestPlace_139 4 rfl rfl (by decide) rfl ?_
        refine ap_goto (tgt := 109) dX3_bestPlace_142 (by decide) ?_
        refine ap_sub [2, 3, 4, 0] rfl ?_
        exact ih _ _ _ _ h
      · rw [if_neg hc12] at h
        refine ap_iload dX3_bestPlace_131 0 rfl ?_
        refine ap_istore (i := 6) (lv' := [(6, .int a11), (8, .int a11), (0, .ref (K.1 53)), (5, .int x5), (7, .int x7)]) dX3_bestPlace_133 (by decide) rfl ?_
        refine ap_iload dX3_bestPlace_135 4 rfl ?_
        refine ap_istore (i := 5) (lv' := [(5, .int x7), (6, .int a11), (8, .int a11), (0, .ref (K.1 53)), (7, .int x7)]) dX3_bestPlace_137 (by decide) rfl ?_
        refine ap_iinc (v := x7 + 1) (lv' := [(7, .int (x7 + 1)), (5, .int x7), (6, .int a11), (8, .int a11), (0, .ref (K.1 53))]) dX3_bestPlace_139 4 rfl rfl (by decide) rfl ?_
        refine ap_goto (tgt := 109) dX3_bestPlace_142 (by decide) ?_
        refine ap_sub [4, 1, 2, 0] rfl ?_
        exact ih _ _ _ _ h
def fX3_bestPlace_L45 (N : Nat) : Nat → Mm → Int32 → Int32 → Int32 → Int32 → Int32 → Option (Int32 × Mm)
  | 0, _, _, _, _, _, _ => none
  | n0 + 1, w, x1, x2, x3, x4, x5 => if (64 : Int32) ≤ x5 then (
Option.bind (fX3_layFar N w x1 x2) fun m5 =>
fX3_bestPlace_L109 N N m5 (0 : Int32) (-1 : Int32) (0 : Int32))
else (
Option.bind (fX3_strongest N w x5 (x4 &&& x3)) fun a6 =>
Option.bind (wrA w 63 64 x5 a6) fun m7 =>
Option.bind (fX3_strongest N m7 x5 (x4 &&& (x3 ^^^ (-1 : Int32)))) fun a8 =>
Option.bind (wrA m7 64 64 x5 a8) fun m9 =>
(fX3_bestPlace_L45 N n0) m9 x1 x2 x3 x4 (x5 + 1))
set_option maxRecDepth 100000 in
set_option maxHeartbeats 4000000 in
theorem AX3_bestPlace_L45 {l : Launch} {K : Kt} {N : Nat}   : ∀ (n0 : Nat) (w : Mm) (x1 : Int32) (x2 : Int32) (x3 : Int32) (x4 : Int32) (x5 : Int32) {zx : Int32} {zw : Mm}, fX3_bestPlace_L45 N n0 w x1 x2 x3 x4 x5 = some (zx, zw) → AW l K cX3_bestPlace RX3 9 (some .int) rmX3_bestPlace 0 0 ap_E (ap_F K (some (.int zx)) zw) w 45 [(0, .ref (K.1 53)), (1, .int x1), (2, .int x2), (3, .int x3), (4, .int x4), (5, .int x5)] [] := by
  intro n0
  induction n0 with
  | zero =>
    intro w x1 x2 x3 x4 x5 zx zw h
    cases h
  | succ n0 ih =>
    intro w x1 x2 x3 x4 x5 zx zw h
    rw [fX3_bestPlace_L45] at h
    refine ap_iload dX3_bestPlace_45 5 rfl ?_
    refine ap_bipush (v := 64) dX3_bestPlace_47 (by decide) ?_
    refine ap_icmp_ge (tgt := 94) dX3_bestPlace_49 (by decide) (fun hc4 => ?_) (fun hc4 => ?_)
    · rw [if_pos hc4] at h
      refine ap_aload_n dX3_bestPlace_94 0 rfl rfl ?_
      refine ap_iload_n dX3_bestPlace_95 1 rfl rfl ?_
      refine ap_iload_n dX3_bestPlace_96 2 rfl rfl ?_
      obtain ⟨m5, hm5, h⟩ := Option.bind_eq_some_iff.mp h
      refine ap_callV (k := 53) (As := [.int x1, .int x2]) (st := []) (st1 := []) (mcX3_layFar  hm5) cv_X3_97 rfl ly_53 ⟨rfl, rfl, by decide, by decide⟩ rfl (Nat.le_of_ble_eq_true rfl) ⟨Nat.zero_le _, Nat.zero_le _⟩ dX3_bestPlace_97 rfl rfl ?_
      refine ap_iconst (v := 0) dX3_bestPlace_100 (by decide) ?_
      refine ap_istore (i := 5) (lv' := [(5, .int (0 : Int32)), (0, .ref (K.1 53)), (1, .int x1), (2, .int x2), (3, .int x3), (4, .int x4)]) dX3_bestPlace_101 (by decide) rfl ?_
      refine ap_iconst (v := -1) dX3_bestPlace_103 (by decide) ?_
      refine ap_istore (i := 6) (lv' := [(6, .int (-1 : Int32)), (5, .int (0 : Int32)), (0, .ref (K.1 53)), (1, .int x1), (2, .int x2), (3, .int x3), (4, .int x4)]) dX3_bestPlace_104 (by decide) rfl ?_
      refine ap_iconst (v := 0) dX3_bestPlace_106 (by decide) ?_
      refine ap_istore (i := 7) (lv' := [(7, .int (0 : Int32)), (6, .int (-1 : Int32)), (5, .int (0 : Int32)), (0, .ref (K.1 53)), (1, .int x1), (2, .int x2), (3, .int x3), (4, .int x4)]) dX3_bestPlace_107 (by decide) rfl ?_
      refine ap_sub [3, 2, 1, 0] rfl ?_
      exact AX3_bestPlace_L109  N _ _ _ _ h
    · rw [if_neg hc4] at h
      refine ap_aload_n dX3_bestPlace_52 0 rfl rfl ?_
      refine ap_get (v := .ref (K.1 63)) fl_X3_40 ly_53 rfl rfl dX3_bestPlace_53 ?_
      refine ap_iload dX3_bestPlace_56 5 rfl ?_
      refine ap_aload_n dX3_bestPlace_58 0 rfl rfl ?_
      refine ap_iload dX3_bestPlace_59 5 rfl ?_
      refine ap_iload dX3_bestPlace_61 4 rfl ?_
      refine ap_iload_n dX3_bestPlace_63 3 rfl rfl ?_
      refine ap_iand dX3_bestPlace_64 ?_
      obtain ⟨a6, ha6, h⟩ := Option.bind_eq_some_iff.mp h
      refine ap_callV (k := 53) (As := [.int x5, .int (x4 &&& x3)]) (st := [.int x5, .ref (K.1 63)]) (st1 := [.int a6, .int x5, .ref (K.1 63)]) (mcX3_strongest  (w := w) ha6) cv_X3_135 rfl ly_53 ⟨rfl, rfl, by decide, by decide⟩ rfl (Nat.le_of_ble_eq_true rfl) ⟨Nat.zero_le _, Nat.zero_le _⟩ dX3_bestPlace_65 rfl rfl ?_
      obtain ⟨m7, hm7, h⟩ := Option.bind_eq_some_iff.mp h
      refine ap_iast ly_63 hm7 dX3_bestPlace_68 ?_
      refine ap_aload_n dX3_bestPlace_69 0 rfl rfl ?_
      refine ap_get (v := .ref (K.1 64)) fl_X3_43 ly_53 rfl rfl dX3_bestPlace_70 ?_
      refine ap_iload dX3_bestPlace_73 5 rfl ?_
      refine ap_aload_n dX3_bestPlace_75 0 rfl rfl ?_
      refine ap_iload dX3_bestPlace_76 5 rfl ?_
      refine ap_iload dX3_bestPlace_78 4 rfl ?_
      refine ap_iload_n dX3_bestPlace_80 3 rfl rfl ?_
      refine ap_iconst (v := -1) dX3_bestPlace_81 (by decide) ?_
      refine ap_ixor dX3_bestPlace_82 ?_
      refine ap_iand dX3_bestPlace_83 ?_
      obtain ⟨a8, ha8, h⟩ := Option.bind_eq_some_iff.mp h
      refine ap_callV (k := 53) (As := [.int x5, .int (x4 &&& (x3 ^^^ (-1 : Int32)))]) (st := [.int x5, .ref (K.1 64)]) (st1 := [.int a8, .int x5, .ref (K.1 64)]) (mcX3_strongest  (w := m7) ha8) cv_X3_135 rfl ly_53 ⟨rfl, rfl, by decide, by decide⟩ rfl (Nat.le_of_ble_eq_true rfl) ⟨Nat.zero_le _, Nat.zero_le _⟩ dX3_bestPlace_84 rfl rfl ?_
      obtain ⟨m9, hm9, h⟩ := Option.bind_eq_some_iff.mp h
      refine ap_iast ly_64 hm9 dX3_bestPlace_87 ?_
      refine ap_iinc (v := x5 + 1) (lv' := [(5, .int (x5 + 1)), (0, .ref (K.1 53)), (1, .int x1), (2, .int x2), (3, .int x3), (4, .int x4)]) dX3_bestPlace_88 5 rfl rfl (by decide) rfl ?_
      refine ap_goto (tgt := 45) dX3_bestPlace_91 (by decide) ?_
      refine ap_sub [1, 2, 3, 4, 5, 0] rfl ?_
      exact ih _ _ _ _ _ _ h
def fX3_bestPlace_L42 (N : Nat) (w : Mm) (x1 : Int32) (x2 : Int32) (x3 : Int32) (x4 : Int32) : Option (Int32 × Mm) :=
fX3_bestPlace_L45 N N w x1 x2 x3 x4 (0 : Int32)
set_option maxRecDepth 100000 in
set_option maxHeartbeats 4000000 in
theorem AX3_bestPlace_L42 {l : Launch} {K : Kt} {N : Nat}   {w : Mm} {x1 : Int32} {x2 : Int32} {x3 : Int32} {x4 : Int32} {zx : Int32} {zw : Mm} (h : fX3_bestPlace_L42 N w x1 x2 x3 x4 = some (zx, zw)) : AW l K cX3_bestPlace RX3 9 (some .int) rmX3_bestPlace 0 0 ap_E (ap_F K (some (.int zx)) zw) w 42 [(0, .ref (K.1 53)), (1, .int x1), (2, .int x2), (3, .int x3), (4, .int x4)] [] := by
  unfold fX3_bestPlace_L42 at h
  refine ap_iconst (v := 0) dX3_bestPlace_42 (by decide) ?_
  refine ap_istore (i := 5) (lv' := [(5, .int (0 : Int32)), (0, .ref (K.1 53)), (1, .int x1), (2, .int x2), (3, .int x3), (4, .int x4)]) dX3_bestPlace_43 (by decide) rfl ?_
  refine ap_sub [1, 2, 3, 4, 5, 0] rfl ?_
  exact AX3_bestPlace_L45  N _ _ _ _ _ _ h
def fX3_bestPlace (N : Nat) (w : Mm) (x1 : Int32) (x2 : Int32) : Option (Int32 × Mm) :=
if (fX8_litAt 1 w x1) = (0 : Int32) then (
some ((0 : Int32), w))
else (
Option.bind (rdA w 5 7 x1) fun a2 =>
Option.bind (fX3_candlesOf N w a2) fun a3 =>
fX3_bestPlace_L42 N w x1 x2 a3 ((w.1 1 2) &&& (((1 : Int32) <<< (x1 &&& 31)) ^^^ (-1 : Int32))))
set_option maxRecDepth 100000 in
set_option maxHeartbeats 4000000 in
theorem AX3_bestPlace {l : Launch} {K : Kt} {N : Nat}  {w : Mm} {x1 : Int32} {x2 : Int32} {zx : Int32} {zw : Mm} (h : fX3_bestPlace N w x1 x2 = some (zx, zw)) : AW l K cX3_bestPlace RX3 9 (some .int) rmX3_bestPlace 0 0 ap_E (ap_F K (some (.int zx)) zw) w 0 [(0, .ref (K.1 53)), (1, .int x1), (2, .int x2)] [] := by
  unfold fX3_bestPlace at h
  refine ap_aload_n dX3_bestPlace_0 0 rfl rfl ?_
  refine ap_get (v := .ref (K.1 1)) fl_X3_55 ly_53 rfl rfl dX3_bestPlace_1 ?_
  refine ap_iload_n dX3_bestPlace_4 1 rfl rfl ?_
  refine ap_callV (k := 1) (As := [.int x1]) (st := []) (st1 := [.int (fX8_litAt 1 w x1)]) (mcX8_litAt isV_1 (w := w) (zx := fX8_litAt 1 w x1) rfl) cv_X3_132 rfl ly_1 ⟨rfl, rfl, by decide, by decide⟩ rfl (Nat.le_of_ble_eq_true rfl) ⟨Nat.zero_le _, Nat.zero_le _⟩ dX3_bestPlace_5 rfl rfl ?_
  refine ap_if_ne (tgt := 13) dX3_bestPlace_8 (by decide) (fun hc1 => ?_) (fun hc1 => ?_)
  · rw [if_neg hc1] at h
    refine ap_aload_n dX3_bestPlace_13 0 rfl rfl ?_
    refine ap_aload_n dX3_bestPlace_14 0 rfl rfl ?_
    refine ap_get (v := .ref (K.1 1)) fl_X3_55 ly_53 rfl rfl dX3_bestPlace_15 ?_
    refine ap_get (v := .ref (K.1 5)) fl_X3_104 ly_1 rfl rfl dX3_bestPlace_18 ?_
    refine ap_iload_n dX3_bestPlace_21 1 rfl rfl ?_
    obtain ⟨a2, ha2, h⟩ := Option.bind_eq_some_iff.mp h
    refine ap_iald ly_5 ha2 dX3_bestPlace_22 ?_
    obtain ⟨a3, ha3, h⟩ := Option.bind_eq_some_iff.mp h
    refine ap_callV (k := 53) (As := [.int a2]) (st := []) (st1 := [.int a3]) (mcX3_candlesOf  (w := w) ha3) cv_X3_114 rfl ly_53 ⟨rfl, rfl, by decide, by decide⟩ rfl (Nat.le_of_ble_eq_true rfl) ⟨Nat.zero_le _, Nat.zero_le _⟩ dX3_bestPlace_23 rfl rfl ?_
    refine ap_istore_n (i := 3) (lv' := [(3, .int a3), (0, .ref (K.1 53)), (1, .int x1), (2, .int x2)]) dX3_bestPlace_26 rfl (by decide) rfl ?_
    refine ap_aload_n dX3_bestPlace_27 1 rfl rfl ?_
    refine ap_get (v := .ref (K.1 1)) fl_X3_55 ly_53 rfl rfl dX3_bestPlace_28 ?_
    refine ap_get (v := .int (w.1 1 2)) fl_X3_101 ly_1 rfl rfl dX3_bestPlace_31 ?_
    refine ap_iconst (v := 1) dX3_bestPlace_34 (by decide) ?_
    refine ap_iload_n dX3_bestPlace_35 2 rfl rfl ?_
    refine ap_ishl dX3_bestPlace_36 ?_
    refine ap_iconst (v := -1) dX3_bestPlace_37 (by decide) ?_
    refine ap_ixor dX3_bestPlace_38 ?_
    refine ap_iand dX3_bestPlace_39 ?_
    refine ap_istore (i := 4) (lv' := [(4, .int ((w.1 1 2) &&& (((1 : Int32) <<< (x1 &&& 31)) ^^^ (-1 : Int32)))), (3, .int a3), (0, .ref (K.1 53)), (1, .int x1), (2, .int x2)]) dX3_bestPlace_40 (by decide) rfl ?_
    refine ap_sub [2, 3, 4, 1, 0] rfl ?_
    exact AX3_bestPlace_L42   h
  · rw [if_pos hc1] at h
    refine ap_iconst (v := 0) dX3_bestPlace_11 (by decide) ?_
    obtain ⟨rfl, rfl⟩ := Prod.mk.inj (Option.some.inj h)
    exact ap_iret rfl dX3_bestPlace_12
theorem mcX3_bestPlace {l : Launch} {K : Kt} {N : Nat}  {w : Mm} {x1 : Int32} {x2 : Int32} {zx : Int32} {zw : Mm} (h : fX3_bestPlace N w x1 x2 = some (zx, zw)) : MC l K yX3_bestPlace cX3_bestPlace 9 (some .int) rmX3_bestPlace w [.ref (K.1 53), .int x1, .int x2] (some (.int zx)) zw :=
  MC.of (by decide) (Nat.le_of_ble_eq_true rfl) rfl (AX3_bestPlace  h)
def fX5_append (w : Mm) (x1 : Int32) : Option (Int32 × Mm) :=
if (150 : Int32) ≤ (w.1 51 1) then (
some ((w.1 51 1), w))
else (
Option.bind (wrA w 52 150 (w.1 51 1) (vp_nar .byte x1.toInt8.toInt32)) fun m2 =>
Option.bind (some (sI m2 51 1 ((m2.1 51 1) + (1 : Int32)))) fun m3 =>
some ((m3.1 51 1), m3))
set_option maxRecDepth 100000 in
set_option maxHeartbeats 4000000 in
theorem AX5_append {l : Launch} {K : Kt}  {w : Mm} {x1 : Int32} {zx : Int32} {zw : Mm} (h : fX5_append w x1 = some (zx, zw)) : AW l K cX5_append RX5 2 (some .int) rmX5_append 0 0 ap_E (ap_F K (some (.int zx)) zw) w 0 [(0, .ref (K.1 51)), (1, .int x1)] [] := by
  unfold fX5_append at h
  refine ap_aload_n dX5_append_0 0 rfl rfl ?_
  refine ap_get (v := .int (w.1 51 1)) fl_X5_18 ly_51 rfl rfl dX5_append_1 ?_
  refine ap_sipush (v := 150) dX5_append_4 (by decide) ?_
  refine ap_icmp_ge (tgt := 31) dX5_append_7 (by decide) (fun hc1 => ?_) (fun hc1 => ?_)
  · rw [if_pos hc1] at h
    refine ap_aload_n dX5_append_31 0 rfl rfl ?_
    refine ap_get (v := .int (w.1 51 1)) fl_X5_18 ly_51 rfl rfl dX5_append_32 ?_
    obtain ⟨rfl, rfl⟩ := Prod.mk.inj (Option.some.inj h)
    exact ap_iret rfl dX5_append_35
  · rw [if_neg hc1] at h
    refine ap_aload_n dX5_append_10 0 rfl rfl ?_
    refine ap_get (v := .ref (K.1 52)) fl_X5_22 ly_51 rfl rfl dX5_append_11 ?_
    refine ap_aload_n dX5_append_14 0 rfl rfl ?_
    refine ap_get (v := .int (w.1 51 1)) fl_X5_18 ly_51 rfl rfl dX5_append_15 ?_
    refine ap_iload_n dX5_append_18 1 rfl rfl ?_
    refine ap_i2b (v := x1.toInt8.toInt32) dX5_append_19 rfl ?_
    obtain ⟨m2, hm2, h⟩ := Option.bind_eq_some_iff.mp h
    refine ap_bast ly_52 hm2 dX5_append_20 ?_
    refine ap_aload_n dX5_append_21 0 rfl rfl ?_
    refine ap_dup dX5_append_22 rfl ?_
    refine ap_get (v := .int (m2.1 51 1)) fl_X5_18 ly_51 rfl rfl dX5_append_23 ?_
    refine ap_iconst (v := 1) dX5_append_26 (by decide) ?_
    refine ap_iadd dX5_append_27 ?_
    obtain ⟨m3, hm3, h⟩ := Option.bind_eq_some_iff.mp h
    refine ap_putI fp_X5_18 ly_51 rfl (Option.some.inj hm3) dX5_append_28 ?_
    refine ap_aload_n dX5_append_31 0 rfl rfl ?_
    refine ap_get (v := .int (m3.1 51 1)) fl_X5_18 ly_51 rfl rfl dX5_append_32 ?_
    obtain ⟨rfl, rfl⟩ := Prod.mk.inj (Option.some.inj h)
    exact ap_iret rfl dX5_append_35
theorem mcX5_append {l : Launch} {K : Kt}  {w : Mm} {x1 : Int32} {zx : Int32} {zw : Mm} (h : fX5_append w x1 = some (zx, zw)) : MC l K yX5_append cX5_append 2 (some .int) rmX5_append w [.ref (K.1 51), .int x1] (some (.int zx)) zw :=
  MC.of (by decide) (Nat.le_of_ble_eq_true rfl) rfl (AX5_append  h)
def fX5_isFigure_L16  : Int32 :=
(0 : Int32)
set_option maxRecDepth 100000 in
set_option maxHeartbeats 4000000 in
theorem AX5_isFigure_L16 {l : Launch} {K : Kt} {w : Mm}   {zx : Int32} (h : fX5_isFigure_L16 = zx) : AW l K cX5_isFigure RX5 1 (some .boolean) rmX5_isFigure 0 0 ap_E (ap_F K (some (.int zx)) w) w 16 [] [] := by
  unfold fX5_isFigure_L16 at h
  refine ap_iconst (v := 0) dX5_isFigure_16 (by decide) ?_
  subst h
  exact ap_zret rfl (Or.inl rfl) dX5_isFigure_17
def fX5_isFigure (x0 : Int32) : Int32 :=
if x0 < (48 : Int32) then (
fX5_isFigure_L16)
else (
if (57 : Int32) < x0 then (
fX5_isFigure_L16)
else (
(1 : Int32)))
set_option maxRecDepth 100000 in
set_option maxHeartbeats 4000000 in
theorem AX5_isFigure {l : Launch} {K : Kt} {w : Mm}  {x0 : Int32} {zx : Int32} (h : fX5_isFigure x0 = zx) : AW l K cX5_isFigure RX5 1 (some .boolean) rmX5_isFigure 0 0 ap_E (ap_F K (some (.int zx)) w) w 0 [(0, .int x0)] [] := by
  unfold fX5_isFigure at h
  refine ap_iload_n dX5_isFigure_0 0 rfl rfl ?_
  refine ap_bipush (v := 48) dX5_isFigure_1 (by decide) ?_
  refine ap_icmp_lt (tgt := 16) dX5_isFigure_3 (by decide) (fun hc1 => ?_) (fun hc1 => ?_)
  · rw [if_pos hc1] at h
    refine ap_sub [] rfl ?_
    exact AX5_isFigure_L16   h
  · rw [if_neg hc1] at h
    refine ap_iload_n dX5_isFigure_6 0 rfl rfl ?_
    refine ap_bipush (v := 57) dX5_isFigure_7 (by decide) ?_
    refine ap_icmp_gt (tgt := 16) dX5_isFigure_9 (by decide) (fun hc2 => ?_) (fun hc2 => ?_)
    · rw [if_pos hc2] at h
      refine ap_sub [] rfl ?_
      exact AX5_isFigure_L16   h
    · rw [if_neg hc2] at h
      refine ap_iconst (v := 1) dX5_isFigure_12 (by decide) ?_
      refine ap_goto (tgt := 17) dX5_isFigure_13 (by decide) ?_
      subst h
      exact ap_zret rfl (Or.inr rfl) dX5_isFigure_17
theorem mcX5_isFigure {l : Launch} {K : Kt} {w : Mm}  {x0 : Int32} {zx : Int32} (h : fX5_isFigure x0 = zx) : MC l K yX5_isFigure cX5_isFigure 1 (some .boolean) rmX5_isFigure w [.int x0] (some (.int zx)) w :=
  MC.of (by decide) (Nat.le_of_ble_eq_true rfl) rfl (AX5_isFigure  h)
def fX5_isLetter_L16  : Int32 :=
(0 : Int32)
set_option maxRecDepth 100000 in
set_option maxHeartbeats 4000000 in
theorem AX5_isLetter_L16 {l : Launch} {K : Kt} {w : Mm}   {zx : Int32} (h : fX5_isLetter_L16 = zx) : AW l K cX5_isLetter RX5 1 (some .boolean) rmX5_isLetter 0 0 ap_E (ap_F K (some (.int zx)) w) w 16 [] [] := by
  unfold fX5_isLetter_L16 at h
  refine ap_iconst (v := 0) dX5_isLetter_16 (by decide) ?_
  subst h
  exact ap_zret rfl (Or.inl rfl) dX5_isLetter_17
def fX5_isLetter (x0 : Int32) : Int32 :=
if x0 < (97 : Int32) then (
fX5_isLetter_L16)
else (
if (122 : Int32) < x0 then (
fX5_isLetter_L16)
else (
(1 : Int32)))
set_option maxRecDepth 100000 in
set_option maxHeartbeats 4000000 in
theorem AX5_isLetter {l : Launch} {K : Kt} {w : Mm}  {x0 : Int32} {zx : Int32} (h : fX5_isLetter x0 = zx) : AW l K cX5_isLetter RX5 1 (some .boolean) rmX5_isLetter 0 0 ap_E (ap_F K (some (.int zx)) w) w 0 [(0, .int x0)] [] := by
  unfold fX5_isLetter at h
  refine ap_iload_n dX5_isLetter_0 0 rfl rfl ?_
  refine ap_bipush (v := 97) dX5_isLetter_1 (by decide) ?_
  refine ap_icmp_lt (tgt := 16) dX5_isLetter_3 (by decide) (fun hc1 => ?_) (fun hc1 => ?_)
  · rw [if_pos hc1] at h
    refine ap_sub [] rfl ?_
    exact AX5_isLetter_L16   h
  · rw [if_neg hc1] at h
    refine ap_iload_n dX5_isLetter_6 0 rfl rfl ?_
    refine ap_bipush (v := 122) dX5_isLetter_7 (by decide) ?_
    refine ap_icmp_gt (tgt := 16) dX5_isLetter_9 (by decide) (fun hc2 => ?_) (fun hc2 => ?_)
    · rw [if_pos hc2] at h
      refine ap_sub [] rfl ?_
      exact AX5_isLetter_L16   h
    · rw [if_neg hc2] at h
      refine ap_iconst (v := 1) dX5_isLetter_12 (by decide) ?_
      refine ap_goto (tgt := 17) dX5_isLetter_13 (by decide) ?_
      subst h
      exact ap_zret rfl (Or.inr rfl) dX5_isLetter_17
theorem mcX5_isLetter {l : Launch} {K : Kt} {w : Mm}  {x0 : Int32} {zx : Int32} (h : fX5_isLetter x0 = zx) : MC l K yX5_isLetter cX5_isLetter 1 (some .boolean) rmX5_isLetter w [.int x0] (some (.int zx)) w :=
  MC.of (by decide) (Nat.le_of_ble_eq_true rfl) rfl (AX5_isLetter  h)
def fX5_advance_L249 (N : Nat) (w : Mm) (t0 : Int32) : Option Mm :=
Option.bind (some (sI w 51 4 t0)) fun m28 =>
Option.bind (some (sI m28 51 3 ((m28.1 51 3) + (1 : Int32)))) fun m29 =>
some m29
set_option maxRecDepth 100000 in
set_option maxHeartbeats 4000000 in
theorem AX5_advance_L249 {l : Launch} {K : Kt} {N : Nat}   {w : Mm} {t0 : Int32} {zw : Mm} (h : fX5_advance_L249 N w t0 = some zw) : AW l K cX5_advance RX5 1 none rmX5_advance 0 0 ap_E (ap_F K none zw) w 249 [(0, .ref (K.1 51))] [.int t0, .ref (K.1 51)] := by
  unfold fX5_advance_L249 at h
  obtain ⟨m28, hm28, h⟩ := Option.bind_eq_some_iff.mp h
  refine ap_putI fp_X5_29 ly_51 rfl (Option.some.inj hm28) dX5_advance_249 ?_
  refine ap_aload_n dX5_advance_252 0 rfl rfl ?_
  refine ap_dup dX5_advance_253 rfl ?_
  refine ap_get (v := .int (m28.1 51 3)) fl_X5_26 ly_51 rfl rfl dX5_advance_254 ?_
  refine ap_iconst (v := 1) dX5_advance_257 (by decide) ?_
  refine ap_iadd dX5_advance_258 ?_
  obtain ⟨m29, hm29, h⟩ := Option.bind_eq_some_iff.mp h
  refine ap_putI fp_X5_26 ly_51 rfl (Option.some.inj hm29) dX5_advance_259 ?_
  obtain rfl := Option.some.inj h
  exact ap_vret rfl dX5_advance_262
def fX5_advance_L213 (N : Nat) (k149 : Mm → Option Mm) (w : Mm) (t0 : Int32) : Option Mm :=
Option.bind (some (sI w 51 6 t0)) fun m26 =>
Option.bind (some (sI m26 51 3 ((m26.1 51 3) + (1 : Int32)))) fun m27 =>
k149 m27
set_option maxRecDepth 100000 in
set_option maxHeartbeats 4000000 in
theorem AX5_advance_L213 {l : Launch} {K : Kt} {N : Nat} {k149 : Mm → Option Mm} (hk149 : ∀ (w : Mm) (zw : Mm), k149 w = some zw → AW l K cX5_advance RX5 1 none rmX5_advance 0 0 ap_E (ap_F K none zw) w 149 [(0, .ref (K.1 51))] [])  {w : Mm} {t0 : Int32} {zw : Mm} (h : fX5_advance_L213 N k149 w t0 = some zw) : AW l K cX5_advance RX5 1 none rmX5_advance 0 0 ap_E (ap_F K none zw) w 213 [(0, .ref (K.1 51))] [.int t0, .ref (K.1 51)] := by
  unfold fX5_advance_L213 at h
  obtain ⟨m26, hm26, h⟩ := Option.bind_eq_some_iff.mp h
  refine ap_putI fp_X5_35 ly_51 rfl (Option.some.inj hm26) dX5_advance_213 ?_
  refine ap_aload_n dX5_advance_216 0 rfl rfl ?_
  refine ap_dup dX5_advance_217 rfl ?_
  refine ap_get (v := .int (m26.1 51 3)) fl_X5_26 ly_51 rfl rfl dX5_advance_218 ?_
  refine ap_iconst (v := 1) dX5_advance_221 (by decide) ?_
  refine ap_iadd dX5_advance_222 ?_
  obtain ⟨m27, hm27, h⟩ := Option.bind_eq_some_iff.mp h
  refine ap_putI fp_X5_26 ly_51 rfl (Option.some.inj hm27) dX5_advance_223 ?_
  refine ap_goto (tgt := 149) dX5_advance_226 (by decide) ?_
  exact hk149 _ _ h
def fX5_advance_L149 (N : Nat) : Nat → Mm → Option Mm
  | 0, _ => none
  | n0 + 1, w => if (w.1 51 1) ≤ (w.1 51 3) then (
some w)
else (
Option.bind (rdA w 52 150 (w.1 51 3)) fun a22 =>
if (fX5_isFigure a22) = (0 : Int32) then (
some w)
else (
if (2 : Int32) ≤ ((w.1 51 3) - (w.1 51 5)) then (
fX5_advance_L213 N (fX5_advance_L149 N n0) w (-1 : Int32))
else (
Option.bind (rdA w 52 150 (w.1 51 3)) fun a25 =>
fX5_advance_L213 N (fX5_advance_L149 N n0) w ((((10 : Int32) * (w.1 51 6)) + a25) - (48 : Int32)))))
set_option maxRecDepth 100000 in
set_option maxHeartbeats 4000000 in
theorem AX5_advance_L149 {l : Launch} {K : Kt} {N : Nat}   : ∀ (n0 : Nat) (w : Mm) {zw : Mm}, fX5_advance_L149 N n0 w = some zw → AW l K cX5_advance RX5 1 none rmX5_advance 0 0 ap_E (ap_F K none zw) w 149 [(0, .ref (K.1 51))] [] := by
  intro n0
  induction n0 with
  | zero =>
    intro w zw h
    cases h
  | succ n0 ih =>
    intro w zw h
    rw [fX5_advance_L149] at h
    refine ap_aload_n dX5_advance_149 0 rfl rfl ?_
    refine ap_get (v := .int (w.1 51 3)) fl_X5_26 ly_51 rfl rfl dX5_advance_150 ?_
    refine ap_aload_n dX5_advance_153 0 rfl rfl ?_
    refine ap_get (v := .int (w.1 51 1)) fl_X5_18 ly_51 rfl rfl dX5_advance_154 ?_
    refine ap_icmp_ge (tgt := 262) dX5_advance_157 (by decide) (fun hc21 => ?_) (fun hc21 => ?_)
    · rw [if_pos hc21] at h
      obtain rfl := Option.some.inj h
      exact ap_vret rfl dX5_advance_262
    · rw [if_neg hc21] at h
      refine ap_aload_n dX5_advance_160 0 rfl rfl ?_
      refine ap_get (v := .ref (K.1 52)) fl_X5_22 ly_51 rfl rfl dX5_advance_161 ?_
      refine ap_aload_n dX5_advance_164 0 rfl rfl ?_
      refine ap_get (v := .int (w.1 51 3)) fl_X5_26 ly_51 rfl rfl dX5_advance_165 ?_
      obtain ⟨a22, ha22, h⟩ := Option.bind_eq_some_iff.mp h
      refine ap_bald ly_52 ha22 dX5_advance_168 ?_
      refine ap_callS (As := [.int a22]) (st := []) (st1 := [.int (fX5_isFigure a22)]) (mcX5_isFigure  (w := w) (zx := fX5_isFigure a22) rfl) cs_X5_97 ⟨rfl, rfl, by decide, by decide⟩ rfl (Nat.le_of_ble_eq_true rfl) ⟨Nat.zero_le _, Nat.zero_le _⟩ dX5_advance_169 rfl rfl ?_
      refine ap_if_eq (tgt := 262) dX5_advance_172 (by decide) (fun hc23 => ?_) (fun hc23 => ?_)
      · rw [if_pos hc23] at h
        obtain rfl := Option.some.inj h
        exact ap_vret rfl dX5_advance_262
      · rw [if_neg hc23] at h
        refine ap_aload_n dX5_advance_175 0 rfl rfl ?_
        refine ap_aload_n dX5_advance_176 0 rfl rfl ?_
        refine ap_get (v := .int (w.1 51 3)) fl_X5_26 ly_51 rfl rfl dX5_advance_177 ?_
        refine ap_aload_n dX5_advance_180 0 rfl rfl ?_
        refine ap_get (v := .int (w.1 51 5)) fl_X5_32 ly_51 rfl rfl dX5_advance_181 ?_
        refine ap_isub dX5_advance_184 ?_
        refine ap_iconst (v := 2) dX5_advance_185 (by decide) ?_
        refine ap_icmp_ge (tgt := 212) dX5_advance_186 (by decide) (fun hc24 => ?_) (fun hc24 => ?_)
        · rw [if_pos hc24] at h
          refine ap_iconst (v := -1) dX5_advance_212 (by decide) ?_
          exact AX5_advance_L213 (fun q0 q1 hq => ih q0 hq)  h
        · rw [if_neg hc24] at h
          refine ap_bipush (v := 10) dX5_advance_189 (by decide) ?_
          refine ap_aload_n dX5_advance_191 0 rfl rfl ?_
          refine ap_get (v := .int (w.1 51 6)) fl_X5_35 ly_51 rfl rfl dX5_advance_192 ?_
          refine ap_imul dX5_advance_195 ?_
          refine ap_aload_n dX5_advance_196 0 rfl rfl ?_
          refine ap_get (v := .ref (K.1 52)) fl_X5_22 ly_51 rfl rfl dX5_advance_197 ?_
          refine ap_aload_n dX5_advance_200 0 rfl rfl ?_
          refine ap_get (v := .int (w.1 51 3)) fl_X5_26 ly_51 rfl rfl dX5_advance_201 ?_
          obtain ⟨a25, ha25, h⟩ := Option.bind_eq_some_iff.mp h
          refine ap_bald ly_52 ha25 dX5_advance_204 ?_
          refine ap_iadd dX5_advance_205 ?_
          refine ap_bipush (v := 48) dX5_advance_206 (by decide) ?_
          refine ap_isub dX5_advance_208 ?_
          refine ap_goto (tgt := 213) dX5_advance_209 (by decide) ?_
          exact AX5_advance_L213 (fun q0 q1 hq => ih q0 hq)  h
def fX5_advance_L85 (N : Nat) : Nat → Mm → Option Mm
  | 0, _ => none
  | n0 + 1, w => if (w.1 51 1) ≤ (w.1 51 3) then (
some w)
else (
Option.bind (rdA w 52 150 (w.1 51 3)) fun a18 =>
if (fX5_isLetter a18) = (0 : Int32) then (
some w)
else (
Option.bind (some (sI w 51 3 ((w.1 51 3) + (1 : Int32)))) fun m20 =>
(fX5_advance_L85 N n0) m20))
set_option maxRecDepth 100000 in
set_option maxHeartbeats 4000000 in
theorem AX5_advance_L85 {l : Launch} {K : Kt} {N : Nat}   : ∀ (n0 : Nat) (w : Mm) {zw : Mm}, fX5_advance_L85 N n0 w = some zw → AW l K cX5_advance RX5 1 none rmX5_advance 0 0 ap_E (ap_F K none zw) w 85 [(0, .ref (K.1 51))] [] := by
  intro n0
  induction n0 with
  | zero =>
    intro w zw h
    cases h
  | succ n0 ih =>
    intro w zw h
    rw [fX5_advance_L85] at h
    refine ap_aload_n dX5_advance_85 0 rfl rfl ?_
    refine ap_get (v := .int (w.1 51 3)) fl_X5_26 ly_51 rfl rfl dX5_advance_86 ?_
    refine ap_aload_n dX5_advance_89 0 rfl rfl ?_
    refine ap_get (v := .int (w.1 51 1)) fl_X5_18 ly_51 rfl rfl dX5_advance_90 ?_
    refine ap_icmp_ge (tgt := 262) dX5_advance_93 (by decide) (fun hc17 => ?_) (fun hc17 => ?_)
    · rw [if_pos hc17] at h
      obtain rfl := Option.some.inj h
      exact ap_vret rfl dX5_advance_262
    · rw [if_neg hc17] at h
      refine ap_aload_n dX5_advance_96 0 rfl rfl ?_
      refine ap_get (v := .ref (K.1 52)) fl_X5_22 ly_51 rfl rfl dX5_advance_97 ?_
      refine ap_aload_n dX5_advance_100 0 rfl rfl ?_
      refine ap_get (v := .int (w.1 51 3)) fl_X5_26 ly_51 rfl rfl dX5_advance_101 ?_
      obtain ⟨a18, ha18, h⟩ := Option.bind_eq_some_iff.mp h
      refine ap_bald ly_52 ha18 dX5_advance_104 ?_
      refine ap_callS (As := [.int a18]) (st := []) (st1 := [.int (fX5_isLetter a18)]) (mcX5_isLetter  (w := w) (zx := fX5_isLetter a18) rfl) cs_X5_93 ⟨rfl, rfl, by decide, by decide⟩ rfl (Nat.le_of_ble_eq_true rfl) ⟨Nat.zero_le _, Nat.zero_le _⟩ dX5_advance_105 rfl rfl ?_
      refine ap_if_eq (tgt := 262) dX5_advance_108 (by decide) (fun hc19 => ?_) (fun hc19 => ?_)
      · rw [if_pos hc19] at h
        obtain rfl := Option.some.inj h
        exact ap_vret rfl dX5_advance_262
      · rw [if_neg hc19] at h
        refine ap_aload_n dX5_advance_111 0 rfl rfl ?_
        refine ap_dup dX5_advance_112 rfl ?_
        refine ap_get (v := .int (w.1 51 3)) fl_X5_26 ly_51 rfl rfl dX5_advance_113 ?_
        refine ap_iconst (v := 1) dX5_advance_116 (by decide) ?_
        refine ap_iadd dX5_advance_117 ?_
        obtain ⟨m20, hm20, h⟩ := Option.bind_eq_some_iff.mp h
        refine ap_putI fp_X5_26 ly_51 rfl (Option.some.inj hm20) dX5_advance_118 ?_
        refine ap_goto (tgt := 85) dX5_advance_121 (by decide) ?_
        exact ih _ h
def fX5_advance_L38 (N : Nat) (w : Mm) : Option Mm :=
Option.bind (some (sI w 51 5 (w.1 51 3))) fun m5 =>
if (m5.1 51 3) < (m5.1 51 1) then (
Option.bind (rdA m5 52 150 (m5.1 51 3)) fun a7 =>
if (fX5_isLetter a7) = (0 : Int32) then (
Option.bind (rdA m5 52 150 (m5.1 51 3)) fun a9 =>
if (fX5_isFigure a9) = (0 : Int32) then (
Option.bind (rdA m5 52 150 (m5.1 51 3)) fun a11 =>
if a11 = (59 : Int32) then (
fX5_advance_L249 N m5 (3 : Int32))
else (
fX5_advance_L249 N m5 (4 : Int32)))
else (
Option.bind (some (sI m5 51 4 (2 : Int32))) fun m13 =>
Option.bind (some (sI m13 51 6 (0 : Int32))) fun m14 =>
fX5_advance_L149 N N m14))
else (
Option.bind (some (sI m5 51 4 (1 : Int32))) fun m15 =>
fX5_advance_L85 N N m15))
else (
Option.bind (some (sI m5 51 4 (0 : Int32))) fun m16 =>
some m16)
set_option maxRecDepth 100000 in
set_option maxHeartbeats 4000000 in
theorem AX5_advance_L38 {l : Launch} {K : Kt} {N : Nat}   {w : Mm} {zw : Mm} (h : fX5_advance_L38 N w = some zw) : AW l K cX5_advance RX5 1 none rmX5_advance 0 0 ap_E (ap_F K none zw) w 38 [(0, .ref (K.1 51))] [] := by
  unfold fX5_advance_L38 at h
  refine ap_aload_n dX5_advance_38 0 rfl rfl ?_
  refine ap_aload_n dX5_advance_39 0 rfl rfl ?_
  refine ap_get (v := .int (w.1 51 3)) fl_X5_26 ly_51 rfl rfl dX5_advance_40 ?_
  obtain ⟨m5, hm5, h⟩ := Option.bind_eq_some_iff.mp h
  refine ap_putI fp_X5_32 ly_51 rfl (Option.some.inj hm5) dX5_advance_43 ?_
  refine ap_aload_n dX5_advance_46 0 rfl rfl ?_
  refine ap_get (v := .int (m5.1 51 3)) fl_X5_26 ly_51 rfl rfl dX5_advance_47 ?_
  refine ap_aload_n dX5_advance_50 0 rfl rfl ?_
  refine ap_get (v := .int (m5.1 51 1)) fl_X5_18 ly_51 rfl rfl dX5_advance_51 ?_
  refine ap_icmp_lt (tgt := 65) dX5_advance_54 (by decide) (fun hc6 => ?_) (fun hc6 => ?_)
  · rw [if_pos hc6] at h
    refine ap_aload_n dX5_advance_65 0 rfl rfl ?_
    refine ap_get (v := .ref (K.1 52)) fl_X5_22 ly_51 rfl rfl dX5_advance_66 ?_
    refine ap_aload_n dX5_advance_69 0 rfl rfl ?_
    refine ap_get (v := .int (m5.1 51 3)) fl_X5_26 ly_51 rfl rfl dX5_advance_70 ?_
    obtain ⟨a7, ha7, h⟩ := Option.bind_eq_some_iff.mp h
    refine ap_bald ly_52 ha7 dX5_advance_73 ?_
    refine ap_callS (As := [.int a7]) (st := []) (st1 := [.int (fX5_isLetter a7)]) (mcX5_isLetter  (w := m5) (zx := fX5_isLetter a7) rfl) cs_X5_93 ⟨rfl, rfl, by decide, by decide⟩ rfl (Nat.le_of_ble_eq_true rfl) ⟨Nat.zero_le _, Nat.zero_le _⟩ dX5_advance_74 rfl rfl ?_
    refine ap_if_eq (tgt := 124) dX5_advance_77 (by decide) (fun hc8 => ?_) (fun hc8 => ?_)
    · rw [if_pos hc8] at h
      refine ap_aload_n dX5_advance_124 0 rfl rfl ?_
      refine ap_get (v := .ref (K.1 52)) fl_X5_22 ly_51 rfl rfl dX5_advance_125 ?_
      refine ap_aload_n dX5_advance_128 0 rfl rfl ?_
      refine ap_get (v := .int (m5.1 51 3)) fl_X5_26 ly_51 rfl rfl dX5_advance_129 ?_
      obtain ⟨a9, ha9, h⟩ := Option.bind_eq_some_iff.mp h
      refine ap_bald ly_52 ha9 dX5_advance_132 ?_
      refine ap_callS (As := [.int a9]) (st := []) (st1 := [.int (fX5_isFigure a9)]) (mcX5_isFigure  (w := m5) (zx := fX5_isFigure a9) rfl) cs_X5_97 ⟨rfl, rfl, by decide, by decide⟩ rfl (Nat.le_of_ble_eq_true rfl) ⟨Nat.zero_le _, Nat.zero_le _⟩ dX5_advance_133 rfl rfl ?_
      refine ap_if_eq (tgt := 229) dX5_advance_136 (by decide) (fun hc10 => ?_) (fun hc10 => ?_)
      · rw [if_pos hc10] at h
        refine ap_aload_n dX5_advance_229 0 rfl rfl ?_
        refine ap_aload_n dX5_advance_230 0 rfl rfl ?_
        refine ap_get (v := .ref (K.1 52)) fl_X5_22 ly_51 rfl rfl dX5_advance_231 ?_
        refine ap_aload_n dX5_advance_234 0 rfl rfl ?_
        refine ap_get (v := .int (m5.1 51 3)) fl_X5_26 ly_51 rfl rfl dX5_advance_235 ?_
        obtain ⟨a11, ha11, h⟩ := Option.bind_eq_some_iff.mp h
        refine ap_bald ly_52 ha11 dX5_advance_238 ?_
        refine ap_bipush (v := 59) dX5_advance_239 (by decide) ?_
        refine ap_icmp_ne (tgt := 248) dX5_advance_241 (by decide) (fun hc12 => ?_) (fun hc12 => ?_)
        · rw [if_neg hc12] at h
          refine ap_iconst (v := 4) dX5_advance_248 (by decide) ?_
          exact AX5_advance_L249   h
        · rw [if_pos hc12] at h
          refine ap_iconst (v := 3) dX5_advance_244 (by decide) ?_
          refine ap_goto (tgt := 249) dX5_advance_245 (by decide) ?_
          exact AX5_advance_L249   h
      · rw [if_neg hc10] at h
        refine ap_aload_n dX5_advance_139 0 rfl rfl ?_
        refine ap_iconst (v := 2) dX5_advance_140 (by decide) ?_
        obtain ⟨m13, hm13, h⟩ := Option.bind_eq_some_iff.mp h
        refine ap_putI fp_X5_29 ly_51 rfl (Option.some.inj hm13) dX5_advance_141 ?_
        refine ap_aload_n dX5_advance_144 0 rfl rfl ?_
        refine ap_iconst (v := 0) dX5_advance_145 (by decide) ?_
        obtain ⟨m14, hm14, h⟩ := Option.bind_eq_some_iff.mp h
        refine ap_putI fp_X5_35 ly_51 rfl (Option.some.inj hm14) dX5_advance_146 ?_
        exact AX5_advance_L149  N _ h
    · rw [if_neg hc8] at h
      refine ap_aload_n dX5_advance_80 0 rfl rfl ?_
      refine ap_iconst (v := 1) dX5_advance_81 (by decide) ?_
      obtain ⟨m15, hm15, h⟩ := Option.bind_eq_some_iff.mp h
      refine ap_putI fp_X5_29 ly_51 rfl (Option.some.inj hm15) dX5_advance_82 ?_
      exact AX5_advance_L85  N _ h
  · rw [if_neg hc6] at h
    refine ap_aload_n dX5_advance_57 0 rfl rfl ?_
    refine ap_iconst (v := 0) dX5_advance_58 (by decide) ?_
    obtain ⟨m16, hm16, h⟩ := Option.bind_eq_some_iff.mp h
    refine ap_putI fp_X5_29 ly_51 rfl (Option.some.inj hm16) dX5_advance_59 ?_
    refine ap_goto (tgt := 262) dX5_advance_62 (by decide) ?_
    obtain rfl := Option.some.inj h
    exact ap_vret rfl dX5_advance_262
def fX5_advance_L0 (N : Nat) : Nat → Mm → Option Mm
  | 0, _ => none
  | n0 + 1, w => if (w.1 51 1) ≤ (w.1 51 3) then (
fX5_advance_L38 N w)
else (
Option.bind (rdA w 52 150 (w.1 51 3)) fun a2 =>
if a2 = (32 : Int32) then (
Option.bind (some (sI w 51 3 ((w.1 51 3) + (1 : Int32)))) fun m4 =>
(fX5_advance_L0 N n0) m4)
else (
fX5_advance_L38 N w))
set_option maxRecDepth 100000 in
set_option maxHeartbeats 4000000 in
theorem AX5_advance_L0 {l : Launch} {K : Kt} {N : Nat}   : ∀ (n0 : Nat) (w : Mm) {zw : Mm}, fX5_advance_L0 N n0 w = some zw → AW l K cX5_advance RX5 1 none rmX5_advance 0 0 ap_E (ap_F K none zw) w 0 [(0, .ref (K.1 51))] [] := by
  intro n0
  induction n0 with
  | zero =>
    intro w zw h
    cases h
  | succ n0 ih =>
    intro w zw h
    rw [fX5_advance_L0] at h
    refine ap_aload_n dX5_advance_0 0 rfl rfl ?_
    refine ap_get (v := .int (w.1 51 3)) fl_X5_26 ly_51 rfl rfl dX5_advance_1 ?_
    refine ap_aload_n dX5_advance_4 0 rfl rfl ?_
    refine ap_get (v := .int (w.1 51 1)) fl_X5_18 ly_51 rfl rfl dX5_advance_5 ?_
    refine ap_icmp_ge (tgt := 38) dX5_advance_8 (by decide) (fun hc1 => ?_) (fun hc1 => ?_)
    · rw [if_pos hc1] at h
      exact AX5_advance_L38   h
    · rw [if_neg hc1] at h
      refine ap_aload_n dX5_advance_11 0 rfl rfl ?_
      refine ap_get (v := .ref (K.1 52)) fl_X5_22 ly_51 rfl rfl dX5_advance_12 ?_
      refine ap_aload_n dX5_advance_15 0 rfl rfl ?_
      refine ap_get (v := .int (w.1 51 3)) fl_X5_26 ly_51 rfl rfl dX5_advance_16 ?_
      obtain ⟨a2, ha2, h⟩ := Option.bind_eq_some_iff.mp h
      refine ap_bald ly_52 ha2 dX5_advance_19 ?_
      refine ap_bipush (v := 32) dX5_advance_20 (by decide) ?_
      refine ap_icmp_ne (tgt := 38) dX5_advance_22 (by decide) (fun hc3 => ?_) (fun hc3 => ?_)
      · rw [if_neg hc3] at h
        exact AX5_advance_L38   h
      · rw [if_pos hc3] at h
        refine ap_aload_n dX5_advance_25 0 rfl rfl ?_
        refine ap_dup dX5_advance_26 rfl ?_
        refine ap_get (v := .int (w.1 51 3)) fl_X5_26 ly_51 rfl rfl dX5_advance_27 ?_
        refine ap_iconst (v := 1) dX5_advance_30 (by decide) ?_
        refine ap_iadd dX5_advance_31 ?_
        obtain ⟨m4, hm4, h⟩ := Option.bind_eq_some_iff.mp h
        refine ap_putI fp_X5_26 ly_51 rfl (Option.some.inj hm4) dX5_advance_32 ?_
        refine ap_goto (tgt := 0) dX5_advance_35 (by decide) ?_
        exact ih _ h
def fX5_advance (N : Nat) (w : Mm) : Option Mm :=
fX5_advance_L0 N N w
set_option maxRecDepth 100000 in
set_option maxHeartbeats 4000000 in
theorem AX5_advance {l : Launch} {K : Kt} {N : Nat}  {w : Mm} {zw : Mm} (h : fX5_advance N w = some zw) : AW l K cX5_advance RX5 1 none rmX5_advance 0 0 ap_E (ap_F K none zw) w 0 [(0, .ref (K.1 51))] [] := by
  unfold fX5_advance at h
  exact AX5_advance_L0  N _ h
theorem mcX5_advance {l : Launch} {K : Kt} {N : Nat}  {w : Mm} {zw : Mm} (h : fX5_advance N w = some zw) : MC l K yX5_advance cX5_advance 1 none rmX5_advance w [.ref (K.1 51)] none zw :=
  MC.of (by decide) (Nat.le_of_ble_eq_true rfl) rfl (AX5_advance  h)
def fX5_spells_L20 (i : Nat) (w : Mm) : Nat → Int32 → Option Int32
  | 0, _ => none
  | n0 + 1, x2 => if Int32.ofNat (stL i) ≤ x2 then some 1 else
    Option.bind (rdA w 52 150 (w.1 51 5 + x2)) fun a1 =>
    Option.bind (stC i x2) fun a2 =>
    if a1 = a2 then fX5_spells_L20 i w n0 (x2 + 1) else some 0
def fX5_spells (N : Nat) (i : Nat) (w : Mm) : Option Int32 :=
  if w.1 51 3 - w.1 51 5 = Int32.ofNat (stL i) then fX5_spells_L20 i w N 0 else some 0
set_option maxRecDepth 100000 in
set_option maxHeartbeats 4000000 in
theorem AX5_spells_L20 {l : Launch} {K : Kt} {i : Nat} (hi : i < 3) {w : Mm} : ∀ (n0 : Nat) (x2 : Int32) {zx : Int32}, fX5_spells_L20 i w n0 x2 = some zx → AW l K cX5_spells RX5 3 (some .boolean) rmX5_spells 0 0 ap_E (ap_F K (some (.int zx)) w) w 20 [(0, .ref (K.1 51)), (1, .ref (K.2.2.2.1 i)), (2, .int x2)] [] := by
  intro n0
  induction n0 with
  | zero => intro x2 zx h; cases h
  | succ n0 ih =>
    intro x2 zx h
    rw [fX5_spells_L20] at h
    refine ap_iload_n dX5_spells_20 2 rfl rfl ?_
    refine ap_aload_n dX5_spells_21 1 rfl rfl ?_
    refine ap_callT hi (As := []) (st := [.int x2]) (st1 := [.int (Int32.ofNat (stL i)), .int x2]) (mcT_le hi) cv_X5_100 ⟨rfl, rfl, by decide, by decide⟩ rfl (Nat.le_of_ble_eq_true rfl) ⟨Nat.zero_le _, Nat.zero_le _⟩ dX5_spells_22 rfl rfl ?_
    refine ap_icmp_ge (tgt := 55) dX5_spells_25 (by decide) (fun hc => ?_) (fun hc => ?_)
    · rw [if_pos hc] at h
      obtain rfl := Option.some.inj h
      refine ap_iconst (v := 1) dX5_spells_55 (by decide) ?_
      exact ap_zret rfl (Or.inr rfl) dX5_spells_56
    · rw [if_neg hc] at h
      obtain ⟨a1, ha1, h⟩ := Option.bind_eq_some_iff.mp h
      obtain ⟨a2, ha2, h⟩ := Option.bind_eq_some_iff.mp h
      refine ap_aload_n dX5_spells_28 0 rfl rfl ?_
      refine ap_get (v := .ref (K.1 52)) fl_X5_22 ly_51 rfl rfl dX5_spells_29 ?_
      refine ap_aload_n dX5_spells_32 0 rfl rfl ?_
      refine ap_get (v := .int (w.1 51 5)) fl_X5_32 ly_51 rfl rfl dX5_spells_33 ?_
      refine ap_iload_n dX5_spells_36 2 rfl rfl ?_
      refine ap_iadd dX5_spells_37 ?_
      refine ap_bald ly_52 ha1 dX5_spells_38 ?_
      refine ap_aload_n dX5_spells_39 1 rfl rfl ?_
      refine ap_iload_n dX5_spells_40 2 rfl rfl ?_
      refine ap_callT hi (As := [.int x2]) (st := [.int a1]) (st1 := [.int a2, .int a1]) (mcT_ch hi ha2) cv_X5_105 ⟨rfl, rfl, by decide, by decide⟩ rfl (Nat.le_of_ble_eq_true rfl) ⟨Nat.zero_le _, Nat.zero_le _⟩ dX5_spells_41 rfl rfl ?_
      refine ap_icmp_eq (tgt := 49) dX5_spells_44 (by decide) (fun hc2 => ?_) (fun hc2 => ?_)
      · rw [if_pos hc2] at h
        refine ap_iinc (v := x2 + 1) (lv' := [(2, .int (x2 + 1)), (0, .ref (K.1 51)), (1, .ref (K.2.2.2.1 i))]) dX5_spells_49 2 rfl rfl (by decide) rfl ?_
        refine ap_goto (tgt := 20) dX5_spells_52 (by decide) ?_
        refine ap_sub [1, 2, 0] rfl ?_
        exact ih _ h
      · rw [if_neg hc2] at h
        obtain rfl := Option.some.inj h
        refine ap_iconst (v := 0) dX5_spells_47 (by decide) ?_
        exact ap_zret rfl (Or.inl rfl) dX5_spells_48
set_option maxRecDepth 100000 in
set_option maxHeartbeats 4000000 in
theorem mcX5_spells {l : Launch} {K : Kt} {N i : Nat} (hi : i < 3) {w : Mm} {zx : Int32} (h : fX5_spells N i w = some zx) : MC l K yX5_spells cX5_spells 3 (some .boolean) rmX5_spells w [.ref (K.1 51), .ref (K.2.2.2.1 i)] (some (.int zx)) w := by
  unfold fX5_spells at h
  refine MC.of (lv := [(0, .ref (K.1 51)), (1, .ref (K.2.2.2.1 i))]) (by decide) (Nat.le_of_ble_eq_true rfl) rfl ?_
  refine ap_aload_n dX5_spells_0 0 rfl rfl ?_
  refine ap_get (v := .int (w.1 51 3)) fl_X5_26 ly_51 rfl rfl dX5_spells_1 ?_
  refine ap_aload_n dX5_spells_4 0 rfl rfl ?_
  refine ap_get (v := .int (w.1 51 5)) fl_X5_32 ly_51 rfl rfl dX5_spells_5 ?_
  refine ap_isub dX5_spells_8 ?_
  refine ap_aload_n dX5_spells_9 1 rfl rfl ?_
  refine ap_callT hi (As := []) (st := [.int (w.1 51 3 - w.1 51 5)]) (st1 := [.int (Int32.ofNat (stL i)), .int (w.1 51 3 - w.1 51 5)]) (mcT_le hi) cv_X5_100 ⟨rfl, rfl, by decide, by decide⟩ rfl (Nat.le_of_ble_eq_true rfl) ⟨Nat.zero_le _, Nat.zero_le _⟩ dX5_spells_10 rfl rfl ?_
  refine ap_icmp_eq (tgt := 18) dX5_spells_13 (by decide) (fun hc => ?_) (fun hc => ?_)
  · rw [if_pos hc] at h
    refine ap_iconst (v := 0) dX5_spells_18 (by decide) ?_
    refine ap_istore_n (i := 2) (lv' := [(2, .int 0), (0, .ref (K.1 51)), (1, .ref (K.2.2.2.1 i))]) dX5_spells_19 rfl (by decide) rfl ?_
    refine ap_sub [1, 2, 0] rfl ?_
    exact AX5_spells_L20 hi N 0 h
  · rw [if_neg hc] at h
    obtain rfl := Option.some.inj h
    refine ap_iconst (v := 0) dX5_spells_16 (by decide) ?_
    exact ap_zret rfl (Or.inl rfl) dX5_spells_17

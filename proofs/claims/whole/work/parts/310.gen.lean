def fX12_spite_L39 (N : Nat) (w : Mm) : Option (Int32 × Mm) :=
ob2 (some (fX12_bad w (-2 : Int32))) fun a15 m16 =>
some (a15, m16)
set_option maxRecDepth 100000 in
set_option maxHeartbeats 4000000 in
theorem AX12_spite_L39 {l : Launch} {K : Kt} {N : Nat}   {w : Mm} {zx : Int32} {zw : Mm} (h : fX12_spite_L39 N w = some (zx, zw)) : AW l K cX12_spite RX12 8 (some .int) rmX12_spite 0 0 ap_E (ap_F K (some (.int zx)) zw) w 39 [(0, .ref (K.1 77))] [] := by
  unfold fX12_spite_L39 at h
  refine ap_aload_n dX12_spite_39 0 rfl rfl ?_
  refine ap_bipush (v := -2) dX12_spite_40 (by decide) ?_
  obtain ⟨a15, m16, ha15, h⟩ := ob2_iff h
  refine ap_callV (k := 77) (As := [.int (-2 : Int32)]) (st := []) (st1 := [.int a15]) (mcX12_bad  (Option.some.inj ha15)) cv_X12_75 rfl ly_77 ⟨rfl, rfl, by decide, by decide⟩ rfl (Nat.le_of_ble_eq_true rfl) ⟨Nat.zero_le _, Nat.zero_le _⟩ dX12_spite_42 rfl rfl ?_
  obtain ⟨rfl, rfl⟩ := Prod.mk.inj (Option.some.inj h)
  exact ap_iret rfl dX12_spite_45
def fX12_spite_L110 (N : Nat) (k61 : Mm → Int32 → Int32 → Option (Int32 × Mm)) (w : Mm) (x5 : Int32) (x6 : Int32) (t0 : Int32) : Option (Int32 × Mm) :=
if t0 = (0 : Int32) then (
k61 w (x5 ||| (0 : Int32)) (x6 + 1))
else (
k61 w (x5 ||| ((1 : Int32) <<< (x6 &&& 31))) (x6 + 1))
set_option maxRecDepth 100000 in
set_option maxHeartbeats 4000000 in
theorem AX12_spite_L110 {l : Launch} {K : Kt} {N : Nat} {k61 : Mm → Int32 → Int32 → Option (Int32 × Mm)} (hk61 : ∀ (w : Mm) (x5 : Int32) (x6 : Int32) (zx : Int32) (zw : Mm), k61 w x5 x6 = some (zx, zw) → AW l K cX12_spite RX12 8 (some .int) rmX12_spite 0 0 ap_E (ap_F K (some (.int zx)) zw) w 61 [(0, .ref (K.1 77)), (5, .int x5), (6, .int x6)] [])  {w : Mm} {x5 : Int32} {x6 : Int32} {t0 : Int32} {zx : Int32} {zw : Mm} (h : fX12_spite_L110 N k61 w x5 x6 t0 = some (zx, zw)) : AW l K cX12_spite RX12 8 (some .int) rmX12_spite 0 0 ap_E (ap_F K (some (.int zx)) zw) w 110 [(0, .ref (K.1 77)), (5, .int x5), (6, .int x6)] [.int t0] := by
  unfold fX12_spite_L110 at h
  refine ap_istore (i := 7) (lv' := [(7, .int t0), (0, .ref (K.1 77)), (5, .int x5), (6, .int x6)]) dX12_spite_110 (by decide) rfl ?_
  refine ap_iload dX12_spite_112 2 rfl ?_
  refine ap_iload dX12_spite_114 0 rfl ?_
  refine ap_if_eq (tgt := 126) dX12_spite_116 (by decide) (fun hc14 => ?_) (fun hc14 => ?_)
  · rw [if_pos hc14] at h
    refine ap_iconst (v := 0) dX12_spite_126 (by decide) ?_
    refine ap_ior dX12_spite_127 ?_
    refine ap_istore (i := 5) (lv' := [(5, .int (x5 ||| (0 : Int32))), (7, .int t0), (0, .ref (K.1 77)), (6, .int x6)]) dX12_spite_128 (by decide) rfl ?_
    refine ap_iinc (v := x6 + 1) (lv' := [(6, .int (x6 + 1)), (5, .int (x5 ||| (0 : Int32))), (7, .int t0), (0, .ref (K.1 77))]) dX12_spite_130 3 rfl rfl (by decide) rfl ?_
    refine ap_goto (tgt := 61) dX12_spite_133 (by decide) ?_
    refine ap_sub [3, 1, 0] rfl ?_
    exact hk61 _ _ _ _ _ h
  · rw [if_neg hc14] at h
    refine ap_iconst (v := 1) dX12_spite_119 (by decide) ?_
    refine ap_iload dX12_spite_120 3 rfl ?_
    refine ap_ishl dX12_spite_122 ?_
    refine ap_goto (tgt := 127) dX12_spite_123 (by decide) ?_
    refine ap_ior dX12_spite_127 ?_
    refine ap_istore (i := 5) (lv' := [(5, .int (x5 ||| ((1 : Int32) <<< (x6 &&& 31)))), (7, .int t0), (0, .ref (K.1 77)), (6, .int x6)]) dX12_spite_128 (by decide) rfl ?_
    refine ap_iinc (v := x6 + 1) (lv' := [(6, .int (x6 + 1)), (5, .int (x5 ||| ((1 : Int32) <<< (x6 &&& 31)))), (7, .int t0), (0, .ref (K.1 77))]) dX12_spite_130 3 rfl rfl (by decide) rfl ?_
    refine ap_goto (tgt := 61) dX12_spite_133 (by decide) ?_
    refine ap_sub [3, 1, 0] rfl ?_
    exact hk61 _ _ _ _ _ h
def fX12_spite_L109 (N : Nat) (k61 : Mm → Int32 → Int32 → Option (Int32 × Mm)) (w : Mm) (x5 : Int32) (x6 : Int32) : Option (Int32 × Mm) :=
fX12_spite_L110 N k61 w x5 x6 (0 : Int32)
set_option maxRecDepth 100000 in
set_option maxHeartbeats 4000000 in
theorem AX12_spite_L109 {l : Launch} {K : Kt} {N : Nat} {k61 : Mm → Int32 → Int32 → Option (Int32 × Mm)} (hk61 : ∀ (w : Mm) (x5 : Int32) (x6 : Int32) (zx : Int32) (zw : Mm), k61 w x5 x6 = some (zx, zw) → AW l K cX12_spite RX12 8 (some .int) rmX12_spite 0 0 ap_E (ap_F K (some (.int zx)) zw) w 61 [(0, .ref (K.1 77)), (5, .int x5), (6, .int x6)] [])  {w : Mm} {x5 : Int32} {x6 : Int32} {zx : Int32} {zw : Mm} (h : fX12_spite_L109 N k61 w x5 x6 = some (zx, zw)) : AW l K cX12_spite RX12 8 (some .int) rmX12_spite 0 0 ap_E (ap_F K (some (.int zx)) zw) w 109 [(0, .ref (K.1 77)), (5, .int x5), (6, .int x6)] [] := by
  unfold fX12_spite_L109 at h
  refine ap_iconst (v := 0) dX12_spite_109 (by decide) ?_
  exact AX12_spite_L110 hk61  h
def fX12_spite_L61 (N : Nat) : Nat → Mm → Int32 → Int32 → Option (Int32 × Mm)
  | 0, _, _, _ => none
  | n0 + 1, w, x5, x6 => if (4 : Int32) ≤ x6 then (
some (x5, w))
else (
Option.bind (rdA w 85 4 x6) fun a8 =>
Option.bind (rdA w 85 4 (x6 ^^^ (1 : Int32))) fun a9 =>
if a8 < a9 then (
fX12_spite_L109 N (fX12_spite_L61 N n0) w x5 x6)
else (
Option.bind (rdA w 86 4 x6) fun a11 =>
Option.bind (rdA w 86 4 (x6 ^^^ (2 : Int32))) fun a12 =>
if a11 < a12 then (
fX12_spite_L109 N (fX12_spite_L61 N n0) w x5 x6)
else (
fX12_spite_L110 N (fX12_spite_L61 N n0) w x5 x6 (1 : Int32))))
set_option maxRecDepth 100000 in
set_option maxHeartbeats 4000000 in
theorem AX12_spite_L61 {l : Launch} {K : Kt} {N : Nat}   : ∀ (n0 : Nat) (w : Mm) (x5 : Int32) (x6 : Int32) {zx : Int32} {zw : Mm}, fX12_spite_L61 N n0 w x5 x6 = some (zx, zw) → AW l K cX12_spite RX12 8 (some .int) rmX12_spite 0 0 ap_E (ap_F K (some (.int zx)) zw) w 61 [(0, .ref (K.1 77)), (5, .int x5), (6, .int x6)] [] := by
  intro n0
  induction n0 with
  | zero =>
    intro w x5 x6 zx zw h
    cases h
  | succ n0 ih =>
    intro w x5 x6 zx zw h
    rw [fX12_spite_L61] at h
    refine ap_iload dX12_spite_61 2 rfl ?_
    refine ap_iconst (v := 4) dX12_spite_63 (by decide) ?_
    refine ap_icmp_ge (tgt := 136) dX12_spite_64 (by decide) (fun hc7 => ?_) (fun hc7 => ?_)
    · rw [if_pos hc7] at h
      refine ap_iload dX12_spite_136 1 rfl ?_
      obtain ⟨rfl, rfl⟩ := Prod.mk.inj (Option.some.inj h)
      exact ap_iret rfl dX12_spite_138
    · rw [if_neg hc7] at h
      refine ap_aload_n dX12_spite_67 0 rfl rfl ?_
      refine ap_get (v := .ref (K.1 85)) fl_X12_36 ly_77 rfl rfl dX12_spite_68 ?_
      refine ap_iload dX12_spite_71 2 rfl ?_
      obtain ⟨a8, ha8, h⟩ := Option.bind_eq_some_iff.mp h
      refine ap_iald ly_85 ha8 dX12_spite_73 ?_
      refine ap_aload_n dX12_spite_74 0 rfl rfl ?_
      refine ap_get (v := .ref (K.1 85)) fl_X12_36 ly_77 rfl rfl dX12_spite_75 ?_
      refine ap_iload dX12_spite_78 2 rfl ?_
      refine ap_iconst (v := 1) dX12_spite_80 (by decide) ?_
      refine ap_ixor dX12_spite_81 ?_
      obtain ⟨a9, ha9, h⟩ := Option.bind_eq_some_iff.mp h
      refine ap_iald ly_85 ha9 dX12_spite_82 ?_
      refine ap_icmp_lt (tgt := 109) dX12_spite_83 (by decide) (fun hc10 => ?_) (fun hc10 => ?_)
      · rw [if_pos hc10] at h
        exact AX12_spite_L109 (fun q0 q1 q2 q3 q4 hq => ih q0 q1 q2 hq)  h
      · rw [if_neg hc10] at h
        refine ap_aload_n dX12_spite_86 0 rfl rfl ?_
        refine ap_get (v := .ref (K.1 86)) fl_X12_39 ly_77 rfl rfl dX12_spite_87 ?_
        refine ap_iload dX12_spite_90 2 rfl ?_
        obtain ⟨a11, ha11, h⟩ := Option.bind_eq_some_iff.mp h
        refine ap_iald ly_86 ha11 dX12_spite_92 ?_
        refine ap_aload_n dX12_spite_93 0 rfl rfl ?_
        refine ap_get (v := .ref (K.1 86)) fl_X12_39 ly_77 rfl rfl dX12_spite_94 ?_
        refine ap_iload dX12_spite_97 2 rfl ?_
        refine ap_iconst (v := 2) dX12_spite_99 (by decide) ?_
        refine ap_ixor dX12_spite_100 ?_
        obtain ⟨a12, ha12, h⟩ := Option.bind_eq_some_iff.mp h
        refine ap_iald ly_86 ha12 dX12_spite_101 ?_
        refine ap_icmp_lt (tgt := 109) dX12_spite_102 (by decide) (fun hc13 => ?_) (fun hc13 => ?_)
        · rw [if_pos hc13] at h
          exact AX12_spite_L109 (fun q0 q1 q2 q3 q4 hq => ih q0 q1 q2 hq)  h
        · rw [if_neg hc13] at h
          refine ap_iconst (v := 1) dX12_spite_105 (by decide) ?_
          refine ap_goto (tgt := 110) dX12_spite_106 (by decide) ?_
          exact AX12_spite_L110 (fun q0 q1 q2 q3 q4 hq => ih q0 q1 q2 hq)  h
def fX12_spite (N : Nat) (w : Mm) (x1 : Int32) (x2 : Int32) (x3 : Int32) (x4 : Int32) : Option (Int32 × Mm) :=
if (fX12_isOwner x1) = (0 : Int32) then (
fX12_spite_L39 N w)
else (
if (fX12_isOwner x2) = (0 : Int32) then (
fX12_spite_L39 N w)
else (
if x1 = x2 then (
fX12_spite_L39 N w)
else (
if (fX12_isHour x3) = (0 : Int32) then (
fX12_spite_L39 N w)
else (
if (fX12_in x4.toInt64 (0 : Int64) (99 : Int64)) = (0 : Int32) then (
fX12_spite_L39 N w)
else (
Option.bind (fX12_layGets N w x1 x2 x3 x4) fun m6 =>
fX12_spite_L61 N N m6 (0 : Int32) (0 : Int32))))))
set_option maxRecDepth 100000 in
set_option maxHeartbeats 4000000 in
theorem AX12_spite {l : Launch} {K : Kt} {N : Nat}  {w : Mm} {x1 : Int32} {x2 : Int32} {x3 : Int32} {x4 : Int32} {zx : Int32} {zw : Mm} (h : fX12_spite N w x1 x2 x3 x4 = some (zx, zw)) : AW l K cX12_spite RX12 8 (some .int) rmX12_spite 0 0 ap_E (ap_F K (some (.int zx)) zw) w 0 [(0, .ref (K.1 77)), (1, .int x1), (2, .int x2), (3, .int x3), (4, .int x4)] [] := by
  unfold fX12_spite at h
  refine ap_iload_n dX12_spite_0 1 rfl rfl ?_
  refine ap_callS (As := [.int x1]) (st := []) (st1 := [.int (fX12_isOwner x1)]) (mcX12_isOwner  (w := w) (zx := fX12_isOwner x1) rfl) cs_X12_92 ⟨rfl, rfl, by decide, by decide⟩ rfl (Nat.le_of_ble_eq_true rfl) ⟨Nat.zero_le _, Nat.zero_le _⟩ dX12_spite_1 rfl rfl ?_
  refine ap_if_eq (tgt := 39) dX12_spite_4 (by decide) (fun hc1 => ?_) (fun hc1 => ?_)
  · rw [if_pos hc1] at h
    refine ap_sub [0] rfl ?_
    exact AX12_spite_L39   h
  · rw [if_neg hc1] at h
    refine ap_iload_n dX12_spite_7 2 rfl rfl ?_
    refine ap_callS (As := [.int x2]) (st := []) (st1 := [.int (fX12_isOwner x2)]) (mcX12_isOwner  (w := w) (zx := fX12_isOwner x2) rfl) cs_X12_92 ⟨rfl, rfl, by decide, by decide⟩ rfl (Nat.le_of_ble_eq_true rfl) ⟨Nat.zero_le _, Nat.zero_le _⟩ dX12_spite_8 rfl rfl ?_
    refine ap_if_eq (tgt := 39) dX12_spite_11 (by decide) (fun hc2 => ?_) (fun hc2 => ?_)
    · rw [if_pos hc2] at h
      refine ap_sub [0] rfl ?_
      exact AX12_spite_L39   h
    · rw [if_neg hc2] at h
      refine ap_iload_n dX12_spite_14 1 rfl rfl ?_
      refine ap_iload_n dX12_spite_15 2 rfl rfl ?_
      refine ap_icmp_eq (tgt := 39) dX12_spite_16 (by decide) (fun hc3 => ?_) (fun hc3 => ?_)
      · rw [if_pos hc3] at h
        refine ap_sub [0] rfl ?_
        exact AX12_spite_L39   h
      · rw [if_neg hc3] at h
        refine ap_iload_n dX12_spite_19 3 rfl rfl ?_
        refine ap_callS (As := [.int x3]) (st := []) (st1 := [.int (fX12_isHour x3)]) (mcX12_isHour  (w := w) (zx := fX12_isHour x3) rfl) cs_X12_151 ⟨rfl, rfl, by decide, by decide⟩ rfl (Nat.le_of_ble_eq_true rfl) ⟨Nat.zero_le _, Nat.zero_le _⟩ dX12_spite_20 rfl rfl ?_
        refine ap_if_eq (tgt := 39) dX12_spite_23 (by decide) (fun hc4 => ?_) (fun hc4 => ?_)
        · rw [if_pos hc4] at h
          refine ap_sub [0] rfl ?_
          exact AX12_spite_L39   h
        · rw [if_neg hc4] at h
          refine ap_iload dX12_spite_26 4 rfl ?_
          refine ap_i2l (v := x4.toInt64) dX12_spite_28 rfl ?_
          refine ap_lconst (v := 0) dX12_spite_29 (by decide) ?_
          refine ap_ldc2 (v := 99) wd_1178 dX12_spite_30 ?_
          refine ap_callS (As := [.long x4.toInt64, .long (0 : Int64), .long (99 : Int64)]) (st := []) (st1 := [.int (fX12_in x4.toInt64 (0 : Int64) (99 : Int64))]) (mcX12_in  (w := w) (zx := fX12_in x4.toInt64 (0 : Int64) (99 : Int64)) rfl) cs_X12_61 ⟨rfl, rfl, by decide, by decide⟩ rfl (Nat.le_of_ble_eq_true rfl) ⟨Nat.zero_le _, Nat.zero_le _⟩ dX12_spite_33 rfl rfl ?_
          refine ap_if_ne (tgt := 46) dX12_spite_36 (by decide) (fun hc5 => ?_) (fun hc5 => ?_)
          · rw [if_neg hc5] at h
            refine ap_aload_n dX12_spite_46 0 rfl rfl ?_
            refine ap_iload_n dX12_spite_47 1 rfl rfl ?_
            refine ap_iload_n dX12_spite_48 2 rfl rfl ?_
            refine ap_iload_n dX12_spite_49 3 rfl rfl ?_
            refine ap_iload dX12_spite_50 4 rfl ?_
            obtain ⟨m6, hm6, h⟩ := Option.bind_eq_some_iff.mp h
            refine ap_callV (k := 77) (As := [.int x1, .int x2, .int x3, .int x4]) (st := []) (st1 := []) (mcX12_layGets  hm6) cv_X12_188 rfl ly_77 ⟨rfl, rfl, by decide, by decide⟩ rfl (Nat.le_of_ble_eq_true rfl) ⟨Nat.zero_le _, Nat.zero_le _⟩ dX12_spite_52 rfl rfl ?_
            refine ap_iconst (v := 0) dX12_spite_55 (by decide) ?_
            refine ap_istore (i := 5) (lv' := [(5, .int (0 : Int32)), (0, .ref (K.1 77)), (1, .int x1), (2, .int x2), (3, .int x3), (4, .int x4)]) dX12_spite_56 (by decide) rfl ?_
            refine ap_iconst (v := 0) dX12_spite_58 (by decide) ?_
            refine ap_istore (i := 6) (lv' := [(6, .int (0 : Int32)), (5, .int (0 : Int32)), (0, .ref (K.1 77)), (1, .int x1), (2, .int x2), (3, .int x3), (4, .int x4)]) dX12_spite_59 (by decide) rfl ?_
            refine ap_sub [2, 1, 0] rfl ?_
            exact AX12_spite_L61  N _ _ _ h
          · rw [if_pos hc5] at h
            refine ap_sub [0] rfl ?_
            exact AX12_spite_L39   h
theorem mcX12_spite {l : Launch} {K : Kt} {N : Nat}  {w : Mm} {x1 : Int32} {x2 : Int32} {x3 : Int32} {x4 : Int32} {zx : Int32} {zw : Mm} (h : fX12_spite N w x1 x2 x3 x4 = some (zx, zw)) : MC l K yX12_spite cX12_spite 8 (some .int) rmX12_spite w [.ref (K.1 77), .int x1, .int x2, .int x3, .int x4] (some (.int zx)) zw :=
  MC.of (by decide) (Nat.le_of_ble_eq_true rfl) rfl (AX12_spite  h)
def fX12_reading_L26 (w : Mm) : Option (Int32 × Mm) :=
ob2 (some (fX12_bad w (-2 : Int32))) fun a11 m12 =>
some (a11, m12)
set_option maxRecDepth 100000 in
set_option maxHeartbeats 4000000 in
theorem AX12_reading_L26 {l : Launch} {K : Kt}   {w : Mm} {zx : Int32} {zw : Mm} (h : fX12_reading_L26 w = some (zx, zw)) : AW l K cX12_reading RX12 5 (some .int) rmX12_reading 0 0 ap_E (ap_F K (some (.int zx)) zw) w 26 [(0, .ref (K.1 77))] [] := by
  unfold fX12_reading_L26 at h
  refine ap_aload_n dX12_reading_26 0 rfl rfl ?_
  refine ap_bipush (v := -2) dX12_reading_27 (by decide) ?_
  obtain ⟨a11, m12, ha11, h⟩ := ob2_iff h
  refine ap_callV (k := 77) (As := [.int (-2 : Int32)]) (st := []) (st1 := [.int a11]) (mcX12_bad  (Option.some.inj ha11)) cv_X12_75 rfl ly_77 ⟨rfl, rfl, by decide, by decide⟩ rfl (Nat.le_of_ble_eq_true rfl) ⟨Nat.zero_le _, Nat.zero_le _⟩ dX12_reading_29 rfl rfl ?_
  obtain ⟨rfl, rfl⟩ := Prod.mk.inj (Option.some.inj h)
  exact ap_iret rfl dX12_reading_32
def fX12_reading (w : Mm) (x1 : Int32) (x2 : Int32) (x3 : Int32) : Option (Int32 × Mm) :=
if (fX12_isCell x1) = (0 : Int32) then (
fX12_reading_L26 w)
else (
if (fX12_isHour x2) = (0 : Int32) then (
fX12_reading_L26 w)
else (
if (fX12_in x3.toInt64 (0 : Int64) (23 : Int64)) = (0 : Int32) then (
fX12_reading_L26 w)
else (
if (w.1 78 4) = (6 : Int32) then (
ob2 (some (fX12_full w)) fun a9 m10 =>
some (a9, m10))
else (
Option.bind (wrA w 78 129 ((47 : Int32) + ((3 : Int32) * (w.1 78 4))) x1) fun m5 =>
Option.bind (wrA m5 78 129 (((47 : Int32) + ((3 : Int32) * (w.1 78 4))) + (1 : Int32)) x2) fun m6 =>
Option.bind (wrA m6 78 129 (((47 : Int32) + ((3 : Int32) * (w.1 78 4))) + (2 : Int32)) x3) fun m7 =>
Option.bind (some (sI m7 78 4 ((m7.1 78 4) + (1 : Int32)))) fun m8 =>
some ((m8.1 78 4), m8)))))
set_option maxRecDepth 100000 in
set_option maxHeartbeats 4000000 in
theorem AX12_reading {l : Launch} {K : Kt}  {w : Mm} {x1 : Int32} {x2 : Int32} {x3 : Int32} {zx : Int32} {zw : Mm} (h : fX12_reading w x1 x2 x3 = some (zx, zw)) : AW l K cX12_reading RX12 5 (some .int) rmX12_reading 0 0 ap_E (ap_F K (some (.int zx)) zw) w 0 [(0, .ref (K.1 77)), (1, .int x1), (2, .int x2), (3, .int x3)] [] := by
  unfold fX12_reading at h
  refine ap_iload_n dX12_reading_0 1 rfl rfl ?_
  refine ap_callS (As := [.int x1]) (st := []) (st1 := [.int (fX12_isCell x1)]) (mcX12_isCell  (w := w) (zx := fX12_isCell x1) rfl) cs_X12_85 ⟨rfl, rfl, by decide, by decide⟩ rfl (Nat.le_of_ble_eq_true rfl) ⟨Nat.zero_le _, Nat.zero_le _⟩ dX12_reading_1 rfl rfl ?_
  refine ap_if_eq (tgt := 26) dX12_reading_4 (by decide) (fun hc1 => ?_) (fun hc1 => ?_)
  · rw [if_pos hc1] at h
    refine ap_sub [0] rfl ?_
    exact AX12_reading_L26   h
  · rw [if_neg hc1] at h
    refine ap_iload_n dX12_reading_7 2 rfl rfl ?_
    refine ap_callS (As := [.int x2]) (st := []) (st1 := [.int (fX12_isHour x2)]) (mcX12_isHour  (w := w) (zx := fX12_isHour x2) rfl) cs_X12_151 ⟨rfl, rfl, by decide, by decide⟩ rfl (Nat.le_of_ble_eq_true rfl) ⟨Nat.zero_le _, Nat.zero_le _⟩ dX12_reading_8 rfl rfl ?_
    refine ap_if_eq (tgt := 26) dX12_reading_11 (by decide) (fun hc2 => ?_) (fun hc2 => ?_)
    · rw [if_pos hc2] at h
      refine ap_sub [0] rfl ?_
      exact AX12_reading_L26   h
    · rw [if_neg hc2] at h
      refine ap_iload_n dX12_reading_14 3 rfl rfl ?_
      refine ap_i2l (v := x3.toInt64) dX12_reading_15 rfl ?_
      refine ap_lconst (v := 0) dX12_reading_16 (by decide) ?_
      refine ap_ldc2 (v := 23) wd_1191 dX12_reading_17 ?_
      refine ap_callS (As := [.long x3.toInt64, .long (0 : Int64), .long (23 : Int64)]) (st := []) (st1 := [.int (fX12_in x3.toInt64 (0 : Int64) (23 : Int64))]) (mcX12_in  (w := w) (zx := fX12_in x3.toInt64 (0 : Int64) (23 : Int64)) rfl) cs_X12_61 ⟨rfl, rfl, by decide, by decide⟩ rfl (Nat.le_of_ble_eq_true rfl) ⟨Nat.zero_le _, Nat.zero_le _⟩ dX12_reading_20 rfl rfl ?_
      refine ap_if_ne (tgt := 33) dX12_reading_23 (by decide) (fun hc3 => ?_) (fun hc3 => ?_)
      · rw [if_neg hc3] at h
        refine ap_aload_n dX12_reading_33 0 rfl rfl ?_
        refine ap_get (v := .ref (K.1 78)) fl_X12_7 ly_77 rfl rfl dX12_reading_34 ?_
        refine ap_iconst (v := 4) dX12_reading_37 (by decide) ?_
        refine ap_iald (x := (w.1 78 4)) ly_78 (rdA_c (by decide) (by decide)) dX12_reading_38 ?_
        refine ap_bipush (v := 6) dX12_reading_39 (by decide) ?_
        refine ap_icmp_ne (tgt := 49) dX12_reading_41 (by decide) (fun hc4 => ?_) (fun hc4 => ?_)
        · rw [if_neg hc4] at h
          refine ap_bipush (v := 47) dX12_reading_49 (by decide) ?_
          refine ap_iconst (v := 3) dX12_reading_51 (by decide) ?_
          refine ap_aload_n dX12_reading_52 0 rfl rfl ?_
          refine ap_get (v := .ref (K.1 78)) fl_X12_7 ly_77 rfl rfl dX12_reading_53 ?_
          refine ap_iconst (v := 4) dX12_reading_56 (by decide) ?_
          refine ap_iald (x := (w.1 78 4)) ly_78 (rdA_c (by decide) (by decide)) dX12_reading_57 ?_
          refine ap_imul dX12_reading_58 ?_
          refine ap_iadd dX12_reading_59 ?_
          refine ap_istore (i := 4) (lv' := [(4, .int ((47 : Int32) + ((3 : Int32) * (w.1 78 4)))), (0, .ref (K.1 77)), (1, .int x1), (2, .int x2), (3, .int x3)]) dX12_reading_60 (by decide) rfl ?_
          refine ap_aload_n dX12_reading_62 1 rfl rfl ?_
          refine ap_get (v := .ref (K.1 78)) fl_X12_7 ly_77 rfl rfl dX12_reading_63 ?_
          refine ap_iload dX12_reading_66 0 rfl ?_
          refine ap_iload_n dX12_reading_68 2 rfl rfl ?_
          obtain ⟨m5, hm5, h⟩ := Option.bind_eq_some_iff.mp h
          refine ap_iast ly_78 hm5 dX12_reading_69 ?_
          refine ap_aload_n dX12_reading_70 1 rfl rfl ?_
          refine ap_get (v := .ref (K.1 78)) fl_X12_7 ly_77 rfl rfl dX12_reading_71 ?_
          refine ap_iload dX12_reading_74 0 rfl ?_
          refine ap_iconst (v := 1) dX12_reading_76 (by decide) ?_
          refine ap_iadd dX12_reading_77 ?_
          refine ap_iload_n dX12_reading_78 3 rfl rfl ?_
          obtain ⟨m6, hm6, h⟩ := Option.bind_eq_some_iff.mp h
          refine ap_iast ly_78 hm6 dX12_reading_79 ?_
          refine ap_aload_n dX12_reading_80 1 rfl rfl ?_
          refine ap_get (v := .ref (K.1 78)) fl_X12_7 ly_77 rfl rfl dX12_reading_81 ?_
          refine ap_iload dX12_reading_84 0 rfl ?_
          refine ap_iconst (v := 2) dX12_reading_86 (by decide) ?_
          refine ap_iadd dX12_reading_87 ?_
          refine ap_iload_n dX12_reading_88 4 rfl rfl ?_
          obtain ⟨m7, hm7, h⟩ := Option.bind_eq_some_iff.mp h
          refine ap_iast ly_78 hm7 dX12_reading_89 ?_
          refine ap_aload_n dX12_reading_90 1 rfl rfl ?_
          refine ap_get (v := .ref (K.1 78)) fl_X12_7 ly_77 rfl rfl dX12_reading_91 ?_
          refine ap_iconst (v := 4) dX12_reading_94 (by decide) ?_
          refine ap_dup2 dX12_reading_95 rfl rfl ?_
          refine ap_iald (x := (m7.1 78 4)) ly_78 (rdA_c (by decide) (by decide)) dX12_reading_96 ?_
          refine ap_iconst (v := 1) dX12_reading_97 (by decide) ?_
          refine ap_iadd dX12_reading_98 ?_
          obtain ⟨m8, hm8, h⟩ := Option.bind_eq_some_iff.mp h
          refine ap_iast ly_78 ((wrA_c (by decide) (by decide)).trans hm8) dX12_reading_99 ?_
          refine ap_aload_n dX12_reading_100 1 rfl rfl ?_
          refine ap_get (v := .ref (K.1 78)) fl_X12_7 ly_77 rfl rfl dX12_reading_101 ?_
          refine ap_iconst (v := 4) dX12_reading_104 (by decide) ?_
          refine ap_iald (x := (m8.1 78 4)) ly_78 (rdA_c (by decide) (by decide)) dX12_reading_105 ?_
          obtain ⟨rfl, rfl⟩ := Prod.mk.inj (Option.some.inj h)
          exact ap_iret rfl dX12_reading_106
        · rw [if_pos hc4] at h
          refine ap_aload_n dX12_reading_44 0 rfl rfl ?_
          obtain ⟨a9, m10, ha9, h⟩ := ob2_iff h
          refine ap_callV (k := 77) (As := []) (st := []) (st1 := [.int a9]) (mcX12_full  (Option.some.inj ha9)) cv_X12_97 rfl ly_77 ⟨rfl, rfl, by decide, by decide⟩ rfl (Nat.le_of_ble_eq_true rfl) ⟨Nat.zero_le _, Nat.zero_le _⟩ dX12_reading_45 rfl rfl ?_
          obtain ⟨rfl, rfl⟩ := Prod.mk.inj (Option.some.inj h)
          exact ap_iret rfl dX12_reading_48
      · rw [if_pos hc3] at h
        refine ap_sub [0] rfl ?_
        exact AX12_reading_L26   h
theorem mcX12_reading {l : Launch} {K : Kt}  {w : Mm} {x1 : Int32} {x2 : Int32} {x3 : Int32} {zx : Int32} {zw : Mm} (h : fX12_reading w x1 x2 x3 = some (zx, zw)) : MC l K yX12_reading cX12_reading 5 (some .int) rmX12_reading w [.ref (K.1 77), .int x1, .int x2, .int x3] (some (.int zx)) zw :=
  MC.of (by decide) (Nat.le_of_ble_eq_true rfl) rfl (AX12_reading  h)
def fX12_burnt (w : Mm) : (Int32 × Mm) :=
((w.1 78 4), (sI w 78 4 (0 : Int32)))
set_option maxRecDepth 100000 in
set_option maxHeartbeats 4000000 in
theorem AX12_burnt {l : Launch} {K : Kt}  {w : Mm} {zx : Int32} {zw : Mm} (h : fX12_burnt w = (zx, zw)) : AW l K cX12_burnt RX12 2 (some .int) rmX12_burnt 0 0 ap_E (ap_F K (some (.int zx)) zw) w 0 [(0, .ref (K.1 77))] [] := by
  unfold fX12_burnt at h
  refine ap_aload_n dX12_burnt_0 0 rfl rfl ?_
  refine ap_get (v := .ref (K.1 78)) fl_X12_7 ly_77 rfl rfl dX12_burnt_1 ?_
  refine ap_iconst (v := 4) dX12_burnt_4 (by decide) ?_
  refine ap_iald (x := (w.1 78 4)) ly_78 (rdA_c (by decide) (by decide)) dX12_burnt_5 ?_
  refine ap_istore_n (i := 1) (lv' := [(1, .int (w.1 78 4)), (0, .ref (K.1 77))]) dX12_burnt_6 rfl (by decide) rfl ?_
  refine ap_aload_n dX12_burnt_7 1 rfl rfl ?_
  refine ap_get (v := .ref (K.1 78)) fl_X12_7 ly_77 rfl rfl dX12_burnt_8 ?_
  refine ap_iconst (v := 4) dX12_burnt_11 (by decide) ?_
  refine ap_iconst (v := 0) dX12_burnt_12 (by decide) ?_
  refine ap_iast (w1 := sI w 78 4 (0 : Int32)) ly_78 (wrA_c (by decide) (by decide)) dX12_burnt_13 ?_
  refine ap_iload_n dX12_burnt_14 0 rfl rfl ?_
  obtain ⟨rfl, rfl⟩ := Prod.mk.inj h
  exact ap_iret rfl dX12_burnt_15
theorem mcX12_burnt {l : Launch} {K : Kt}  {w : Mm} {zx : Int32} {zw : Mm} (h : fX12_burnt w = (zx, zw)) : MC l K yX12_burnt cX12_burnt 2 (some .int) rmX12_burnt w [.ref (K.1 77)] (some (.int zx)) zw :=
  MC.of (by decide) (Nat.le_of_ble_eq_true rfl) rfl (AX12_burnt  h)
def fX12_areSo_L4 (N : Nat) (w : Mm) : Nat → Int32 → Int32 → Option Int32
  | 0, _, _ => none
  | n0 + 1, x1, x2 => if (w.1 78 4) ≤ x2 then (
Option.bind (bz x1) fun a2 =>
some a2)
else (
if x1 = (0 : Int32) then (
Option.bind (bz x1) fun a4 =>
some a4)
else (
Option.bind (rdA w 78 129 ((47 : Int32) + ((3 : Int32) * x2))) fun a5 =>
Option.bind (rdA w 78 129 (((47 : Int32) + ((3 : Int32) * x2)) + (1 : Int32))) fun a6 =>
Option.bind (fX12_lightIn N w a5 a6) fun a7 =>
Option.bind (rdA w 78 129 (((47 : Int32) + ((3 : Int32) * x2)) + (2 : Int32))) fun a8 =>
if a7 = a8 then (
(fX12_areSo_L4 N w n0) (1 : Int32) (x2 + 1))
else (
(fX12_areSo_L4 N w n0) (0 : Int32) (x2 + 1))))
set_option maxRecDepth 100000 in
set_option maxHeartbeats 4000000 in
theorem AX12_areSo_L4 {l : Launch} {K : Kt} {N : Nat} {w : Mm}   : ∀ (n0 : Nat) (x1 : Int32) (x2 : Int32) {zx : Int32}, fX12_areSo_L4 N w n0 x1 x2 = some zx → AW l K cX12_areSo RX12 4 (some .boolean) rmX12_areSo 0 0 ap_E (ap_F K (some (.int zx)) w) w 4 [(0, .ref (K.1 77)), (1, .int x1), (2, .int x2)] [] := by
  intro n0
  induction n0 with
  | zero =>
    intro x1 x2 zx h
    cases h
  | succ n0 ih =>
    intro x1 x2 zx h
    rw [fX12_areSo_L4] at h
    refine ap_iload_n dX12_areSo_4 2 rfl rfl ?_
    refine ap_aload_n dX12_areSo_5 0 rfl rfl ?_
    refine ap_get (v := .ref (K.1 78)) fl_X12_7 ly_77 rfl rfl dX12_areSo_6 ?_
    refine ap_iconst (v := 4) dX12_areSo_9 (by decide) ?_
    refine ap_iald (x := (w.1 78 4)) ly_78 (rdA_c (by decide) (by decide)) dX12_areSo_10 ?_
    refine ap_icmp_ge (tgt := 66) dX12_areSo_11 (by decide) (fun hc1 => ?_) (fun hc1 => ?_)
    · rw [if_pos hc1] at h
      refine ap_iload_n dX12_areSo_66 1 rfl rfl ?_
      obtain ⟨a2, ha2, h⟩ := Option.bind_eq_some_iff.mp h
      obtain rfl := Option.some.inj h
      obtain ⟨ha2b, rfl⟩ := bz_some ha2
      exact ap_zret rfl ha2b dX12_areSo_67
    · rw [if_neg hc1] at h
      refine ap_iload_n dX12_areSo_14 1 rfl rfl ?_
      refine ap_if_eq (tgt := 66) dX12_areSo_15 (by decide) (fun hc3 => ?_) (fun hc3 => ?_)
      · rw [if_pos hc3] at h
        refine ap_iload_n dX12_areSo_66 1 rfl rfl ?_
        obtain ⟨a4, ha4, h⟩ := Option.bind_eq_some_iff.mp h
        obtain rfl := Option.some.inj h
        obtain ⟨ha4b, rfl⟩ := bz_some ha4
        exact ap_zret rfl ha4b dX12_areSo_67
      · rw [if_neg hc3] at h
        refine ap_bipush (v := 47) dX12_areSo_18 (by decide) ?_
        refine ap_iconst (v := 3) dX12_areSo_20 (by decide) ?_
        refine ap_iload_n dX12_areSo_21 2 rfl rfl ?_
        refine ap_imul dX12_areSo_22 ?_
        refine ap_iadd dX12_areSo_23 ?_
        refine ap_istore_n (i := 3) (lv' := [(3, .int ((47 : Int32) + ((3 : Int32) * x2))), (0, .ref (K.1 77)), (1, .int x1), (2, .int x2)]) dX12_areSo_24 rfl (by decide) rfl ?_
        refine ap_aload_n dX12_areSo_25 1 rfl rfl ?_
        refine ap_aload_n dX12_areSo_26 1 rfl rfl ?_
        refine ap_get (v := .ref (K.1 78)) fl_X12_7 ly_77 rfl rfl dX12_areSo_27 ?_
        refine ap_iload_n dX12_areSo_30 0 rfl rfl ?_
        obtain ⟨a5, ha5, h⟩ := Option.bind_eq_some_iff.mp h
        refine ap_iald ly_78 ha5 dX12_areSo_31 ?_
        refine ap_aload_n dX12_areSo_32 1 rfl rfl ?_
        refine ap_get (v := .ref (K.1 78)) fl_X12_7 ly_77 rfl rfl dX12_areSo_33 ?_
        refine ap_iload_n dX12_areSo_36 0 rfl rfl ?_
        refine ap_iconst (v := 1) dX12_areSo_37 (by decide) ?_
        refine ap_iadd dX12_areSo_38 ?_
        obtain ⟨a6, ha6, h⟩ := Option.bind_eq_some_iff.mp h
        refine ap_iald ly_78 ha6 dX12_areSo_39 ?_
        obtain ⟨a7, ha7, h⟩ := Option.bind_eq_some_iff.mp h
        refine ap_callV (k := 77) (As := [.int a5, .int a6]) (st := []) (st1 := [.int a7]) (mcX12_lightIn  (w := w) ha7) cv_X12_143 rfl ly_77 ⟨rfl, rfl, by decide, by decide⟩ rfl (Nat.le_of_ble_eq_true rfl) ⟨Nat.zero_le _, Nat.zero_le _⟩ dX12_areSo_40 rfl rfl ?_
        refine ap_aload_n dX12_areSo_43 1 rfl rfl ?_
        refine ap_get (v := .ref (K.1 78)) fl_X12_7 ly_77 rfl rfl dX12_areSo_44 ?_
        refine ap_iload_n dX12_areSo_47 0 rfl rfl ?_
        refine ap_iconst (v := 2) dX12_areSo_48 (by decide) ?_
        refine ap_iadd dX12_areSo_49 ?_
        obtain ⟨a8, ha8, h⟩ := Option.bind_eq_some_iff.mp h
        refine ap_iald ly_78 ha8 dX12_areSo_50 ?_
        refine ap_icmp_ne (tgt := 58) dX12_areSo_51 (by decide) (fun hc9 => ?_) (fun hc9 => ?_)
        · rw [if_neg hc9] at h
          refine ap_iconst (v := 0) dX12_areSo_58 (by decide) ?_
          refine ap_istore_n (i := 1) (lv' := [(1, .int (0 : Int32)), (3, .int ((47 : Int32) + ((3 : Int32) * x2))), (0, .ref (K.1 77)), (2, .int x2)]) dX12_areSo_59 rfl (by decide) rfl ?_
          refine ap_iinc (v := x2 + 1) (lv' := [(2, .int (x2 + 1)), (1, .int (0 : Int32)), (3, .int ((47 : Int32) + ((3 : Int32) * x2))), (0, .ref (K.1 77))]) dX12_areSo_60 3 rfl rfl (by decide) rfl ?_
          refine ap_goto (tgt := 4) dX12_areSo_63 (by decide) ?_
          refine ap_sub [3, 1, 0] rfl ?_
          exact ih _ _ h
        · rw [if_pos hc9] at h
          refine ap_iconst (v := 1) dX12_areSo_54 (by decide) ?_
          refine ap_goto (tgt := 59) dX12_areSo_55 (by decide) ?_
          refine ap_istore_n (i := 1) (lv' := [(1, .int (1 : Int32)), (3, .int ((47 : Int32) + ((3 : Int32) * x2))), (0, .ref (K.1 77)), (2, .int x2)]) dX12_areSo_59 rfl (by decide) rfl ?_
          refine ap_iinc (v := x2 + 1) (lv' := [(2, .int (x2 + 1)), (1, .int (1 : Int32)), (3, .int ((47 : Int32) + ((3 : Int32) * x2))), (0, .ref (K.1 77))]) dX12_areSo_60 3 rfl rfl (by decide) rfl ?_
          refine ap_goto (tgt := 4) dX12_areSo_63 (by decide) ?_
          refine ap_sub [3, 1, 0] rfl ?_
          exact ih _ _ h
def fX12_areSo (N : Nat) (w : Mm) : Option Int32 :=
fX12_areSo_L4 N w N (1 : Int32) (0 : Int32)
set_option maxRecDepth 100000 in
set_option maxHeartbeats 4000000 in
theorem AX12_areSo {l : Launch} {K : Kt} {N : Nat} {w : Mm}  {zx : Int32} (h : fX12_areSo N w = some zx) : AW l K cX12_areSo RX12 4 (some .boolean) rmX12_areSo 0 0 ap_E (ap_F K (some (.int zx)) w) w 0 [(0, .ref (K.1 77))] [] := by
  unfold fX12_areSo at h
  refine ap_iconst (v := 1) dX12_areSo_0 (by decide) ?_
  refine ap_istore_n (i := 1) (lv' := [(1, .int (1 : Int32)), (0, .ref (K.1 77))]) dX12_areSo_1 rfl (by decide) rfl ?_
  refine ap_iconst (v := 0) dX12_areSo_2 (by decide) ?_
  refine ap_istore_n (i := 2) (lv' := [(2, .int (0 : Int32)), (1, .int (1 : Int32)), (0, .ref (K.1 77))]) dX12_areSo_3 rfl (by decide) rfl ?_
  refine ap_sub [2, 1, 0] rfl ?_
  exact AX12_areSo_L4  N _ _ h
theorem mcX12_areSo {l : Launch} {K : Kt} {N : Nat} {w : Mm}  {zx : Int32} (h : fX12_areSo N w = some zx) : MC l K yX12_areSo cX12_areSo 4 (some .boolean) rmX12_areSo w [.ref (K.1 77)] (some (.int zx)) w :=
  MC.of (by decide) (Nat.le_of_ble_eq_true rfl) rfl (AX12_areSo  h)
def fX12_layFits_L55 (N : Nat) (k11 : Mm → Int32 → Option Mm) (w : Mm) (x1 : Int32) (t0 : Int32) (t1 : Int32) : Option Mm :=
Option.bind (some (sI w 77 14 (t1 + t0))) fun m9 =>
k11 m9 (x1 + 1)
set_option maxRecDepth 100000 in
set_option maxHeartbeats 4000000 in
theorem AX12_layFits_L55 {l : Launch} {K : Kt} {N : Nat} {k11 : Mm → Int32 → Option Mm} (hk11 : ∀ (w : Mm) (x1 : Int32) (zw : Mm), k11 w x1 = some zw → AW l K cX12_layFits RX12 2 none rmX12_layFits 0 0 ap_E (ap_F K none zw) w 11 [(0, .ref (K.1 77)), (1, .int x1)] [])  {w : Mm} {x1 : Int32} {t0 : Int32} {t1 : Int32} {zw : Mm} (h : fX12_layFits_L55 N k11 w x1 t0 t1 = some zw) : AW l K cX12_layFits RX12 2 none rmX12_layFits 0 0 ap_E (ap_F K none zw) w 55 [(0, .ref (K.1 77)), (1, .int x1)] [.int t0, .int t1, .ref (K.1 77)] := by
  unfold fX12_layFits_L55 at h
  refine ap_iadd dX12_layFits_55 ?_
  obtain ⟨m9, hm9, h⟩ := Option.bind_eq_some_iff.mp h
  refine ap_putI fp_X12_194 ly_77 rfl (Option.some.inj hm9) dX12_layFits_56 ?_
  refine ap_iinc (v := x1 + 1) (lv' := [(1, .int (x1 + 1)), (0, .ref (K.1 77))]) dX12_layFits_59 1 rfl rfl (by decide) rfl ?_
  refine ap_goto (tgt := 11) dX12_layFits_62 (by decide) ?_
  refine ap_sub [1, 0] rfl ?_
  exact hk11 _ _ _ h
def fX12_layFits_L11 (N : Nat) : Nat → Mm → Int32 → Option Mm
  | 0, _, _ => none
  | n0 + 1, w, x1 => if ((1 : Int32) <<< ((fX12_candles w) &&& 31)) ≤ x1 then (
some w)
else (
Option.bind (some (sI w 77 6 x1)) fun m4 =>
Option.bind (fX12_areSo N m4) fun a5 =>
Option.bind (wrA m4 87 128 x1 (vp_nar .boolean a5)) fun m6 =>
Option.bind (rdA m6 87 128 x1) fun a7 =>
if a7 = (0 : Int32) then (
fX12_layFits_L55 N (fX12_layFits_L11 N n0) m6 x1 (0 : Int32) (m6.1 77 14))
else (
fX12_layFits_L55 N (fX12_layFits_L11 N n0) m6 x1 (1 : Int32) (m6.1 77 14)))
set_option maxRecDepth 100000 in
set_option maxHeartbeats 4000000 in
theorem AX12_layFits_L11 {l : Launch} {K : Kt} {N : Nat}   : ∀ (n0 : Nat) (w : Mm) (x1 : Int32) {zw : Mm}, fX12_layFits_L11 N n0 w x1 = some zw → AW l K cX12_layFits RX12 2 none rmX12_layFits 0 0 ap_E (ap_F K none zw) w 11 [(0, .ref (K.1 77)), (1, .int x1)] [] := by
  intro n0
  induction n0 with
  | zero =>
    intro w x1 zw h
    cases h
  | succ n0 ih =>
    intro w x1 zw h
    rw [fX12_layFits_L11] at h
    refine ap_iload_n dX12_layFits_11 1 rfl rfl ?_
    refine ap_iconst (v := 1) dX12_layFits_12 (by decide) ?_
    refine ap_aload_n dX12_layFits_13 0 rfl rfl ?_
    refine ap_callV (k := 77) (As := []) (st := [.int (1 : Int32), .int x1]) (st1 := [.int (fX12_candles w), .int (1 : Int32), .int x1]) (mcX12_candles  (w := w) (zx := fX12_candles w) rfl) cv_X12_57 rfl ly_77 ⟨rfl, rfl, by decide, by decide⟩ rfl (Nat.le_of_ble_eq_true rfl) ⟨Nat.zero_le _, Nat.zero_le _⟩ dX12_layFits_14 rfl rfl ?_
    refine ap_ishl dX12_layFits_17 ?_
    refine ap_icmp_ge (tgt := 65) dX12_layFits_18 (by decide) (fun hc3 => ?_) (fun hc3 => ?_)
    · rw [if_pos hc3] at h
      obtain rfl := Option.some.inj h
      exact ap_vret rfl dX12_layFits_65
    · rw [if_neg hc3] at h
      refine ap_aload_n dX12_layFits_21 0 rfl rfl ?_
      refine ap_iload_n dX12_layFits_22 1 rfl rfl ?_
      obtain ⟨m4, hm4, h⟩ := Option.bind_eq_some_iff.mp h
      refine ap_putI fp_X12_126 ly_77 rfl (Option.some.inj hm4) dX12_layFits_23 ?_
      refine ap_aload_n dX12_layFits_26 0 rfl rfl ?_
      refine ap_get (v := .ref (K.1 87)) fl_X12_42 ly_77 rfl rfl dX12_layFits_27 ?_
      refine ap_iload_n dX12_layFits_30 1 rfl rfl ?_
      refine ap_aload_n dX12_layFits_31 0 rfl rfl ?_
      obtain ⟨a5, ha5, h⟩ := Option.bind_eq_some_iff.mp h
      refine ap_callV (k := 77) (As := []) (st := [.int x1, .ref (K.1 87)]) (st1 := [.int a5, .int x1, .ref (K.1 87)]) (mcX12_areSo  (w := m4) ha5) cv_X12_197 rfl ly_77 ⟨rfl, rfl, by decide, by decide⟩ rfl (Nat.le_of_ble_eq_true rfl) ⟨Nat.zero_le _, Nat.zero_le _⟩ dX12_layFits_32 rfl rfl ?_
      obtain ⟨m6, hm6, h⟩ := Option.bind_eq_some_iff.mp h
      refine ap_zast ly_87 hm6 dX12_layFits_35 ?_
      refine ap_aload_n dX12_layFits_36 0 rfl rfl ?_
      refine ap_dup dX12_layFits_37 rfl ?_
      refine ap_get (v := .int (m6.1 77 14)) fl_X12_194 ly_77 rfl rfl dX12_layFits_38 ?_
      refine ap_aload_n dX12_layFits_41 0 rfl rfl ?_
      refine ap_get (v := .ref (K.1 87)) fl_X12_42 ly_77 rfl rfl dX12_layFits_42 ?_
      refine ap_iload_n dX12_layFits_45 1 rfl rfl ?_
      obtain ⟨a7, ha7, h⟩ := Option.bind_eq_some_iff.mp h
      refine ap_zald ly_87 ha7 dX12_layFits_46 ?_
      refine ap_if_eq (tgt := 54) dX12_layFits_47 (by decide) (fun hc8 => ?_) (fun hc8 => ?_)
      · rw [if_pos hc8] at h
        refine ap_iconst (v := 0) dX12_layFits_54 (by decide) ?_
        exact AX12_layFits_L55 (fun q0 q1 q2 hq => ih q0 q1 hq)  h
      · rw [if_neg hc8] at h
        refine ap_iconst (v := 1) dX12_layFits_50 (by decide) ?_
        refine ap_goto (tgt := 55) dX12_layFits_51 (by decide) ?_
        exact AX12_layFits_L55 (fun q0 q1 q2 hq => ih q0 q1 hq)  h
def fX12_layFits (N : Nat) (w : Mm) : Option Mm :=
Option.bind (some (sI w 77 14 (0 : Int32))) fun m1 =>
Option.bind (fX12_layHand N m1) fun m2 =>
fX12_layFits_L11 N N m2 (0 : Int32)
set_option maxRecDepth 100000 in
set_option maxHeartbeats 4000000 in
theorem AX12_layFits {l : Launch} {K : Kt} {N : Nat}  {w : Mm} {zw : Mm} (h : fX12_layFits N w = some zw) : AW l K cX12_layFits RX12 2 none rmX12_layFits 0 0 ap_E (ap_F K none zw) w 0 [(0, .ref (K.1 77))] [] := by
  unfold fX12_layFits at h
  refine ap_aload_n dX12_layFits_0 0 rfl rfl ?_
  refine ap_iconst (v := 0) dX12_layFits_1 (by decide) ?_
  obtain ⟨m1, hm1, h⟩ := Option.bind_eq_some_iff.mp h
  refine ap_putI fp_X12_194 ly_77 rfl (Option.some.inj hm1) dX12_layFits_2 ?_
  refine ap_aload_n dX12_layFits_5 0 rfl rfl ?_
  obtain ⟨m2, hm2, h⟩ := Option.bind_eq_some_iff.mp h
  refine ap_callV (k := 77) (As := []) (st := []) (st1 := []) (mcX12_layHand  hm2) cv_X12_154 rfl ly_77 ⟨rfl, rfl, by decide, by decide⟩ rfl (Nat.le_of_ble_eq_true rfl) ⟨Nat.zero_le _, Nat.zero_le _⟩ dX12_layFits_6 rfl rfl ?_
  refine ap_iconst (v := 0) dX12_layFits_9 (by decide) ?_
  refine ap_istore_n (i := 1) (lv' := [(1, .int (0 : Int32)), (0, .ref (K.1 77))]) dX12_layFits_10 rfl (by decide) rfl ?_
  refine ap_sub [1, 0] rfl ?_
  exact AX12_layFits_L11  N _ _ h
theorem mcX12_layFits {l : Launch} {K : Kt} {N : Nat}  {w : Mm} {zw : Mm} (h : fX12_layFits N w = some zw) : MC l K yX12_layFits cX12_layFits 2 none rmX12_layFits w [.ref (K.1 77)] none zw :=
  MC.of (by decide) (Nat.le_of_ble_eq_true rfl) rfl (AX12_layFits  h)
def fX12_burn_L32 (N : Nat) : Nat → Mm → Int32 → Int32 → Int32 → Option (Int32 × Mm)
  | 0, _, _, _, _ => none
  | n0 + 1, w, x1, x2, x3 => if ((1 : Int32) <<< ((fX12_candles w) &&& 31)) ≤ x3 then (
if x1 = (0 : Int32) then (
some ((w.1 77 14), w))
else (
if (w.1 77 14) = (0 : Int32) then (
some ((-1 : Int32), w))
else (
some (x2, w))))
else (
Option.bind (rdA w 87 128 x3) fun a8 =>
if a8 = (0 : Int32) then (
(fX12_burn_L32 N n0) w x1 (x2 &&& (-1 : Int32)) (x3 + 1))
else (
(fX12_burn_L32 N n0) w x1 (x2 &&& x3) (x3 + 1)))
set_option maxRecDepth 100000 in
set_option maxHeartbeats 4000000 in
theorem AX12_burn_L32 {l : Launch} {K : Kt} {N : Nat}   : ∀ (n0 : Nat) (w : Mm) (x1 : Int32) (x2 : Int32) (x3 : Int32) {zx : Int32} {zw : Mm}, fX12_burn_L32 N n0 w x1 x2 x3 = some (zx, zw) → AW l K cX12_burn RX12 4 (some .int) rmX12_burn 0 0 ap_E (ap_F K (some (.int zx)) zw) w 32 [(0, .ref (K.1 77)), (1, .int x1), (2, .int x2), (3, .int x3)] [] := by
  intro n0
  induction n0 with
  | zero =>
    intro w x1 x2 x3 zx zw h
    cases h
  | succ n0 ih =>
    intro w x1 x2 x3 zx zw h
    rw [fX12_burn_L32] at h
    refine ap_iload_n dX12_burn_32 3 rfl rfl ?_
    refine ap_iconst (v := 1) dX12_burn_33 (by decide) ?_
    refine ap_aload_n dX12_burn_34 0 rfl rfl ?_
    refine ap_callV (k := 77) (As := []) (st := [.int (1 : Int32), .int x3]) (st1 := [.int (fX12_candles w), .int (1 : Int32), .int x3]) (mcX12_candles  (w := w) (zx := fX12_candles w) rfl) cv_X12_57 rfl ly_77 ⟨rfl, rfl, by decide, by decide⟩ rfl (Nat.le_of_ble_eq_true rfl) ⟨Nat.zero_le _, Nat.zero_le _⟩ dX12_burn_35 rfl rfl ?_
    refine ap_ishl dX12_burn_38 ?_
    refine ap_icmp_ge (tgt := 65) dX12_burn_39 (by decide) (fun hc5 => ?_) (fun hc5 => ?_)
    · rw [if_pos hc5] at h
      refine ap_iload_n dX12_burn_65 1 rfl rfl ?_
      refine ap_if_ne (tgt := 76) dX12_burn_66 (by decide) (fun hc6 => ?_) (fun hc6 => ?_)
      · rw [if_neg hc6] at h
        refine ap_aload_n dX12_burn_76 0 rfl rfl ?_
        refine ap_get (v := .int (w.1 77 14)) fl_X12_194 ly_77 rfl rfl dX12_burn_77 ?_
        refine ap_if_ne (tgt := 87) dX12_burn_80 (by decide) (fun hc7 => ?_) (fun hc7 => ?_)
        · rw [if_neg hc7] at h
          refine ap_iload_n dX12_burn_87 2 rfl rfl ?_
          obtain ⟨rfl, rfl⟩ := Prod.mk.inj (Option.some.inj h)
          exact ap_iret rfl dX12_burn_88
        · rw [if_pos hc7] at h
          refine ap_iconst (v := -1) dX12_burn_83 (by decide) ?_
          refine ap_goto (tgt := 88) dX12_burn_84 (by decide) ?_
          obtain ⟨rfl, rfl⟩ := Prod.mk.inj (Option.some.inj h)
          exact ap_iret rfl dX12_burn_88
      · rw [if_pos hc6] at h
        refine ap_aload_n dX12_burn_69 0 rfl rfl ?_
        refine ap_get (v := .int (w.1 77 14)) fl_X12_194 ly_77 rfl rfl dX12_burn_70 ?_
        refine ap_goto (tgt := 88) dX12_burn_73 (by decide) ?_
        obtain ⟨rfl, rfl⟩ := Prod.mk.inj (Option.some.inj h)
        exact ap_iret rfl dX12_burn_88
    · rw [if_neg hc5] at h
      refine ap_iload_n dX12_burn_42 2 rfl rfl ?_
      refine ap_aload_n dX12_burn_43 0 rfl rfl ?_
      refine ap_get (v := .ref (K.1 87)) fl_X12_42 ly_77 rfl rfl dX12_burn_44 ?_
      refine ap_iload_n dX12_burn_47 3 rfl rfl ?_
      obtain ⟨a8, ha8, h⟩ := Option.bind_eq_some_iff.mp h
      refine ap_zald ly_87 ha8 dX12_burn_48 ?_
      refine ap_if_eq (tgt := 56) dX12_burn_49 (by decide) (fun hc9 => ?_) (fun hc9 => ?_)
      · rw [if_pos hc9] at h
        refine ap_iconst (v := -1) dX12_burn_56 (by decide) ?_
        refine ap_iand dX12_burn_57 ?_
        refine ap_istore_n (i := 2) (lv' := [(2, .int (x2 &&& (-1 : Int32))), (0, .ref (K.1 77)), (1, .int x1), (3, .int x3)]) dX12_burn_58 rfl (by decide) rfl ?_
        refine ap_iinc (v := x3 + 1) (lv' := [(3, .int (x3 + 1)), (2, .int (x2 &&& (-1 : Int32))), (0, .ref (K.1 77)), (1, .int x1)]) dX12_burn_59 3 rfl rfl (by decide) rfl ?_
        refine ap_goto (tgt := 32) dX12_burn_62 (by decide) ?_
        refine ap_sub [2, 3, 1, 0] rfl ?_
        exact ih _ _ _ _ h
      · rw [if_neg hc9] at h
        refine ap_iload_n dX12_burn_52 3 rfl rfl ?_
        refine ap_goto (tgt := 57) dX12_burn_53 (by decide) ?_
        refine ap_iand dX12_burn_57 ?_
        refine ap_istore_n (i := 2) (lv' := [(2, .int (x2 &&& x3)), (0, .ref (K.1 77)), (1, .int x1), (3, .int x3)]) dX12_burn_58 rfl (by decide) rfl ?_
        refine ap_iinc (v := x3 + 1) (lv' := [(3, .int (x3 + 1)), (2, .int (x2 &&& x3)), (0, .ref (K.1 77)), (1, .int x1)]) dX12_burn_59 3 rfl rfl (by decide) rfl ?_
        refine ap_goto (tgt := 32) dX12_burn_62 (by decide) ?_
        refine ap_sub [2, 3, 1, 0] rfl ?_
        exact ih _ _ _ _ h
def fX12_burn_L26 (N : Nat) (w : Mm) (x1 : Int32) (x2 : Int32) : Option (Int32 × Mm) :=
Option.bind (fX12_layFits N w) fun m4 =>
fX12_burn_L32 N N m4 x1 x2 (0 : Int32)
set_option maxRecDepth 100000 in
set_option maxHeartbeats 4000000 in
theorem AX12_burn_L26 {l : Launch} {K : Kt} {N : Nat}   {w : Mm} {x1 : Int32} {x2 : Int32} {zx : Int32} {zw : Mm} (h : fX12_burn_L26 N w x1 x2 = some (zx, zw)) : AW l K cX12_burn RX12 4 (some .int) rmX12_burn 0 0 ap_E (ap_F K (some (.int zx)) zw) w 26 [(0, .ref (K.1 77)), (1, .int x1), (2, .int x2)] [] := by
  unfold fX12_burn_L26 at h
  refine ap_aload_n dX12_burn_26 0 rfl rfl ?_
  obtain ⟨m4, hm4, h⟩ := Option.bind_eq_some_iff.mp h
  refine ap_callV (k := 77) (As := []) (st := []) (st1 := []) (mcX12_layFits  hm4) cv_X12_201 rfl ly_77 ⟨rfl, rfl, by decide, by decide⟩ rfl (Nat.le_of_ble_eq_true rfl) ⟨Nat.zero_le _, Nat.zero_le _⟩ dX12_burn_27 rfl rfl ?_
  refine ap_iconst (v := 0) dX12_burn_30 (by decide) ?_
  refine ap_istore_n (i := 3) (lv' := [(3, .int (0 : Int32)), (0, .ref (K.1 77)), (1, .int x1), (2, .int x2)]) dX12_burn_31 rfl (by decide) rfl ?_
  refine ap_sub [1, 2, 3, 0] rfl ?_
  exact AX12_burn_L32  N _ _ _ _ h
def fX12_burn (N : Nat) (w : Mm) (x1 : Int32) : Option (Int32 × Mm) :=
if (fX12_in x1.toInt64 (0 : Int64) (1 : Int64)) = (0 : Int32) then (
ob2 (some (fX12_bad w (-10 : Int32))) fun a2 m3 =>
some (a2, m3))
else (
fX12_burn_L26 N w x1 (((1 : Int32) <<< ((fX12_candles w) &&& 31)) - (1 : Int32)))
set_option maxRecDepth 100000 in
set_option maxHeartbeats 4000000 in
theorem AX12_burn {l : Launch} {K : Kt} {N : Nat}  {w : Mm} {x1 : Int32} {zx : Int32} {zw : Mm} (h : fX12_burn N w x1 = some (zx, zw)) : AW l K cX12_burn RX12 4 (some .int) rmX12_burn 0 0 ap_E (ap_F K (some (.int zx)) zw) w 0 [(0, .ref (K.1 77)), (1, .int x1)] [] := by
  unfold fX12_burn at h
  refine ap_iload_n dX12_burn_0 1 rfl rfl ?_
  refine ap_i2l (v := x1.toInt64) dX12_burn_1 rfl ?_
  refine ap_lconst (v := 0) dX12_burn_2 (by decide) ?_
  refine ap_lconst (v := 1) dX12_burn_3 (by decide) ?_
  refine ap_callS (As := [.long x1.toInt64, .long (0 : Int64), .long (1 : Int64)]) (st := []) (st1 := [.int (fX12_in x1.toInt64 (0 : Int64) (1 : Int64))]) (mcX12_in  (w := w) (zx := fX12_in x1.toInt64 (0 : Int64) (1 : Int64)) rfl) cs_X12_61 ⟨rfl, rfl, by decide, by decide⟩ rfl (Nat.le_of_ble_eq_true rfl) ⟨Nat.zero_le _, Nat.zero_le _⟩ dX12_burn_4 rfl rfl ?_
  refine ap_if_ne (tgt := 17) dX12_burn_7 (by decide) (fun hc1 => ?_) (fun hc1 => ?_)
  · rw [if_neg hc1] at h
    refine ap_iconst (v := 1) dX12_burn_17 (by decide) ?_
    refine ap_aload_n dX12_burn_18 0 rfl rfl ?_
    refine ap_callV (k := 77) (As := []) (st := [.int (1 : Int32)]) (st1 := [.int (fX12_candles w), .int (1 : Int32)]) (mcX12_candles  (w := w) (zx := fX12_candles w) rfl) cv_X12_57 rfl ly_77 ⟨rfl, rfl, by decide, by decide⟩ rfl (Nat.le_of_ble_eq_true rfl) ⟨Nat.zero_le _, Nat.zero_le _⟩ dX12_burn_19 rfl rfl ?_
    refine ap_ishl dX12_burn_22 ?_
    refine ap_iconst (v := 1) dX12_burn_23 (by decide) ?_
    refine ap_isub dX12_burn_24 ?_
    refine ap_istore_n (i := 2) (lv' := [(2, .int (((1 : Int32) <<< ((fX12_candles w) &&& 31)) - (1 : Int32))), (0, .ref (K.1 77)), (1, .int x1)]) dX12_burn_25 rfl (by decide) rfl ?_
    refine ap_sub [1, 2, 0] rfl ?_
    exact AX12_burn_L26   h
  · rw [if_pos hc1] at h
    refine ap_aload_n dX12_burn_10 0 rfl rfl ?_
    refine ap_bipush (v := -10) dX12_burn_11 (by decide) ?_
    obtain ⟨a2, m3, ha2, h⟩ := ob2_iff h
    refine ap_callV (k := 77) (As := [.int (-10 : Int32)]) (st := []) (st1 := [.int a2]) (mcX12_bad  (Option.some.inj ha2)) cv_X12_75 rfl ly_77 ⟨rfl, rfl, by decide, by decide⟩ rfl (Nat.le_of_ble_eq_true rfl) ⟨Nat.zero_le _, Nat.zero_le _⟩ dX12_burn_13 rfl rfl ?_
    obtain ⟨rfl, rfl⟩ := Prod.mk.inj (Option.some.inj h)
    exact ap_iret rfl dX12_burn_16
theorem mcX12_burn {l : Launch} {K : Kt} {N : Nat}  {w : Mm} {x1 : Int32} {zx : Int32} {zw : Mm} (h : fX12_burn N w x1 = some (zx, zw)) : MC l K yX12_burn cX12_burn 4 (some .int) rmX12_burn w [.ref (K.1 77), .int x1] (some (.int zx)) zw :=
  MC.of (by decide) (Nat.le_of_ble_eq_true rfl) rfl (AX12_burn  h)
def fX12_mostLike_L97 (N : Nat) (k29 : Mm → Int32 → Int32 → Int32 → Int32 → Option (Int32 × Mm)) (w : Mm) (x1 : Int32) (x2 : Int32) (x4 : Int32) (t0 : Int32) : Option (Int32 × Mm) :=
k29 w x1 x2 t0 (x4 + 1)
set_option maxRecDepth 100000 in
set_option maxHeartbeats 4000000 in
theorem AX12_mostLike_L97 {l : Launch} {K : Kt} {N : Nat} {k29 : Mm → Int32 → Int32 → Int32 → Int32 → Option (Int32 × Mm)} (hk29 : ∀ (w : Mm) (x1 : Int32) (x2 : Int32) (x3 : Int32) (x4 : Int32) (zx : Int32) (zw : Mm), k29 w x1 x2 x3 x4 = some (zx, zw) → AW l K cX12_mostLike RX12 6 (some .int) rmX12_mostLike 0 0 ap_E (ap_F K (some (.int zx)) zw) w 29 [(0, .ref (K.1 77)), (1, .int x1), (2, .int x2), (3, .int x3), (4, .int x4)] [])  {w : Mm} {x1 : Int32} {x2 : Int32} {x4 : Int32} {t0 : Int32} {zx : Int32} {zw : Mm} (h : fX12_mostLike_L97 N k29 w x1 x2 x4 t0 = some (zx, zw)) : AW l K cX12_mostLike RX12 6 (some .int) rmX12_mostLike 0 0 ap_E (ap_F K (some (.int zx)) zw) w 97 [(0, .ref (K.1 77)), (1, .int x1), (2, .int x2), (4, .int x4)] [.int t0] := by
  unfold fX12_mostLike_L97 at h
  refine ap_istore_n (i := 3) (lv' := [(3, .int t0), (0, .ref (K.1 77)), (1, .int x1), (2, .int x2), (4, .int x4)]) dX12_mostLike_97 rfl (by decide) rfl ?_
  refine ap_iinc (v := x4 + 1) (lv' := [(4, .int (x4 + 1)), (3, .int t0), (0, .ref (K.1 77)), (1, .int x1), (2, .int x2)]) dX12_mostLike_98 4 rfl rfl (by decide) rfl ?_
  refine ap_goto (tgt := 29) dX12_mostLike_101 (by decide) ?_
  refine ap_sub [2, 3, 4, 1, 0] rfl ?_
  exact hk29 _ _ _ _ _ _ _ h
def fX12_mostLike_L29 (N : Nat) : Nat → Mm → Int32 → Int32 → Int32 → Int32 → Option (Int32 × Mm)
  | 0, _, _, _, _, _ => none
  | n0 + 1, w, x1, x2, x3, x4 => if ((1 : Int32) <<< ((fX12_candles w) &&& 31)) ≤ x4 then (
some (x3, w))
else (
Option.bind (rdA w 87 128 x4) fun a4 =>
if a4 = (0 : Int32) then (
(fX12_mostLike_L29 N n0) w x1 x2 x3 (x4 + 1))
else (
Option.bind (some (sI w 77 6 x4)) fun m6 =>
Option.bind (fX12_lightIn N m6 x1 x2) fun a7 =>
Option.bind (rdA m6 88 24 a7) fun a8 =>
Option.bind (wrA m6 88 24 a7 (a8 + (1 : Int32))) fun m9 =>
Option.bind (rdA m9 88 24 a7) fun a10 =>
if a10 ≤ x3 then (
fX12_mostLike_L97 N (fX12_mostLike_L29 N n0) m9 x1 x2 x4 x3)
else (
Option.bind (rdA m9 88 24 a7) fun a12 =>
fX12_mostLike_L97 N (fX12_mostLike_L29 N n0) m9 x1 x2 x4 a12)))
set_option maxRecDepth 100000 in
set_option maxHeartbeats 4000000 in
theorem AX12_mostLike_L29 {l : Launch} {K : Kt} {N : Nat}   : ∀ (n0 : Nat) (w : Mm) (x1 : Int32) (x2 : Int32) (x3 : Int32) (x4 : Int32) {zx : Int32} {zw : Mm}, fX12_mostLike_L29 N n0 w x1 x2 x3 x4 = some (zx, zw) → AW l K cX12_mostLike RX12 6 (some .int) rmX12_mostLike 0 0 ap_E (ap_F K (some (.int zx)) zw) w 29 [(0, .ref (K.1 77)), (1, .int x1), (2, .int x2), (3, .int x3), (4, .int x4)] [] := by
  intro n0
  induction n0 with
  | zero =>
    intro w x1 x2 x3 x4 zx zw h
    cases h
  | succ n0 ih =>
    intro w x1 x2 x3 x4 zx zw h
    rw [fX12_mostLike_L29] at h
    refine ap_iload dX12_mostLike_29 4 rfl ?_
    refine ap_iconst (v := 1) dX12_mostLike_31 (by decide) ?_
    refine ap_aload_n dX12_mostLike_32 0 rfl rfl ?_
    refine ap_callV (k := 77) (As := []) (st := [.int (1 : Int32), .int x4]) (st1 := [.int (fX12_candles w), .int (1 : Int32), .int x4]) (mcX12_candles  (w := w) (zx := fX12_candles w) rfl) cv_X12_57 rfl ly_77 ⟨rfl, rfl, by decide, by decide⟩ rfl (Nat.le_of_ble_eq_true rfl) ⟨Nat.zero_le _, Nat.zero_le _⟩ dX12_mostLike_33 rfl rfl ?_
    refine ap_ishl dX12_mostLike_36 ?_
    refine ap_icmp_ge (tgt := 104) dX12_mostLike_37 (by decide) (fun hc3 => ?_) (fun hc3 => ?_)
    · rw [if_pos hc3] at h
      refine ap_iload_n dX12_mostLike_104 3 rfl rfl ?_
      obtain ⟨rfl, rfl⟩ := Prod.mk.inj (Option.some.inj h)
      exact ap_iret rfl dX12_mostLike_105
    · rw [if_neg hc3] at h
      refine ap_aload_n dX12_mostLike_40 0 rfl rfl ?_
      refine ap_get (v := .ref (K.1 87)) fl_X12_42 ly_77 rfl rfl dX12_mostLike_41 ?_
      refine ap_iload dX12_mostLike_44 4 rfl ?_
      obtain ⟨a4, ha4, h⟩ := Option.bind_eq_some_iff.mp h
      refine ap_zald ly_87 ha4 dX12_mostLike_46 ?_
      refine ap_if_eq (tgt := 98) dX12_mostLike_47 (by decide) (fun hc5 => ?_) (fun hc5 => ?_)
      · rw [if_pos hc5] at h
        refine ap_iinc (v := x4 + 1) (lv' := [(4, .int (x4 + 1)), (0, .ref (K.1 77)), (1, .int x1), (2, .int x2), (3, .int x3)]) dX12_mostLike_98 4 rfl rfl (by decide) rfl ?_
        refine ap_goto (tgt := 29) dX12_mostLike_101 (by decide) ?_
        refine ap_sub [1, 2, 3, 4, 0] rfl ?_
        exact ih _ _ _ _ _ h
      · rw [if_neg hc5] at h
        refine ap_aload_n dX12_mostLike_50 0 rfl rfl ?_
        refine ap_iload dX12_mostLike_51 4 rfl ?_
        obtain ⟨m6, hm6, h⟩ := Option.bind_eq_some_iff.mp h
        refine ap_putI fp_X12_126 ly_77 rfl (Option.some.inj hm6) dX12_mostLike_53 ?_
        refine ap_aload_n dX12_mostLike_56 0 rfl rfl ?_
        refine ap_iload_n dX12_mostLike_57 1 rfl rfl ?_
        refine ap_iload_n dX12_mostLike_58 2 rfl rfl ?_
        obtain ⟨a7, ha7, h⟩ := Option.bind_eq_some_iff.mp h
        refine ap_callV (k := 77) (As := [.int x1, .int x2]) (st := []) (st1 := [.int a7]) (mcX12_lightIn  (w := m6) ha7) cv_X12_143 rfl ly_77 ⟨rfl, rfl, by decide, by decide⟩ rfl (Nat.le_of_ble_eq_true rfl) ⟨Nat.zero_le _, Nat.zero_le _⟩ dX12_mostLike_59 rfl rfl ?_
        refine ap_istore (i := 5) (lv' := [(5, .int a7), (0, .ref (K.1 77)), (1, .int x1), (2, .int x2), (3, .int x3), (4, .int x4)]) dX12_mostLike_62 (by decide) rfl ?_
        refine ap_aload_n dX12_mostLike_64 1 rfl rfl ?_
        refine ap_get (v := .ref (K.1 88)) fl_X12_45 ly_77 rfl rfl dX12_mostLike_65 ?_
        refine ap_iload dX12_mostLike_68 0 rfl ?_
        refine ap_dup2 dX12_mostLike_70 rfl rfl ?_
        obtain ⟨a8, ha8, h⟩ := Option.bind_eq_some_iff.mp h
        refine ap_iald ly_88 ha8 dX12_mostLike_71 ?_
        refine ap_iconst (v := 1) dX12_mostLike_72 (by decide) ?_
        refine ap_iadd dX12_mostLike_73 ?_
        obtain ⟨m9, hm9, h⟩ := Option.bind_eq_some_iff.mp h
        refine ap_iast ly_88 hm9 dX12_mostLike_74 ?_
        refine ap_aload_n dX12_mostLike_75 1 rfl rfl ?_
        refine ap_get (v := .ref (K.1 88)) fl_X12_45 ly_77 rfl rfl dX12_mostLike_76 ?_
        refine ap_iload dX12_mostLike_79 0 rfl ?_
        obtain ⟨a10, ha10, h⟩ := Option.bind_eq_some_iff.mp h
        refine ap_iald ly_88 ha10 dX12_mostLike_81 ?_
        refine ap_iload_n dX12_mostLike_82 4 rfl rfl ?_
        refine ap_icmp_le (tgt := 96) dX12_mostLike_83 (by decide) (fun hc11 => ?_) (fun hc11 => ?_)
        · rw [if_pos hc11] at h
          refine ap_iload_n dX12_mostLike_96 4 rfl rfl ?_
          refine ap_sub [1, 2, 3, 5] rfl ?_
          exact AX12_mostLike_L97 (fun q0 q1 q2 q3 q4 q5 q6 hq => ih q0 q1 q2 q3 q4 hq)  h
        · rw [if_neg hc11] at h
          refine ap_aload_n dX12_mostLike_86 1 rfl rfl ?_
          refine ap_get (v := .ref (K.1 88)) fl_X12_45 ly_77 rfl rfl dX12_mostLike_87 ?_
          refine ap_iload dX12_mostLike_90 0 rfl ?_
          obtain ⟨a12, ha12, h⟩ := Option.bind_eq_some_iff.mp h
          refine ap_iald ly_88 ha12 dX12_mostLike_92 ?_
          refine ap_goto (tgt := 97) dX12_mostLike_93 (by decide) ?_
          refine ap_sub [1, 2, 3, 5] rfl ?_
          exact AX12_mostLike_L97 (fun q0 q1 q2 q3 q4 q5 q6 hq => ih q0 q1 q2 q3 q4 hq)  h
def fX12_mostLike_L5 (N : Nat) : Nat → Mm → Int32 → Int32 → Int32 → Int32 → Option (Int32 × Mm)
  | 0, _, _, _, _, _ => none
  | n0 + 1, w, x1, x2, x3, x4 => if (24 : Int32) ≤ x4 then (
fX12_mostLike_L29 N N w x1 x2 x3 (0 : Int32))
else (
Option.bind (wrA w 88 24 x4 (0 : Int32)) fun m2 =>
(fX12_mostLike_L5 N n0) m2 x1 x2 x3 (x4 + 1))
set_option maxRecDepth 100000 in
set_option maxHeartbeats 4000000 in
theorem AX12_mostLike_L5 {l : Launch} {K : Kt} {N : Nat}   : ∀ (n0 : Nat) (w : Mm) (x1 : Int32) (x2 : Int32) (x3 : Int32) (x4 : Int32) {zx : Int32} {zw : Mm}, fX12_mostLike_L5 N n0 w x1 x2 x3 x4 = some (zx, zw) → AW l K cX12_mostLike RX12 6 (some .int) rmX12_mostLike 0 0 ap_E (ap_F K (some (.int zx)) zw) w 5 [(0, .ref (K.1 77)), (1, .int x1), (2, .int x2), (3, .int x3), (4, .int x4)] [] := by
  intro n0
  induction n0 with
  | zero =>
    intro w x1 x2 x3 x4 zx zw h
    cases h
  | succ n0 ih =>
    intro w x1 x2 x3 x4 zx zw h
    rw [fX12_mostLike_L5] at h
    refine ap_iload dX12_mostLike_5 4 rfl ?_
    refine ap_bipush (v := 24) dX12_mostLike_7 (by decide) ?_
    refine ap_icmp_ge (tgt := 26) dX12_mostLike_9 (by decide) (fun hc1 => ?_) (fun hc1 => ?_)
    · rw [if_pos hc1] at h
      refine ap_iconst (v := 0) dX12_mostLike_26 (by decide) ?_
      refine ap_istore (i := 4) (lv' := [(4, .int (0 : Int32)), (0, .ref (K.1 77)), (1, .int x1), (2, .int x2), (3, .int x3)]) dX12_mostLike_27 (by decide) rfl ?_
      refine ap_sub [1, 2, 3, 4, 0] rfl ?_
      exact AX12_mostLike_L29  N _ _ _ _ _ h
    · rw [if_neg hc1] at h
      refine ap_aload_n dX12_mostLike_12 0 rfl rfl ?_
      refine ap_get (v := .ref (K.1 88)) fl_X12_45 ly_77 rfl rfl dX12_mostLike_13 ?_
      refine ap_iload dX12_mostLike_16 4 rfl ?_
      refine ap_iconst (v := 0) dX12_mostLike_18 (by decide) ?_
      obtain ⟨m2, hm2, h⟩ := Option.bind_eq_some_iff.mp h
      refine ap_iast ly_88 hm2 dX12_mostLike_19 ?_
      refine ap_iinc (v := x4 + 1) (lv' := [(4, .int (x4 + 1)), (0, .ref (K.1 77)), (1, .int x1), (2, .int x2), (3, .int x3)]) dX12_mostLike_20 4 rfl rfl (by decide) rfl ?_
      refine ap_goto (tgt := 5) dX12_mostLike_23 (by decide) ?_
      refine ap_sub [1, 2, 3, 4, 0] rfl ?_
      exact ih _ _ _ _ _ h
def fX12_mostLike (N : Nat) (w : Mm) (x1 : Int32) (x2 : Int32) : Option (Int32 × Mm) :=
fX12_mostLike_L5 N N w x1 x2 (0 : Int32) (0 : Int32)
set_option maxRecDepth 100000 in
set_option maxHeartbeats 4000000 in
theorem AX12_mostLike {l : Launch} {K : Kt} {N : Nat}  {w : Mm} {x1 : Int32} {x2 : Int32} {zx : Int32} {zw : Mm} (h : fX12_mostLike N w x1 x2 = some (zx, zw)) : AW l K cX12_mostLike RX12 6 (some .int) rmX12_mostLike 0 0 ap_E (ap_F K (some (.int zx)) zw) w 0 [(0, .ref (K.1 77)), (1, .int x1), (2, .int x2)] [] := by
  unfold fX12_mostLike at h
  refine ap_iconst (v := 0) dX12_mostLike_0 (by decide) ?_
  refine ap_istore_n (i := 3) (lv' := [(3, .int (0 : Int32)), (0, .ref (K.1 77)), (1, .int x1), (2, .int x2)]) dX12_mostLike_1 rfl (by decide) rfl ?_
  refine ap_iconst (v := 0) dX12_mostLike_2 (by decide) ?_
  refine ap_istore (i := 4) (lv' := [(4, .int (0 : Int32)), (3, .int (0 : Int32)), (0, .ref (K.1 77)), (1, .int x1), (2, .int x2)]) dX12_mostLike_3 (by decide) rfl ?_
  refine ap_sub [2, 3, 4, 1, 0] rfl ?_
  exact AX12_mostLike_L5  N _ _ _ _ _ h
theorem mcX12_mostLike {l : Launch} {K : Kt} {N : Nat}  {w : Mm} {x1 : Int32} {x2 : Int32} {zx : Int32} {zw : Mm} (h : fX12_mostLike N w x1 x2 = some (zx, zw)) : MC l K yX12_mostLike cX12_mostLike 6 (some .int) rmX12_mostLike w [.ref (K.1 77), .int x1, .int x2] (some (.int zx)) zw :=
  MC.of (by decide) (Nat.le_of_ble_eq_true rfl) rfl (AX12_mostLike  h)
def fX12_measure_L61 (N : Nat) (k26 : Mm → Int32 → Int32 → Int32 → Int32 → Option (Int32 × Mm)) (w : Mm) (x1 : Int32) (x3 : Int32) (x4 : Int32) (x5 : Int32) (t0 : Int32) : Option (Int32 × Mm) :=
if x3 ≤ x5 then (
k26 w x1 t0 x3 (x4 + 1))
else (
k26 w x1 t0 x5 (x4 + 1))
set_option maxRecDepth 100000 in
set_option maxHeartbeats 4000000 in
theorem AX12_measure_L61 {l : Launch} {K : Kt} {N : Nat} {k26 : Mm → Int32 → Int32 → Int32 → Int32 → Option (Int32 × Mm)} (hk26 : ∀ (w : Mm) (x1 : Int32) (x2 : Int32) (x3 : Int32) (x4 : Int32) (zx : Int32) (zw : Mm), k26 w x1 x2 x3 x4 = some (zx, zw) → AW l K cX12_measure RX12 6 (some .int) rmX12_measure 0 0 ap_E (ap_F K (some (.int zx)) zw) w 26 [(0, .ref (K.1 77)), (1, .int x1), (2, .int x2), (3, .int x3), (4, .int x4)] [])  {w : Mm} {x1 : Int32} {x3 : Int32} {x4 : Int32} {x5 : Int32} {t0 : Int32} {zx : Int32} {zw : Mm} (h : fX12_measure_L61 N k26 w x1 x3 x4 x5 t0 = some (zx, zw)) : AW l K cX12_measure RX12 6 (some .int) rmX12_measure 0 0 ap_E (ap_F K (some (.int zx)) zw) w 61 [(0, .ref (K.1 77)), (1, .int x1), (3, .int x3), (4, .int x4), (5, .int x5)] [.int t0] := by
  unfold fX12_measure_L61 at h
  refine ap_istore_n (i := 2) (lv' := [(2, .int t0), (0, .ref (K.1 77)), (1, .int x1), (3, .int x3), (4, .int x4), (5, .int x5)]) dX12_measure_61 rfl (by decide) rfl ?_
  refine ap_iload dX12_measure_62 5 rfl ?_
  refine ap_iload_n dX12_measure_64 3 rfl rfl ?_
  refine ap_icmp_ge (tgt := 73) dX12_measure_65 (by decide) (fun hc10 => ?_) (fun hc10 => ?_)
  · rw [if_pos hc10] at h
    refine ap_iload_n dX12_measure_73 3 rfl rfl ?_
    refine ap_istore_n (i := 3) (lv' := [(3, .int x3), (2, .int t0), (0, .ref (K.1 77)), (1, .int x1), (4, .int x4), (5, .int x5)]) dX12_measure_74 rfl (by decide) rfl ?_
    refine ap_iinc (v := x4 + 1) (lv' := [(4, .int (x4 + 1)), (3, .int x3), (2, .int t0), (0, .ref (K.1 77)), (1, .int x1), (5, .int x5)]) dX12_measure_75 4 rfl rfl (by decide) rfl ?_
    refine ap_goto (tgt := 26) dX12_measure_78 (by decide) ?_
    refine ap_sub [3, 4, 2, 1, 0] rfl ?_
    exact hk26 _ _ _ _ _ _ _ h
  · rw [if_neg hc10] at h
    refine ap_iload dX12_measure_68 5 rfl ?_
    refine ap_goto (tgt := 74) dX12_measure_70 (by decide) ?_
    refine ap_istore_n (i := 3) (lv' := [(3, .int x5), (2, .int t0), (0, .ref (K.1 77)), (1, .int x1), (4, .int x4), (5, .int x5)]) dX12_measure_74 rfl (by decide) rfl ?_
    refine ap_iinc (v := x4 + 1) (lv' := [(4, .int (x4 + 1)), (3, .int x5), (2, .int t0), (0, .ref (K.1 77)), (1, .int x1), (5, .int x5)]) dX12_measure_75 4 rfl rfl (by decide) rfl ?_
    refine ap_goto (tgt := 26) dX12_measure_78 (by decide) ?_
    refine ap_sub [3, 4, 2, 1, 0] rfl ?_
    exact hk26 _ _ _ _ _ _ _ h
def fX12_measure_L26 (N : Nat) : Nat → Mm → Int32 → Int32 → Int32 → Int32 → Option (Int32 × Mm)
  | 0, _, _, _, _, _ => none
  | n0 + 1, w, x1, x2, x3, x4 => if (64 : Int32) ≤ x4 then (
some (x2, w))
else (
if (w.1 77 14) ≤ (0 : Int32) then (
some (x2, w))
else (
ob2 (fX12_mostLike N w x4 x1) fun a7 m8 =>
if x3 ≤ a7 then (
fX12_measure_L61 N (fX12_measure_L26 N n0) m8 x1 x3 x4 a7 x2)
else (
fX12_measure_L61 N (fX12_measure_L26 N n0) m8 x1 x3 x4 a7 x4)))
set_option maxRecDepth 100000 in
set_option maxHeartbeats 4000000 in
theorem AX12_measure_L26 {l : Launch} {K : Kt} {N : Nat}   : ∀ (n0 : Nat) (w : Mm) (x1 : Int32) (x2 : Int32) (x3 : Int32) (x4 : Int32) {zx : Int32} {zw : Mm}, fX12_measure_L26 N n0 w x1 x2 x3 x4 = some (zx, zw) → AW l K cX12_measure RX12 6 (some .int) rmX12_measure 0 0 ap_E (ap_F K (some (.int zx)) zw) w 26 [(0, .ref (K.1 77)), (1, .int x1), (2, .int x2), (3, .int x3), (4, .int x4)] [] := by
  intro n0
  induction n0 with
  | zero =>
    intro w x1 x2 x3 x4 zx zw h
    cases h
  | succ n0 ih =>
    intro w x1 x2 x3 x4 zx zw h
    rw [fX12_measure_L26] at h
    refine ap_iload dX12_measure_26 4 rfl ?_
    refine ap_bipush (v := 64) dX12_measure_28 (by decide) ?_
    refine ap_icmp_ge (tgt := 81) dX12_measure_30 (by decide) (fun hc5 => ?_) (fun hc5 => ?_)
    · rw [if_pos hc5] at h
      refine ap_iload_n dX12_measure_81 2 rfl rfl ?_
      obtain ⟨rfl, rfl⟩ := Prod.mk.inj (Option.some.inj h)
      exact ap_iret rfl dX12_measure_82
    · rw [if_neg hc5] at h
      refine ap_aload_n dX12_measure_33 0 rfl rfl ?_
      refine ap_get (v := .int (w.1 77 14)) fl_X12_194 ly_77 rfl rfl dX12_measure_34 ?_
      refine ap_if_le (tgt := 81) dX12_measure_37 (by decide) (fun hc6 => ?_) (fun hc6 => ?_)
      · rw [if_pos hc6] at h
        refine ap_iload_n dX12_measure_81 2 rfl rfl ?_
        obtain ⟨rfl, rfl⟩ := Prod.mk.inj (Option.some.inj h)
        exact ap_iret rfl dX12_measure_82
      · rw [if_neg hc6] at h
        refine ap_aload_n dX12_measure_40 0 rfl rfl ?_
        refine ap_iload dX12_measure_41 4 rfl ?_
        refine ap_iload_n dX12_measure_43 1 rfl rfl ?_
        obtain ⟨a7, m8, ha7, h⟩ := ob2_iff h
        refine ap_callV (k := 77) (As := [.int x4, .int x1]) (st := []) (st1 := [.int a7]) (mcX12_mostLike  ha7) cv_X12_204 rfl ly_77 ⟨rfl, rfl, by decide, by decide⟩ rfl (Nat.le_of_ble_eq_true rfl) ⟨Nat.zero_le _, Nat.zero_le _⟩ dX12_measure_44 rfl rfl ?_
        refine ap_istore (i := 5) (lv' := [(5, .int a7), (0, .ref (K.1 77)), (1, .int x1), (2, .int x2), (3, .int x3), (4, .int x4)]) dX12_measure_47 (by decide) rfl ?_
        refine ap_iload dX12_measure_49 0 rfl ?_
        refine ap_iload_n dX12_measure_51 4 rfl rfl ?_
        refine ap_icmp_ge (tgt := 60) dX12_measure_52 (by decide) (fun hc9 => ?_) (fun hc9 => ?_)
        · rw [if_pos hc9] at h
          refine ap_iload_n dX12_measure_60 3 rfl rfl ?_
          refine ap_sub [1, 2, 4, 5, 0] rfl ?_
          exact AX12_measure_L61 (fun q0 q1 q2 q3 q4 q5 q6 hq => ih q0 q1 q2 q3 q4 hq)  h
        · rw [if_neg hc9] at h
          refine ap_iload dX12_measure_55 5 rfl ?_
          refine ap_goto (tgt := 61) dX12_measure_57 (by decide) ?_
          refine ap_sub [1, 2, 4, 5, 0] rfl ?_
          exact AX12_measure_L61 (fun q0 q1 q2 q3 q4 q5 q6 hq => ih q0 q1 q2 q3 q4 hq)  h
def fX12_measure (N : Nat) (w : Mm) (x1 : Int32) : Option (Int32 × Mm) :=
if (fX12_isHour x1) = (0 : Int32) then (
ob2 (some (fX12_bad w (-2 : Int32))) fun a3 m4 =>
some (a3, m4))
else (
Option.bind (fX12_layFits N w) fun m2 =>
fX12_measure_L26 N N m2 x1 (-1 : Int32) (1000000 : Int32) (0 : Int32))
set_option maxRecDepth 100000 in
set_option maxHeartbeats 4000000 in
theorem AX12_measure {l : Launch} {K : Kt} {N : Nat}  {w : Mm} {x1 : Int32} {zx : Int32} {zw : Mm} (h : fX12_measure N w x1 = some (zx, zw)) : AW l K cX12_measure RX12 6 (some .int) rmX12_measure 0 0 ap_E (ap_F K (some (.int zx)) zw) w 0 [(0, .ref (K.1 77)), (1, .int x1)] [] := by
  unfold fX12_measure at h
  refine ap_iload_n dX12_measure_0 1 rfl rfl ?_
  refine ap_callS (As := [.int x1]) (st := []) (st1 := [.int (fX12_isHour x1)]) (mcX12_isHour  (w := w) (zx := fX12_isHour x1) rfl) cs_X12_151 ⟨rfl, rfl, by decide, by decide⟩ rfl (Nat.le_of_ble_eq_true rfl) ⟨Nat.zero_le _, Nat.zero_le _⟩ dX12_measure_1 rfl rfl ?_
  refine ap_if_ne (tgt := 14) dX12_measure_4 (by decide) (fun hc1 => ?_) (fun hc1 => ?_)
  · rw [if_neg hc1] at h
    refine ap_iconst (v := -1) dX12_measure_14 (by decide) ?_
    refine ap_istore_n (i := 2) (lv' := [(2, .int (-1 : Int32)), (0, .ref (K.1 77)), (1, .int x1)]) dX12_measure_15 rfl (by decide) rfl ?_
    refine ap_ldci (v := 1000000) wd_1165 dX12_measure_16 ?_
    refine ap_istore_n (i := 3) (lv' := [(3, .int (1000000 : Int32)), (2, .int (-1 : Int32)), (0, .ref (K.1 77)), (1, .int x1)]) dX12_measure_18 rfl (by decide) rfl ?_
    refine ap_aload_n dX12_measure_19 2 rfl rfl ?_
    obtain ⟨m2, hm2, h⟩ := Option.bind_eq_some_iff.mp h
    refine ap_callV (k := 77) (As := []) (st := []) (st1 := []) (mcX12_layFits  hm2) cv_X12_201 rfl ly_77 ⟨rfl, rfl, by decide, by decide⟩ rfl (Nat.le_of_ble_eq_true rfl) ⟨Nat.zero_le _, Nat.zero_le _⟩ dX12_measure_20 rfl rfl ?_
    refine ap_iconst (v := 0) dX12_measure_23 (by decide) ?_
    refine ap_istore (i := 4) (lv' := [(4, .int (0 : Int32)), (3, .int (1000000 : Int32)), (2, .int (-1 : Int32)), (0, .ref (K.1 77)), (1, .int x1)]) dX12_measure_24 (by decide) rfl ?_
    refine ap_sub [3, 4, 2, 1, 0] rfl ?_
    exact AX12_measure_L26  N _ _ _ _ _ h
  · rw [if_pos hc1] at h
    refine ap_aload_n dX12_measure_7 0 rfl rfl ?_
    refine ap_bipush (v := -2) dX12_measure_8 (by decide) ?_
    obtain ⟨a3, m4, ha3, h⟩ := ob2_iff h
    refine ap_callV (k := 77) (As := [.int (-2 : Int32)]) (st := []) (st1 := [.int a3]) (mcX12_bad  (Option.some.inj ha3)) cv_X12_75 rfl ly_77 ⟨rfl, rfl, by decide, by decide⟩ rfl (Nat.le_of_ble_eq_true rfl) ⟨Nat.zero_le _, Nat.zero_le _⟩ dX12_measure_10 rfl rfl ?_
    obtain ⟨rfl, rfl⟩ := Prod.mk.inj (Option.some.inj h)
    exact ap_iret rfl dX12_measure_13
theorem mcX12_measure {l : Launch} {K : Kt} {N : Nat}  {w : Mm} {x1 : Int32} {zx : Int32} {zw : Mm} (h : fX12_measure N w x1 = some (zx, zw)) : MC l K yX12_measure cX12_measure 6 (some .int) rmX12_measure w [.ref (K.1 77), .int x1] (some (.int zx)) zw :=
  MC.of (by decide) (Nat.le_of_ble_eq_true rfl) rfl (AX12_measure  h)
def fX12_fraction_L6 (N : Nat) : Nat → Mm → Int64 → Int64 → Int64 → Int64 → Option Mm
  | 0, _, _, _, _, _ => none
  | n0 + 1, w, x1, x3, x5, x7 => if (lg_cmp x7 (0 : Int64)) = (0 : Int32) then (
Option.bind (dvJ x1 x5) fun a2 =>
Option.bind (some (sJ w 77 4 a2)) fun m3 =>
Option.bind (dvJ x3 x5) fun a4 =>
Option.bind (some (sJ m3 77 5 a4)) fun m5 =>
some m5)
else (
Option.bind (rmJ x5 x7) fun a6 =>
(fX12_fraction_L6 N n0) w x1 x3 x7 a6)
set_option maxRecDepth 100000 in
set_option maxHeartbeats 4000000 in
theorem AX12_fraction_L6 {l : Launch} {K : Kt} {N : Nat}   : ∀ (n0 : Nat) (w : Mm) (x1 : Int64) (x3 : Int64) (x5 : Int64) (x7 : Int64) {zw : Mm}, fX12_fraction_L6 N n0 w x1 x3 x5 x7 = some zw → AW l K cX12_fraction RX12 11 none rmX12_fraction 0 0 ap_E (ap_F K none zw) w 6 [(0, .ref (K.1 77)), (1, .long x1), (3, .long x3), (5, .long x5), (7, .long x7)] [] := by
  intro n0
  induction n0 with
  | zero =>
    intro w x1 x3 x5 x7 zw h
    cases h
  | succ n0 ih =>
    intro w x1 x3 x5 x7 zw h
    rw [fX12_fraction_L6] at h
    refine ap_lload dX12_fraction_6 4 rfl ?_
    refine ap_lconst (v := 0) dX12_fraction_8 (by decide) ?_
    refine ap_lcmp dX12_fraction_9 ?_
    refine ap_if_eq (tgt := 31) dX12_fraction_10 (by decide) (fun hc1 => ?_) (fun hc1 => ?_)
    · rw [if_pos hc1] at h
      refine ap_aload_n dX12_fraction_31 0 rfl rfl ?_
      refine ap_lload_n dX12_fraction_32 1 rfl rfl ?_
      refine ap_lload dX12_fraction_33 3 rfl ?_
      obtain ⟨a2, ha2, h⟩ := Option.bind_eq_some_iff.mp h
      refine ap_ldivO ha2 dX12_fraction_35 ?_
      obtain ⟨m3, hm3, h⟩ := Option.bind_eq_some_iff.mp h
      refine ap_putJ fp_X12_207 ly_77 rfl (Option.some.inj hm3) dX12_fraction_36 ?_
      refine ap_aload_n dX12_fraction_39 0 rfl rfl ?_
      refine ap_lload_n dX12_fraction_40 2 rfl rfl ?_
      refine ap_lload dX12_fraction_41 3 rfl ?_
      obtain ⟨a4, ha4, h⟩ := Option.bind_eq_some_iff.mp h
      refine ap_ldivO ha4 dX12_fraction_43 ?_
      obtain ⟨m5, hm5, h⟩ := Option.bind_eq_some_iff.mp h
      refine ap_putJ fp_X12_23 ly_77 rfl (Option.some.inj hm5) dX12_fraction_44 ?_
      obtain rfl := Option.some.inj h
      exact ap_vret rfl dX12_fraction_47
    · rw [if_neg hc1] at h
      refine ap_lload dX12_fraction_13 3 rfl ?_
      refine ap_lload dX12_fraction_15 4 rfl ?_
      obtain ⟨a6, ha6, h⟩ := Option.bind_eq_some_iff.mp h
      refine ap_lremO ha6 dX12_fraction_17 ?_
      refine ap_lstore (i := 9) (lv' := [(9, .long a6), (0, .ref (K.1 77)), (1, .long x1), (3, .long x3), (5, .long x5), (7, .long x7)]) dX12_fraction_18 (by decide) rfl ?_
      refine ap_lload dX12_fraction_20 5 rfl ?_
      refine ap_lstore (i := 5) (lv' := [(5, .long x7), (9, .long a6), (0, .ref (K.1 77)), (1, .long x1), (3, .long x3), (7, .long x7)]) dX12_fraction_22 (by decide) rfl ?_
      refine ap_lload dX12_fraction_24 1 rfl ?_
      refine ap_lstore (i := 7) (lv' := [(7, .long a6), (5, .long x7), (9, .long a6), (0, .ref (K.1 77)), (1, .long x1), (3, .long x3)]) dX12_fraction_26 (by decide) rfl ?_
      refine ap_goto (tgt := 6) dX12_fraction_28 (by decide) ?_
      refine ap_sub [3, 4, 5, 1, 0] rfl ?_
      exact ih _ _ _ _ _ h
def fX12_fraction (N : Nat) (w : Mm) (x1 : Int64) (x3 : Int64) : Option Mm :=
fX12_fraction_L6 N N w x1 x3 x1 x3
set_option maxRecDepth 100000 in
set_option maxHeartbeats 4000000 in
theorem AX12_fraction {l : Launch} {K : Kt} {N : Nat}  {w : Mm} {x1 : Int64} {x3 : Int64} {zw : Mm} (h : fX12_fraction N w x1 x3 = some zw) : AW l K cX12_fraction RX12 11 none rmX12_fraction 0 0 ap_E (ap_F K none zw) w 0 [(0, .ref (K.1 77)), (1, .long x1), (3, .long x3)] [] := by
  unfold fX12_fraction at h
  refine ap_lload_n dX12_fraction_0 1 rfl rfl ?_
  refine ap_lstore (i := 5) (lv' := [(5, .long x1), (0, .ref (K.1 77)), (1, .long x1), (3, .long x3)]) dX12_fraction_1 (by decide) rfl ?_
  refine ap_lload_n dX12_fraction_3 3 rfl rfl ?_
  refine ap_lstore (i := 7) (lv' := [(7, .long x3), (5, .long x1), (0, .ref (K.1 77)), (1, .long x1), (3, .long x3)]) dX12_fraction_4 (by decide) rfl ?_
  refine ap_sub [2, 3, 4, 1, 0] rfl ?_
  exact AX12_fraction_L6  N _ _ _ _ _ h
theorem mcX12_fraction {l : Launch} {K : Kt} {N : Nat}  {w : Mm} {x1 : Int64} {x3 : Int64} {zw : Mm} (h : fX12_fraction N w x1 x3 = some zw) : MC l K yX12_fraction cX12_fraction 11 none rmX12_fraction w [.ref (K.1 77), .long x1, .long x3] none zw :=
  MC.of (by decide) (Nat.le_of_ble_eq_true rfl) rfl (AX12_fraction  h)

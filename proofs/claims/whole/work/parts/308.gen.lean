def fX12_acresOf_L5 (N : Nat) (w : Mm) : Nat → Int32 → Int32 → Int32 → Int32 → Option Int32
  | 0, _, _, _, _ => none
  | n0 + 1, x1, x2, x3, x4 => if (64 : Int32) ≤ x4 then (
some x3)
else (
Option.bind (fX12_whose N w x4 x2) fun a2 =>
if a2 = x1 then (
(fX12_acresOf_L5 N w n0) x1 x2 (x3 + (1 : Int32)) (x4 + 1))
else (
(fX12_acresOf_L5 N w n0) x1 x2 (x3 + (0 : Int32)) (x4 + 1)))
set_option maxRecDepth 100000 in
set_option maxHeartbeats 4000000 in
theorem AX12_acresOf_L5 {l : Launch} {K : Kt} {N : Nat} {w : Mm}   : ∀ (n0 : Nat) (x1 : Int32) (x2 : Int32) (x3 : Int32) (x4 : Int32) {zx : Int32}, fX12_acresOf_L5 N w n0 x1 x2 x3 x4 = some zx → AW l K cX12_acresOf RX12 5 (some .int) rmX12_acresOf 0 0 ap_E (ap_F K (some (.int zx)) w) w 5 [(0, .ref (K.1 77)), (1, .int x1), (2, .int x2), (3, .int x3), (4, .int x4)] [] := by
  intro n0
  induction n0 with
  | zero =>
    intro x1 x2 x3 x4 zx h
    cases h
  | succ n0 ih =>
    intro x1 x2 x3 x4 zx h
    rw [fX12_acresOf_L5] at h
    refine ap_iload dX12_acresOf_5 4 rfl ?_
    refine ap_bipush (v := 64) dX12_acresOf_7 (by decide) ?_
    refine ap_icmp_ge (tgt := 37) dX12_acresOf_9 (by decide) (fun hc1 => ?_) (fun hc1 => ?_)
    · rw [if_pos hc1] at h
      refine ap_iload_n dX12_acresOf_37 3 rfl rfl ?_
      obtain rfl := Option.some.inj h
      exact ap_iret rfl dX12_acresOf_38
    · rw [if_neg hc1] at h
      refine ap_iload_n dX12_acresOf_12 3 rfl rfl ?_
      refine ap_aload_n dX12_acresOf_13 0 rfl rfl ?_
      refine ap_iload dX12_acresOf_14 4 rfl ?_
      refine ap_iload_n dX12_acresOf_16 2 rfl rfl ?_
      obtain ⟨a2, ha2, h⟩ := Option.bind_eq_some_iff.mp h
      refine ap_callV (k := 77) (As := [.int x4, .int x2]) (st := [.int x3]) (st1 := [.int a2, .int x3]) (mcX12_whose  (w := w) ha2) cv_X12_146 rfl ly_77 ⟨rfl, rfl, by decide, by decide⟩ rfl (Nat.le_of_ble_eq_true rfl) ⟨Nat.zero_le _, Nat.zero_le _⟩ dX12_acresOf_17 rfl rfl ?_
      refine ap_iload_n dX12_acresOf_20 1 rfl rfl ?_
      refine ap_icmp_ne (tgt := 28) dX12_acresOf_21 (by decide) (fun hc3 => ?_) (fun hc3 => ?_)
      · rw [if_neg hc3] at h
        refine ap_iconst (v := 0) dX12_acresOf_28 (by decide) ?_
        refine ap_iadd dX12_acresOf_29 ?_
        refine ap_istore_n (i := 3) (lv' := [(3, .int (x3 + (0 : Int32))), (0, .ref (K.1 77)), (1, .int x1), (2, .int x2), (4, .int x4)]) dX12_acresOf_30 rfl (by decide) rfl ?_
        refine ap_iinc (v := x4 + 1) (lv' := [(4, .int (x4 + 1)), (3, .int (x3 + (0 : Int32))), (0, .ref (K.1 77)), (1, .int x1), (2, .int x2)]) dX12_acresOf_31 4 rfl rfl (by decide) rfl ?_
        refine ap_goto (tgt := 5) dX12_acresOf_34 (by decide) ?_
        refine ap_sub [2, 3, 4, 1, 0] rfl ?_
        exact ih _ _ _ _ h
      · rw [if_pos hc3] at h
        refine ap_iconst (v := 1) dX12_acresOf_24 (by decide) ?_
        refine ap_goto (tgt := 29) dX12_acresOf_25 (by decide) ?_
        refine ap_iadd dX12_acresOf_29 ?_
        refine ap_istore_n (i := 3) (lv' := [(3, .int (x3 + (1 : Int32))), (0, .ref (K.1 77)), (1, .int x1), (2, .int x2), (4, .int x4)]) dX12_acresOf_30 rfl (by decide) rfl ?_
        refine ap_iinc (v := x4 + 1) (lv' := [(4, .int (x4 + 1)), (3, .int (x3 + (1 : Int32))), (0, .ref (K.1 77)), (1, .int x1), (2, .int x2)]) dX12_acresOf_31 4 rfl rfl (by decide) rfl ?_
        refine ap_goto (tgt := 5) dX12_acresOf_34 (by decide) ?_
        refine ap_sub [2, 3, 4, 1, 0] rfl ?_
        exact ih _ _ _ _ h
def fX12_acresOf (N : Nat) (w : Mm) (x1 : Int32) (x2 : Int32) : Option Int32 :=
fX12_acresOf_L5 N w N x1 x2 (0 : Int32) (0 : Int32)
set_option maxRecDepth 100000 in
set_option maxHeartbeats 4000000 in
theorem AX12_acresOf {l : Launch} {K : Kt} {N : Nat} {w : Mm}  {x1 : Int32} {x2 : Int32} {zx : Int32} (h : fX12_acresOf N w x1 x2 = some zx) : AW l K cX12_acresOf RX12 5 (some .int) rmX12_acresOf 0 0 ap_E (ap_F K (some (.int zx)) w) w 0 [(0, .ref (K.1 77)), (1, .int x1), (2, .int x2)] [] := by
  unfold fX12_acresOf at h
  refine ap_iconst (v := 0) dX12_acresOf_0 (by decide) ?_
  refine ap_istore_n (i := 3) (lv' := [(3, .int (0 : Int32)), (0, .ref (K.1 77)), (1, .int x1), (2, .int x2)]) dX12_acresOf_1 rfl (by decide) rfl ?_
  refine ap_iconst (v := 0) dX12_acresOf_2 (by decide) ?_
  refine ap_istore (i := 4) (lv' := [(4, .int (0 : Int32)), (3, .int (0 : Int32)), (0, .ref (K.1 77)), (1, .int x1), (2, .int x2)]) dX12_acresOf_3 (by decide) rfl ?_
  refine ap_sub [2, 3, 4, 1, 0] rfl ?_
  exact AX12_acresOf_L5  N _ _ _ _ h
theorem mcX12_acresOf {l : Launch} {K : Kt} {N : Nat} {w : Mm}  {x1 : Int32} {x2 : Int32} {zx : Int32} (h : fX12_acresOf N w x1 x2 = some zx) : MC l K yX12_acresOf cX12_acresOf 5 (some .int) rmX12_acresOf w [.ref (K.1 77), .int x1, .int x2] (some (.int zx)) w :=
  MC.of (by decide) (Nat.le_of_ble_eq_true rfl) rfl (AX12_acresOf  h)
def fX12_of_L20 (w : Mm) : Option (Int32 × Mm) :=
ob2 (some (fX12_bad w (-2 : Int32))) fun a8 m9 =>
some (a8, m9)
set_option maxRecDepth 100000 in
set_option maxHeartbeats 4000000 in
theorem AX12_of_L20 {l : Launch} {K : Kt}   {w : Mm} {zx : Int32} {zw : Mm} (h : fX12_of_L20 w = some (zx, zw)) : AW l K cX12_of RX12 3 (some .int) rmX12_of 0 0 ap_E (ap_F K (some (.int zx)) zw) w 20 [(0, .ref (K.1 77))] [] := by
  unfold fX12_of_L20 at h
  refine ap_aload_n dX12_of_20 0 rfl rfl ?_
  refine ap_bipush (v := -2) dX12_of_21 (by decide) ?_
  obtain ⟨a8, m9, ha8, h⟩ := ob2_iff h
  refine ap_callV (k := 77) (As := [.int (-2 : Int32)]) (st := []) (st1 := [.int a8]) (mcX12_bad  (Option.some.inj ha8)) cv_X12_75 rfl ly_77 ⟨rfl, rfl, by decide, by decide⟩ rfl (Nat.le_of_ble_eq_true rfl) ⟨Nat.zero_le _, Nat.zero_le _⟩ dX12_of_23 rfl rfl ?_
  obtain ⟨rfl, rfl⟩ := Prod.mk.inj (Option.some.inj h)
  exact ap_iret rfl dX12_of_26
def fX12_of (w : Mm) (x1 : Int32) (x2 : Int32) : Option (Int32 × Mm) :=
if (fX12_isCandle w x1) = (0 : Int32) then (
fX12_of_L20 w)
else (
if (fX12_in x2.toInt64 (0 : Int64) (6 : Int64)) = (0 : Int32) then (
fX12_of_L20 w)
else (
if x2 = (5 : Int32) then (
some ((((w.1 78 2) >>> (x1 &&& 31)) &&& (1 : Int32)), w))
else (
if x2 = (6 : Int32) then (
Option.bind (fX12_get w x1 (0 : Int32)) fun a6 =>
Option.bind (fX12_get w x1 (4 : Int32)) fun a7 =>
some ((fX12_burnsFor a6 a7), w))
else (
Option.bind (fX12_get w x1 x2) fun a5 =>
some (a5, w)))))
set_option maxRecDepth 100000 in
set_option maxHeartbeats 4000000 in
theorem AX12_of {l : Launch} {K : Kt}  {w : Mm} {x1 : Int32} {x2 : Int32} {zx : Int32} {zw : Mm} (h : fX12_of w x1 x2 = some (zx, zw)) : AW l K cX12_of RX12 3 (some .int) rmX12_of 0 0 ap_E (ap_F K (some (.int zx)) zw) w 0 [(0, .ref (K.1 77)), (1, .int x1), (2, .int x2)] [] := by
  unfold fX12_of at h
  refine ap_aload_n dX12_of_0 0 rfl rfl ?_
  refine ap_iload_n dX12_of_1 1 rfl rfl ?_
  refine ap_callV (k := 77) (As := [.int x1]) (st := []) (st1 := [.int (fX12_isCandle w x1)]) (mcX12_isCandle  (w := w) (zx := fX12_isCandle w x1) rfl) cv_X12_108 rfl ly_77 ⟨rfl, rfl, by decide, by decide⟩ rfl (Nat.le_of_ble_eq_true rfl) ⟨Nat.zero_le _, Nat.zero_le _⟩ dX12_of_2 rfl rfl ?_
  refine ap_if_eq (tgt := 20) dX12_of_5 (by decide) (fun hc1 => ?_) (fun hc1 => ?_)
  · rw [if_pos hc1] at h
    refine ap_sub [0] rfl ?_
    exact AX12_of_L20   h
  · rw [if_neg hc1] at h
    refine ap_iload_n dX12_of_8 2 rfl rfl ?_
    refine ap_i2l (v := x2.toInt64) dX12_of_9 rfl ?_
    refine ap_lconst (v := 0) dX12_of_10 (by decide) ?_
    refine ap_ldc2 (v := 6) wd_1058 dX12_of_11 ?_
    refine ap_callS (As := [.long x2.toInt64, .long (0 : Int64), .long (6 : Int64)]) (st := []) (st1 := [.int (fX12_in x2.toInt64 (0 : Int64) (6 : Int64))]) (mcX12_in  (w := w) (zx := fX12_in x2.toInt64 (0 : Int64) (6 : Int64)) rfl) cs_X12_61 ⟨rfl, rfl, by decide, by decide⟩ rfl (Nat.le_of_ble_eq_true rfl) ⟨Nat.zero_le _, Nat.zero_le _⟩ dX12_of_14 rfl rfl ?_
    refine ap_if_ne (tgt := 27) dX12_of_17 (by decide) (fun hc2 => ?_) (fun hc2 => ?_)
    · rw [if_neg hc2] at h
      refine ap_iload_n dX12_of_27 2 rfl rfl ?_
      refine ap_iconst (v := 5) dX12_of_28 (by decide) ?_
      refine ap_icmp_ne (tgt := 45) dX12_of_29 (by decide) (fun hc3 => ?_) (fun hc3 => ?_)
      · rw [if_neg hc3] at h
        refine ap_iload_n dX12_of_45 2 rfl rfl ?_
        refine ap_bipush (v := 6) dX12_of_46 (by decide) ?_
        refine ap_icmp_ne (tgt := 69) dX12_of_48 (by decide) (fun hc4 => ?_) (fun hc4 => ?_)
        · rw [if_neg hc4] at h
          refine ap_aload_n dX12_of_69 0 rfl rfl ?_
          refine ap_iload_n dX12_of_70 1 rfl rfl ?_
          refine ap_iload_n dX12_of_71 2 rfl rfl ?_
          obtain ⟨a5, ha5, h⟩ := Option.bind_eq_some_iff.mp h
          refine ap_callV (k := 77) (As := [.int x1, .int x2]) (st := []) (st1 := [.int a5]) (mcX12_get  (w := w) ha5) cv_X12_104 rfl ly_77 ⟨rfl, rfl, by decide, by decide⟩ rfl (Nat.le_of_ble_eq_true rfl) ⟨Nat.zero_le _, Nat.zero_le _⟩ dX12_of_72 rfl rfl ?_
          obtain ⟨rfl, rfl⟩ := Prod.mk.inj (Option.some.inj h)
          exact ap_iret rfl dX12_of_75
        · rw [if_pos hc4] at h
          refine ap_aload_n dX12_of_51 0 rfl rfl ?_
          refine ap_iload_n dX12_of_52 1 rfl rfl ?_
          refine ap_iconst (v := 0) dX12_of_53 (by decide) ?_
          obtain ⟨a6, ha6, h⟩ := Option.bind_eq_some_iff.mp h
          refine ap_callV (k := 77) (As := [.int x1, .int (0 : Int32)]) (st := []) (st1 := [.int a6]) (mcX12_get  (w := w) ha6) cv_X12_104 rfl ly_77 ⟨rfl, rfl, by decide, by decide⟩ rfl (Nat.le_of_ble_eq_true rfl) ⟨Nat.zero_le _, Nat.zero_le _⟩ dX12_of_54 rfl rfl ?_
          refine ap_aload_n dX12_of_57 0 rfl rfl ?_
          refine ap_iload_n dX12_of_58 1 rfl rfl ?_
          refine ap_iconst (v := 4) dX12_of_59 (by decide) ?_
          obtain ⟨a7, ha7, h⟩ := Option.bind_eq_some_iff.mp h
          refine ap_callV (k := 77) (As := [.int x1, .int (4 : Int32)]) (st := [.int a6]) (st1 := [.int a7, .int a6]) (mcX12_get  (w := w) ha7) cv_X12_104 rfl ly_77 ⟨rfl, rfl, by decide, by decide⟩ rfl (Nat.le_of_ble_eq_true rfl) ⟨Nat.zero_le _, Nat.zero_le _⟩ dX12_of_60 rfl rfl ?_
          refine ap_callS (As := [.int a6, .int a7]) (st := []) (st1 := [.int (fX12_burnsFor a6 a7)]) (mcX12_burnsFor  (w := w) (zx := fX12_burnsFor a6 a7) rfl) cs_X12_130 ⟨rfl, rfl, by decide, by decide⟩ rfl (Nat.le_of_ble_eq_true rfl) ⟨Nat.zero_le _, Nat.zero_le _⟩ dX12_of_63 rfl rfl ?_
          refine ap_goto (tgt := 75) dX12_of_66 (by decide) ?_
          obtain ⟨rfl, rfl⟩ := Prod.mk.inj (Option.some.inj h)
          exact ap_iret rfl dX12_of_75
      · rw [if_pos hc3] at h
        refine ap_aload_n dX12_of_32 0 rfl rfl ?_
        refine ap_get (v := .ref (K.1 78)) fl_X12_7 ly_77 rfl rfl dX12_of_33 ?_
        refine ap_iconst (v := 2) dX12_of_36 (by decide) ?_
        refine ap_iald (x := (w.1 78 2)) ly_78 (rdA_c (by decide) (by decide)) dX12_of_37 ?_
        refine ap_iload_n dX12_of_38 1 rfl rfl ?_
        refine ap_ishr dX12_of_39 ?_
        refine ap_iconst (v := 1) dX12_of_40 (by decide) ?_
        refine ap_iand dX12_of_41 ?_
        refine ap_goto (tgt := 75) dX12_of_42 (by decide) ?_
        obtain ⟨rfl, rfl⟩ := Prod.mk.inj (Option.some.inj h)
        exact ap_iret rfl dX12_of_75
    · rw [if_pos hc2] at h
      refine ap_sub [0] rfl ?_
      exact AX12_of_L20   h
theorem mcX12_of {l : Launch} {K : Kt}  {w : Mm} {x1 : Int32} {x2 : Int32} {zx : Int32} {zw : Mm} (h : fX12_of w x1 x2 = some (zx, zw)) : MC l K yX12_of cX12_of 3 (some .int) rmX12_of w [.ref (K.1 77), .int x1, .int x2] (some (.int zx)) zw :=
  MC.of (by decide) (Nat.le_of_ble_eq_true rfl) rfl (AX12_of  h)
def fX12_shines_L22 (N : Nat) (w : Mm) : Option (Int32 × Mm) :=
ob2 (some (fX12_bad w (-2 : Int32))) fun a6 m7 =>
some (a6, m7)
set_option maxRecDepth 100000 in
set_option maxHeartbeats 4000000 in
theorem AX12_shines_L22 {l : Launch} {K : Kt} {N : Nat}   {w : Mm} {zx : Int32} {zw : Mm} (h : fX12_shines_L22 N w = some (zx, zw)) : AW l K cX12_shines RX12 4 (some .int) rmX12_shines 0 0 ap_E (ap_F K (some (.int zx)) zw) w 22 [(0, .ref (K.1 77))] [] := by
  unfold fX12_shines_L22 at h
  refine ap_aload_n dX12_shines_22 0 rfl rfl ?_
  refine ap_bipush (v := -2) dX12_shines_23 (by decide) ?_
  obtain ⟨a6, m7, ha6, h⟩ := ob2_iff h
  refine ap_callV (k := 77) (As := [.int (-2 : Int32)]) (st := []) (st1 := [.int a6]) (mcX12_bad  (Option.some.inj ha6)) cv_X12_75 rfl ly_77 ⟨rfl, rfl, by decide, by decide⟩ rfl (Nat.le_of_ble_eq_true rfl) ⟨Nat.zero_le _, Nat.zero_le _⟩ dX12_shines_25 rfl rfl ?_
  obtain ⟨rfl, rfl⟩ := Prod.mk.inj (Option.some.inj h)
  exact ap_iret rfl dX12_shines_28
def fX12_shines (N : Nat) (w : Mm) (x1 : Int32) (x2 : Int32) (x3 : Int32) : Option (Int32 × Mm) :=
if (fX12_isCandle w x1) = (0 : Int32) then (
fX12_shines_L22 N w)
else (
if (fX12_isCell x2) = (0 : Int32) then (
fX12_shines_L22 N w)
else (
if (fX12_isHour x3) = (0 : Int32) then (
fX12_shines_L22 N w)
else (
Option.bind (fX12_layHand N w) fun m4 =>
Option.bind (fX12_lightOf m4 x1 x2 x3) fun a5 =>
some (a5, m4))))
set_option maxRecDepth 100000 in
set_option maxHeartbeats 4000000 in
theorem AX12_shines {l : Launch} {K : Kt} {N : Nat}  {w : Mm} {x1 : Int32} {x2 : Int32} {x3 : Int32} {zx : Int32} {zw : Mm} (h : fX12_shines N w x1 x2 x3 = some (zx, zw)) : AW l K cX12_shines RX12 4 (some .int) rmX12_shines 0 0 ap_E (ap_F K (some (.int zx)) zw) w 0 [(0, .ref (K.1 77)), (1, .int x1), (2, .int x2), (3, .int x3)] [] := by
  unfold fX12_shines at h
  refine ap_aload_n dX12_shines_0 0 rfl rfl ?_
  refine ap_iload_n dX12_shines_1 1 rfl rfl ?_
  refine ap_callV (k := 77) (As := [.int x1]) (st := []) (st1 := [.int (fX12_isCandle w x1)]) (mcX12_isCandle  (w := w) (zx := fX12_isCandle w x1) rfl) cv_X12_108 rfl ly_77 ⟨rfl, rfl, by decide, by decide⟩ rfl (Nat.le_of_ble_eq_true rfl) ⟨Nat.zero_le _, Nat.zero_le _⟩ dX12_shines_2 rfl rfl ?_
  refine ap_if_eq (tgt := 22) dX12_shines_5 (by decide) (fun hc1 => ?_) (fun hc1 => ?_)
  · rw [if_pos hc1] at h
    refine ap_sub [0] rfl ?_
    exact AX12_shines_L22   h
  · rw [if_neg hc1] at h
    refine ap_iload_n dX12_shines_8 2 rfl rfl ?_
    refine ap_callS (As := [.int x2]) (st := []) (st1 := [.int (fX12_isCell x2)]) (mcX12_isCell  (w := w) (zx := fX12_isCell x2) rfl) cs_X12_85 ⟨rfl, rfl, by decide, by decide⟩ rfl (Nat.le_of_ble_eq_true rfl) ⟨Nat.zero_le _, Nat.zero_le _⟩ dX12_shines_9 rfl rfl ?_
    refine ap_if_eq (tgt := 22) dX12_shines_12 (by decide) (fun hc2 => ?_) (fun hc2 => ?_)
    · rw [if_pos hc2] at h
      refine ap_sub [0] rfl ?_
      exact AX12_shines_L22   h
    · rw [if_neg hc2] at h
      refine ap_iload_n dX12_shines_15 3 rfl rfl ?_
      refine ap_callS (As := [.int x3]) (st := []) (st1 := [.int (fX12_isHour x3)]) (mcX12_isHour  (w := w) (zx := fX12_isHour x3) rfl) cs_X12_151 ⟨rfl, rfl, by decide, by decide⟩ rfl (Nat.le_of_ble_eq_true rfl) ⟨Nat.zero_le _, Nat.zero_le _⟩ dX12_shines_16 rfl rfl ?_
      refine ap_if_ne (tgt := 29) dX12_shines_19 (by decide) (fun hc3 => ?_) (fun hc3 => ?_)
      · rw [if_neg hc3] at h
        refine ap_aload_n dX12_shines_29 0 rfl rfl ?_
        obtain ⟨m4, hm4, h⟩ := Option.bind_eq_some_iff.mp h
        refine ap_callV (k := 77) (As := []) (st := []) (st1 := []) (mcX12_layHand  hm4) cv_X12_154 rfl ly_77 ⟨rfl, rfl, by decide, by decide⟩ rfl (Nat.le_of_ble_eq_true rfl) ⟨Nat.zero_le _, Nat.zero_le _⟩ dX12_shines_30 rfl rfl ?_
        refine ap_aload_n dX12_shines_33 0 rfl rfl ?_
        refine ap_iload_n dX12_shines_34 1 rfl rfl ?_
        refine ap_iload_n dX12_shines_35 2 rfl rfl ?_
        refine ap_iload_n dX12_shines_36 3 rfl rfl ?_
        obtain ⟨a5, ha5, h⟩ := Option.bind_eq_some_iff.mp h
        refine ap_callV (k := 77) (As := [.int x1, .int x2, .int x3]) (st := []) (st1 := [.int a5]) (mcX12_lightOf  (w := m4) ha5) cv_X12_140 rfl ly_77 ⟨rfl, rfl, by decide, by decide⟩ rfl (Nat.le_of_ble_eq_true rfl) ⟨Nat.zero_le _, Nat.zero_le _⟩ dX12_shines_37 rfl rfl ?_
        obtain ⟨rfl, rfl⟩ := Prod.mk.inj (Option.some.inj h)
        exact ap_iret rfl dX12_shines_40
      · rw [if_pos hc3] at h
        refine ap_sub [0] rfl ?_
        exact AX12_shines_L22   h
theorem mcX12_shines {l : Launch} {K : Kt} {N : Nat}  {w : Mm} {x1 : Int32} {x2 : Int32} {x3 : Int32} {zx : Int32} {zw : Mm} (h : fX12_shines N w x1 x2 x3 = some (zx, zw)) : MC l K yX12_shines cX12_shines 4 (some .int) rmX12_shines w [.ref (K.1 77), .int x1, .int x2, .int x3] (some (.int zx)) zw :=
  MC.of (by decide) (Nat.le_of_ble_eq_true rfl) rfl (AX12_shines  h)
def fX12_cell_L26 (N : Nat) (w : Mm) : Option (Int32 × Mm) :=
ob2 (some (fX12_bad w (-10 : Int32))) fun a11 m12 =>
some (a11, m12)
set_option maxRecDepth 100000 in
set_option maxHeartbeats 4000000 in
theorem AX12_cell_L26 {l : Launch} {K : Kt} {N : Nat}   {w : Mm} {zx : Int32} {zw : Mm} (h : fX12_cell_L26 N w = some (zx, zw)) : AW l K cX12_cell RX12 5 (some .int) rmX12_cell 0 0 ap_E (ap_F K (some (.int zx)) zw) w 26 [(0, .ref (K.1 77))] [] := by
  unfold fX12_cell_L26 at h
  refine ap_aload_n dX12_cell_26 0 rfl rfl ?_
  refine ap_bipush (v := -10) dX12_cell_27 (by decide) ?_
  obtain ⟨a11, m12, ha11, h⟩ := ob2_iff h
  refine ap_callV (k := 77) (As := [.int (-10 : Int32)]) (st := []) (st1 := [.int a11]) (mcX12_bad  (Option.some.inj ha11)) cv_X12_75 rfl ly_77 ⟨rfl, rfl, by decide, by decide⟩ rfl (Nat.le_of_ble_eq_true rfl) ⟨Nat.zero_le _, Nat.zero_le _⟩ dX12_cell_29 rfl rfl ?_
  obtain ⟨rfl, rfl⟩ := Prod.mk.inj (Option.some.inj h)
  exact ap_iret rfl dX12_cell_32
def fX12_cell (N : Nat) (w : Mm) (x1 : Int32) (x2 : Int32) (x3 : Int32) : Option (Int32 × Mm) :=
if (fX12_isCell x1) = (0 : Int32) then (
fX12_cell_L26 N w)
else (
if (fX12_isHour x2) = (0 : Int32) then (
fX12_cell_L26 N w)
else (
if (fX12_in x3.toInt64 (0 : Int64) (2 : Int64)) = (0 : Int32) then (
fX12_cell_L26 N w)
else (
Option.bind (fX12_layHand N w) fun m4 =>
Option.bind (fX12_whose N m4 x1 x2) fun a5 =>
if x3 = (0 : Int32) then (
Option.bind (fX12_lightIn N m4 x1 x2) fun a10 =>
some (a10, m4))
else (
if x3 = (1 : Int32) then (
if a5 = (-2 : Int32) then (
some ((-1 : Int32), m4))
else (
some (a5, m4)))
else (
if a5 = (-2 : Int32) then (
some ((1 : Int32), m4))
else (
some ((0 : Int32), m4)))))))
set_option maxRecDepth 100000 in
set_option maxHeartbeats 4000000 in
theorem AX12_cell {l : Launch} {K : Kt} {N : Nat}  {w : Mm} {x1 : Int32} {x2 : Int32} {x3 : Int32} {zx : Int32} {zw : Mm} (h : fX12_cell N w x1 x2 x3 = some (zx, zw)) : AW l K cX12_cell RX12 5 (some .int) rmX12_cell 0 0 ap_E (ap_F K (some (.int zx)) zw) w 0 [(0, .ref (K.1 77)), (1, .int x1), (2, .int x2), (3, .int x3)] [] := by
  unfold fX12_cell at h
  refine ap_iload_n dX12_cell_0 1 rfl rfl ?_
  refine ap_callS (As := [.int x1]) (st := []) (st1 := [.int (fX12_isCell x1)]) (mcX12_isCell  (w := w) (zx := fX12_isCell x1) rfl) cs_X12_85 ⟨rfl, rfl, by decide, by decide⟩ rfl (Nat.le_of_ble_eq_true rfl) ⟨Nat.zero_le _, Nat.zero_le _⟩ dX12_cell_1 rfl rfl ?_
  refine ap_if_eq (tgt := 26) dX12_cell_4 (by decide) (fun hc1 => ?_) (fun hc1 => ?_)
  · rw [if_pos hc1] at h
    refine ap_sub [0] rfl ?_
    exact AX12_cell_L26   h
  · rw [if_neg hc1] at h
    refine ap_iload_n dX12_cell_7 2 rfl rfl ?_
    refine ap_callS (As := [.int x2]) (st := []) (st1 := [.int (fX12_isHour x2)]) (mcX12_isHour  (w := w) (zx := fX12_isHour x2) rfl) cs_X12_151 ⟨rfl, rfl, by decide, by decide⟩ rfl (Nat.le_of_ble_eq_true rfl) ⟨Nat.zero_le _, Nat.zero_le _⟩ dX12_cell_8 rfl rfl ?_
    refine ap_if_eq (tgt := 26) dX12_cell_11 (by decide) (fun hc2 => ?_) (fun hc2 => ?_)
    · rw [if_pos hc2] at h
      refine ap_sub [0] rfl ?_
      exact AX12_cell_L26   h
    · rw [if_neg hc2] at h
      refine ap_iload_n dX12_cell_14 3 rfl rfl ?_
      refine ap_i2l (v := x3.toInt64) dX12_cell_15 rfl ?_
      refine ap_lconst (v := 0) dX12_cell_16 (by decide) ?_
      refine ap_ldc2 (v := 2) wd_1097 dX12_cell_17 ?_
      refine ap_callS (As := [.long x3.toInt64, .long (0 : Int64), .long (2 : Int64)]) (st := []) (st1 := [.int (fX12_in x3.toInt64 (0 : Int64) (2 : Int64))]) (mcX12_in  (w := w) (zx := fX12_in x3.toInt64 (0 : Int64) (2 : Int64)) rfl) cs_X12_61 ⟨rfl, rfl, by decide, by decide⟩ rfl (Nat.le_of_ble_eq_true rfl) ⟨Nat.zero_le _, Nat.zero_le _⟩ dX12_cell_20 rfl rfl ?_
      refine ap_if_ne (tgt := 33) dX12_cell_23 (by decide) (fun hc3 => ?_) (fun hc3 => ?_)
      · rw [if_neg hc3] at h
        refine ap_aload_n dX12_cell_33 0 rfl rfl ?_
        obtain ⟨m4, hm4, h⟩ := Option.bind_eq_some_iff.mp h
        refine ap_callV (k := 77) (As := []) (st := []) (st1 := []) (mcX12_layHand  hm4) cv_X12_154 rfl ly_77 ⟨rfl, rfl, by decide, by decide⟩ rfl (Nat.le_of_ble_eq_true rfl) ⟨Nat.zero_le _, Nat.zero_le _⟩ dX12_cell_34 rfl rfl ?_
        refine ap_aload_n dX12_cell_37 0 rfl rfl ?_
        refine ap_iload_n dX12_cell_38 1 rfl rfl ?_
        refine ap_iload_n dX12_cell_39 2 rfl rfl ?_
        obtain ⟨a5, ha5, h⟩ := Option.bind_eq_some_iff.mp h
        refine ap_callV (k := 77) (As := [.int x1, .int x2]) (st := []) (st1 := [.int a5]) (mcX12_whose  (w := m4) ha5) cv_X12_146 rfl ly_77 ⟨rfl, rfl, by decide, by decide⟩ rfl (Nat.le_of_ble_eq_true rfl) ⟨Nat.zero_le _, Nat.zero_le _⟩ dX12_cell_40 rfl rfl ?_
        refine ap_istore (i := 4) (lv' := [(4, .int a5), (0, .ref (K.1 77)), (1, .int x1), (2, .int x2), (3, .int x3)]) dX12_cell_43 (by decide) rfl ?_
        refine ap_iload_n dX12_cell_45 4 rfl rfl ?_
        refine ap_if_ne (tgt := 58) dX12_cell_46 (by decide) (fun hc6 => ?_) (fun hc6 => ?_)
        · rw [if_neg hc6] at h
          refine ap_iload_n dX12_cell_58 4 rfl rfl ?_
          refine ap_iconst (v := 1) dX12_cell_59 (by decide) ?_
          refine ap_icmp_ne (tgt := 79) dX12_cell_60 (by decide) (fun hc7 => ?_) (fun hc7 => ?_)
          · rw [if_neg hc7] at h
            refine ap_iload dX12_cell_79 0 rfl ?_
            refine ap_bipush (v := -2) dX12_cell_81 (by decide) ?_
            refine ap_icmp_ne (tgt := 90) dX12_cell_83 (by decide) (fun hc8 => ?_) (fun hc8 => ?_)
            · rw [if_neg hc8] at h
              refine ap_iconst (v := 0) dX12_cell_90 (by decide) ?_
              obtain ⟨rfl, rfl⟩ := Prod.mk.inj (Option.some.inj h)
              exact ap_iret rfl dX12_cell_91
            · rw [if_pos hc8] at h
              refine ap_iconst (v := 1) dX12_cell_86 (by decide) ?_
              refine ap_goto (tgt := 91) dX12_cell_87 (by decide) ?_
              obtain ⟨rfl, rfl⟩ := Prod.mk.inj (Option.some.inj h)
              exact ap_iret rfl dX12_cell_91
          · rw [if_pos hc7] at h
            refine ap_iload dX12_cell_63 0 rfl ?_
            refine ap_bipush (v := -2) dX12_cell_65 (by decide) ?_
            refine ap_icmp_ne (tgt := 74) dX12_cell_67 (by decide) (fun hc9 => ?_) (fun hc9 => ?_)
            · rw [if_neg hc9] at h
              refine ap_iload dX12_cell_74 0 rfl ?_
              refine ap_goto (tgt := 91) dX12_cell_76 (by decide) ?_
              obtain ⟨rfl, rfl⟩ := Prod.mk.inj (Option.some.inj h)
              exact ap_iret rfl dX12_cell_91
            · rw [if_pos hc9] at h
              refine ap_iconst (v := -1) dX12_cell_70 (by decide) ?_
              refine ap_goto (tgt := 91) dX12_cell_71 (by decide) ?_
              obtain ⟨rfl, rfl⟩ := Prod.mk.inj (Option.some.inj h)
              exact ap_iret rfl dX12_cell_91
        · rw [if_pos hc6] at h
          refine ap_aload_n dX12_cell_49 1 rfl rfl ?_
          refine ap_iload_n dX12_cell_50 2 rfl rfl ?_
          refine ap_iload_n dX12_cell_51 3 rfl rfl ?_
          obtain ⟨a10, ha10, h⟩ := Option.bind_eq_some_iff.mp h
          refine ap_callV (k := 77) (As := [.int x1, .int x2]) (st := []) (st1 := [.int a10]) (mcX12_lightIn  (w := m4) ha10) cv_X12_143 rfl ly_77 ⟨rfl, rfl, by decide, by decide⟩ rfl (Nat.le_of_ble_eq_true rfl) ⟨Nat.zero_le _, Nat.zero_le _⟩ dX12_cell_52 rfl rfl ?_
          refine ap_goto (tgt := 91) dX12_cell_55 (by decide) ?_
          obtain ⟨rfl, rfl⟩ := Prod.mk.inj (Option.some.inj h)
          exact ap_iret rfl dX12_cell_91
      · rw [if_pos hc3] at h
        refine ap_sub [0] rfl ?_
        exact AX12_cell_L26   h
theorem mcX12_cell {l : Launch} {K : Kt} {N : Nat}  {w : Mm} {x1 : Int32} {x2 : Int32} {x3 : Int32} {zx : Int32} {zw : Mm} (h : fX12_cell N w x1 x2 x3 = some (zx, zw)) : MC l K yX12_cell cX12_cell 5 (some .int) rmX12_cell w [.ref (K.1 77), .int x1, .int x2, .int x3] (some (.int zx)) zw :=
  MC.of (by decide) (Nat.le_of_ble_eq_true rfl) rfl (AX12_cell  h)
def fX12_listOf_L45 (N : Nat) (k14 : Mm → Int32 → Int32 → Int32 → Int32 → Int32 → Int32 → Option (Int32 × Mm)) (w : Mm) (x1 : Int32) (x2 : Int32) (x3 : Int32) (x4 : Int32) (x6 : Int32) (t0 : Int32) : Option (Int32 × Mm) :=
k14 w x1 x2 x3 (x4 + 1) t0 (x6 + 1)
set_option maxRecDepth 100000 in
set_option maxHeartbeats 4000000 in
theorem AX12_listOf_L45 {l : Launch} {K : Kt} {N : Nat} {k14 : Mm → Int32 → Int32 → Int32 → Int32 → Int32 → Int32 → Option (Int32 × Mm)} (hk14 : ∀ (w : Mm) (x1 : Int32) (x2 : Int32) (x3 : Int32) (x4 : Int32) (x5 : Int32) (x6 : Int32) (zx : Int32) (zw : Mm), k14 w x1 x2 x3 x4 x5 x6 = some (zx, zw) → AW l K cX12_listOf RX12 7 (some .int) rmX12_listOf 0 0 ap_E (ap_F K (some (.int zx)) zw) w 14 [(0, .ref (K.1 77)), (1, .int x1), (2, .int x2), (3, .int x3), (4, .int x4), (5, .int x5), (6, .int x6)] [])  {w : Mm} {x1 : Int32} {x2 : Int32} {x3 : Int32} {x4 : Int32} {x6 : Int32} {t0 : Int32} {zx : Int32} {zw : Mm} (h : fX12_listOf_L45 N k14 w x1 x2 x3 x4 x6 t0 = some (zx, zw)) : AW l K cX12_listOf RX12 7 (some .int) rmX12_listOf 0 0 ap_E (ap_F K (some (.int zx)) zw) w 45 [(0, .ref (K.1 77)), (1, .int x1), (2, .int x2), (3, .int x3), (4, .int x4), (6, .int x6)] [.int t0] := by
  unfold fX12_listOf_L45 at h
  refine ap_istore (i := 5) (lv' := [(5, .int t0), (0, .ref (K.1 77)), (1, .int x1), (2, .int x2), (3, .int x3), (4, .int x4), (6, .int x6)]) dX12_listOf_45 (by decide) rfl ?_
  refine ap_iinc (v := x4 + 1) (lv' := [(4, .int (x4 + 1)), (5, .int t0), (0, .ref (K.1 77)), (1, .int x1), (2, .int x2), (3, .int x3), (6, .int x6)]) dX12_listOf_47 5 rfl rfl (by decide) rfl ?_
  refine ap_iinc (v := x6 + 1) (lv' := [(6, .int (x6 + 1)), (4, .int (x4 + 1)), (5, .int t0), (0, .ref (K.1 77)), (1, .int x1), (2, .int x2), (3, .int x3)]) dX12_listOf_50 6 rfl rfl (by decide) rfl ?_
  refine ap_goto (tgt := 14) dX12_listOf_53 (by decide) ?_
  refine ap_sub [3, 4, 5, 6, 1, 2, 0] rfl ?_
  exact hk14 _ _ _ _ _ _ _ _ _ h
def fX12_listOf_L14 (N : Nat) : Nat → Mm → Int32 → Int32 → Int32 → Int32 → Int32 → Int32 → Option (Int32 × Mm)
  | 0, _, _, _, _, _, _, _ => none
  | n0 + 1, w, x1, x2, x3, x4, x5, x6 => if (64 : Int32) ≤ x6 then (
if x3 = (-1 : Int32) then (
some (x4, w))
else (
some (x5, w)))
else (
Option.bind (fX12_whose N w x6 x2) fun a4 =>
if a4 = x1 then (
if x4 = x3 then (
fX12_listOf_L45 N (fX12_listOf_L14 N n0) w x1 x2 x3 x4 x6 x6)
else (
fX12_listOf_L45 N (fX12_listOf_L14 N n0) w x1 x2 x3 x4 x6 x5))
else (
(fX12_listOf_L14 N n0) w x1 x2 x3 x4 x5 (x6 + 1)))
set_option maxRecDepth 100000 in
set_option maxHeartbeats 4000000 in
theorem AX12_listOf_L14 {l : Launch} {K : Kt} {N : Nat}   : ∀ (n0 : Nat) (w : Mm) (x1 : Int32) (x2 : Int32) (x3 : Int32) (x4 : Int32) (x5 : Int32) (x6 : Int32) {zx : Int32} {zw : Mm}, fX12_listOf_L14 N n0 w x1 x2 x3 x4 x5 x6 = some (zx, zw) → AW l K cX12_listOf RX12 7 (some .int) rmX12_listOf 0 0 ap_E (ap_F K (some (.int zx)) zw) w 14 [(0, .ref (K.1 77)), (1, .int x1), (2, .int x2), (3, .int x3), (4, .int x4), (5, .int x5), (6, .int x6)] [] := by
  intro n0
  induction n0 with
  | zero =>
    intro w x1 x2 x3 x4 x5 x6 zx zw h
    cases h
  | succ n0 ih =>
    intro w x1 x2 x3 x4 x5 x6 zx zw h
    rw [fX12_listOf_L14] at h
    refine ap_iload dX12_listOf_14 6 rfl ?_
    refine ap_bipush (v := 64) dX12_listOf_16 (by decide) ?_
    refine ap_icmp_ge (tgt := 56) dX12_listOf_18 (by decide) (fun hc2 => ?_) (fun hc2 => ?_)
    · rw [if_pos hc2] at h
      refine ap_iload_n dX12_listOf_56 3 rfl rfl ?_
      refine ap_iconst (v := -1) dX12_listOf_57 (by decide) ?_
      refine ap_icmp_ne (tgt := 66) dX12_listOf_58 (by decide) (fun hc3 => ?_) (fun hc3 => ?_)
      · rw [if_neg hc3] at h
        refine ap_iload dX12_listOf_66 5 rfl ?_
        obtain ⟨rfl, rfl⟩ := Prod.mk.inj (Option.some.inj h)
        exact ap_iret rfl dX12_listOf_68
      · rw [if_pos hc3] at h
        refine ap_iload dX12_listOf_61 4 rfl ?_
        refine ap_goto (tgt := 68) dX12_listOf_63 (by decide) ?_
        obtain ⟨rfl, rfl⟩ := Prod.mk.inj (Option.some.inj h)
        exact ap_iret rfl dX12_listOf_68
    · rw [if_neg hc2] at h
      refine ap_aload_n dX12_listOf_21 0 rfl rfl ?_
      refine ap_iload dX12_listOf_22 6 rfl ?_
      refine ap_iload_n dX12_listOf_24 2 rfl rfl ?_
      obtain ⟨a4, ha4, h⟩ := Option.bind_eq_some_iff.mp h
      refine ap_callV (k := 77) (As := [.int x6, .int x2]) (st := []) (st1 := [.int a4]) (mcX12_whose  (w := w) ha4) cv_X12_146 rfl ly_77 ⟨rfl, rfl, by decide, by decide⟩ rfl (Nat.le_of_ble_eq_true rfl) ⟨Nat.zero_le _, Nat.zero_le _⟩ dX12_listOf_25 rfl rfl ?_
      refine ap_iload_n dX12_listOf_28 1 rfl rfl ?_
      refine ap_icmp_ne (tgt := 50) dX12_listOf_29 (by decide) (fun hc5 => ?_) (fun hc5 => ?_)
      · rw [if_neg hc5] at h
        refine ap_iinc (v := x6 + 1) (lv' := [(6, .int (x6 + 1)), (0, .ref (K.1 77)), (1, .int x1), (2, .int x2), (3, .int x3), (4, .int x4), (5, .int x5)]) dX12_listOf_50 6 rfl rfl (by decide) rfl ?_
        refine ap_goto (tgt := 14) dX12_listOf_53 (by decide) ?_
        refine ap_sub [1, 2, 3, 4, 5, 6, 0] rfl ?_
        exact ih _ _ _ _ _ _ _ h
      · rw [if_pos hc5] at h
        refine ap_iload dX12_listOf_32 4 rfl ?_
        refine ap_iload_n dX12_listOf_34 3 rfl rfl ?_
        refine ap_icmp_ne (tgt := 43) dX12_listOf_35 (by decide) (fun hc6 => ?_) (fun hc6 => ?_)
        · rw [if_neg hc6] at h
          refine ap_iload dX12_listOf_43 5 rfl ?_
          refine ap_sub [0, 1, 2, 3, 4, 6] rfl ?_
          exact AX12_listOf_L45 (fun q0 q1 q2 q3 q4 q5 q6 q7 q8 hq => ih q0 q1 q2 q3 q4 q5 q6 hq)  h
        · rw [if_pos hc6] at h
          refine ap_iload dX12_listOf_38 6 rfl ?_
          refine ap_goto (tgt := 45) dX12_listOf_40 (by decide) ?_
          refine ap_sub [0, 1, 2, 3, 4, 6] rfl ?_
          exact AX12_listOf_L45 (fun q0 q1 q2 q3 q4 q5 q6 q7 q8 hq => ih q0 q1 q2 q3 q4 q5 q6 hq)  h
def fX12_listOf (N : Nat) (w : Mm) (x1 : Int32) (x2 : Int32) (x3 : Int32) : Option (Int32 × Mm) :=
Option.bind (fX12_layHand N w) fun m1 =>
fX12_listOf_L14 N N m1 x1 x2 x3 (0 : Int32) (-5 : Int32) (0 : Int32)
set_option maxRecDepth 100000 in
set_option maxHeartbeats 4000000 in
theorem AX12_listOf {l : Launch} {K : Kt} {N : Nat}  {w : Mm} {x1 : Int32} {x2 : Int32} {x3 : Int32} {zx : Int32} {zw : Mm} (h : fX12_listOf N w x1 x2 x3 = some (zx, zw)) : AW l K cX12_listOf RX12 7 (some .int) rmX12_listOf 0 0 ap_E (ap_F K (some (.int zx)) zw) w 0 [(0, .ref (K.1 77)), (1, .int x1), (2, .int x2), (3, .int x3)] [] := by
  unfold fX12_listOf at h
  refine ap_iconst (v := 0) dX12_listOf_0 (by decide) ?_
  refine ap_istore (i := 4) (lv' := [(4, .int (0 : Int32)), (0, .ref (K.1 77)), (1, .int x1), (2, .int x2), (3, .int x3)]) dX12_listOf_1 (by decide) rfl ?_
  refine ap_bipush (v := -5) dX12_listOf_3 (by decide) ?_
  refine ap_istore (i := 5) (lv' := [(5, .int (-5 : Int32)), (4, .int (0 : Int32)), (0, .ref (K.1 77)), (1, .int x1), (2, .int x2), (3, .int x3)]) dX12_listOf_5 (by decide) rfl ?_
  refine ap_aload_n dX12_listOf_7 2 rfl rfl ?_
  obtain ⟨m1, hm1, h⟩ := Option.bind_eq_some_iff.mp h
  refine ap_callV (k := 77) (As := []) (st := []) (st1 := []) (mcX12_layHand  hm1) cv_X12_154 rfl ly_77 ⟨rfl, rfl, by decide, by decide⟩ rfl (Nat.le_of_ble_eq_true rfl) ⟨Nat.zero_le _, Nat.zero_le _⟩ dX12_listOf_8 rfl rfl ?_
  refine ap_iconst (v := 0) dX12_listOf_11 (by decide) ?_
  refine ap_istore (i := 6) (lv' := [(6, .int (0 : Int32)), (5, .int (-5 : Int32)), (4, .int (0 : Int32)), (0, .ref (K.1 77)), (1, .int x1), (2, .int x2), (3, .int x3)]) dX12_listOf_12 (by decide) rfl ?_
  refine ap_sub [3, 4, 5, 6, 2, 1, 0] rfl ?_
  exact AX12_listOf_L14  N _ _ _ _ _ _ _ h
theorem mcX12_listOf {l : Launch} {K : Kt} {N : Nat}  {w : Mm} {x1 : Int32} {x2 : Int32} {x3 : Int32} {zx : Int32} {zw : Mm} (h : fX12_listOf N w x1 x2 x3 = some (zx, zw)) : MC l K yX12_listOf cX12_listOf 7 (some .int) rmX12_listOf w [.ref (K.1 77), .int x1, .int x2, .int x3] (some (.int zx)) zw :=
  MC.of (by decide) (Nat.le_of_ble_eq_true rfl) rfl (AX12_listOf  h)
def fX12_acres_L29 (N : Nat) (w : Mm) : Option (Int32 × Mm) :=
ob2 (some (fX12_bad w (-10 : Int32))) fun a6 m7 =>
some (a6, m7)
set_option maxRecDepth 100000 in
set_option maxHeartbeats 4000000 in
theorem AX12_acres_L29 {l : Launch} {K : Kt} {N : Nat}   {w : Mm} {zx : Int32} {zw : Mm} (h : fX12_acres_L29 N w = some (zx, zw)) : AW l K cX12_acres RX12 4 (some .int) rmX12_acres 0 0 ap_E (ap_F K (some (.int zx)) zw) w 29 [(0, .ref (K.1 77))] [] := by
  unfold fX12_acres_L29 at h
  refine ap_aload_n dX12_acres_29 0 rfl rfl ?_
  refine ap_bipush (v := -10) dX12_acres_30 (by decide) ?_
  obtain ⟨a6, m7, ha6, h⟩ := ob2_iff h
  refine ap_callV (k := 77) (As := [.int (-10 : Int32)]) (st := []) (st1 := [.int a6]) (mcX12_bad  (Option.some.inj ha6)) cv_X12_75 rfl ly_77 ⟨rfl, rfl, by decide, by decide⟩ rfl (Nat.le_of_ble_eq_true rfl) ⟨Nat.zero_le _, Nat.zero_le _⟩ dX12_acres_32 rfl rfl ?_
  obtain ⟨rfl, rfl⟩ := Prod.mk.inj (Option.some.inj h)
  exact ap_iret rfl dX12_acres_35
def fX12_acres (N : Nat) (w : Mm) (x1 : Int32) (x2 : Int32) (x3 : Int32) : Option (Int32 × Mm) :=
if (fX12_isOwner x1) = (0 : Int32) then (
fX12_acres_L29 N w)
else (
if (fX12_isHour x2) = (0 : Int32) then (
fX12_acres_L29 N w)
else (
if x3 < (-1 : Int32) then (
fX12_acres_L29 N w)
else (
ob2 (fX12_listOf N w x1 x2 x3) fun a4 m5 =>
some (a4, m5))))
set_option maxRecDepth 100000 in
set_option maxHeartbeats 4000000 in
theorem AX12_acres {l : Launch} {K : Kt} {N : Nat}  {w : Mm} {x1 : Int32} {x2 : Int32} {x3 : Int32} {zx : Int32} {zw : Mm} (h : fX12_acres N w x1 x2 x3 = some (zx, zw)) : AW l K cX12_acres RX12 4 (some .int) rmX12_acres 0 0 ap_E (ap_F K (some (.int zx)) zw) w 0 [(0, .ref (K.1 77)), (1, .int x1), (2, .int x2), (3, .int x3)] [] := by
  unfold fX12_acres at h
  refine ap_iload_n dX12_acres_0 1 rfl rfl ?_
  refine ap_callS (As := [.int x1]) (st := []) (st1 := [.int (fX12_isOwner x1)]) (mcX12_isOwner  (w := w) (zx := fX12_isOwner x1) rfl) cs_X12_92 ⟨rfl, rfl, by decide, by decide⟩ rfl (Nat.le_of_ble_eq_true rfl) ⟨Nat.zero_le _, Nat.zero_le _⟩ dX12_acres_1 rfl rfl ?_
  refine ap_if_eq (tgt := 29) dX12_acres_4 (by decide) (fun hc1 => ?_) (fun hc1 => ?_)
  · rw [if_pos hc1] at h
    refine ap_sub [0] rfl ?_
    exact AX12_acres_L29   h
  · rw [if_neg hc1] at h
    refine ap_iload_n dX12_acres_7 2 rfl rfl ?_
    refine ap_callS (As := [.int x2]) (st := []) (st1 := [.int (fX12_isHour x2)]) (mcX12_isHour  (w := w) (zx := fX12_isHour x2) rfl) cs_X12_151 ⟨rfl, rfl, by decide, by decide⟩ rfl (Nat.le_of_ble_eq_true rfl) ⟨Nat.zero_le _, Nat.zero_le _⟩ dX12_acres_8 rfl rfl ?_
    refine ap_if_eq (tgt := 29) dX12_acres_11 (by decide) (fun hc2 => ?_) (fun hc2 => ?_)
    · rw [if_pos hc2] at h
      refine ap_sub [0] rfl ?_
      exact AX12_acres_L29   h
    · rw [if_neg hc2] at h
      refine ap_iload_n dX12_acres_14 3 rfl rfl ?_
      refine ap_iconst (v := -1) dX12_acres_15 (by decide) ?_
      refine ap_icmp_lt (tgt := 29) dX12_acres_16 (by decide) (fun hc3 => ?_) (fun hc3 => ?_)
      · rw [if_pos hc3] at h
        refine ap_sub [0] rfl ?_
        exact AX12_acres_L29   h
      · rw [if_neg hc3] at h
        refine ap_aload_n dX12_acres_19 0 rfl rfl ?_
        refine ap_iload_n dX12_acres_20 1 rfl rfl ?_
        refine ap_iload_n dX12_acres_21 2 rfl rfl ?_
        refine ap_iload_n dX12_acres_22 3 rfl rfl ?_
        obtain ⟨a4, m5, ha4, h⟩ := ob2_iff h
        refine ap_callV (k := 77) (As := [.int x1, .int x2, .int x3]) (st := []) (st1 := [.int a4]) (mcX12_listOf  ha4) cv_X12_159 rfl ly_77 ⟨rfl, rfl, by decide, by decide⟩ rfl (Nat.le_of_ble_eq_true rfl) ⟨Nat.zero_le _, Nat.zero_le _⟩ dX12_acres_23 rfl rfl ?_
        refine ap_goto (tgt := 35) dX12_acres_26 (by decide) ?_
        obtain ⟨rfl, rfl⟩ := Prod.mk.inj (Option.some.inj h)
        exact ap_iret rfl dX12_acres_35
theorem mcX12_acres {l : Launch} {K : Kt} {N : Nat}  {w : Mm} {x1 : Int32} {x2 : Int32} {x3 : Int32} {zx : Int32} {zw : Mm} (h : fX12_acres N w x1 x2 x3 = some (zx, zw)) : MC l K yX12_acres cX12_acres 4 (some .int) rmX12_acres w [.ref (K.1 77), .int x1, .int x2, .int x3] (some (.int zx)) zw :=
  MC.of (by decide) (Nat.le_of_ble_eq_true rfl) rfl (AX12_acres  h)
def fX12_hedges_L23 (N : Nat) (w : Mm) : Option (Int32 × Mm) :=
ob2 (some (fX12_bad w (-10 : Int32))) fun a5 m6 =>
some (a5, m6)
set_option maxRecDepth 100000 in
set_option maxHeartbeats 4000000 in
theorem AX12_hedges_L23 {l : Launch} {K : Kt} {N : Nat}   {w : Mm} {zx : Int32} {zw : Mm} (h : fX12_hedges_L23 N w = some (zx, zw)) : AW l K cX12_hedges RX12 3 (some .int) rmX12_hedges 0 0 ap_E (ap_F K (some (.int zx)) zw) w 23 [(0, .ref (K.1 77))] [] := by
  unfold fX12_hedges_L23 at h
  refine ap_aload_n dX12_hedges_23 0 rfl rfl ?_
  refine ap_bipush (v := -10) dX12_hedges_24 (by decide) ?_
  obtain ⟨a5, m6, ha5, h⟩ := ob2_iff h
  refine ap_callV (k := 77) (As := [.int (-10 : Int32)]) (st := []) (st1 := [.int a5]) (mcX12_bad  (Option.some.inj ha5)) cv_X12_75 rfl ly_77 ⟨rfl, rfl, by decide, by decide⟩ rfl (Nat.le_of_ble_eq_true rfl) ⟨Nat.zero_le _, Nat.zero_le _⟩ dX12_hedges_26 rfl rfl ?_
  obtain ⟨rfl, rfl⟩ := Prod.mk.inj (Option.some.inj h)
  exact ap_iret rfl dX12_hedges_29
def fX12_hedges (N : Nat) (w : Mm) (x1 : Int32) (x2 : Int32) : Option (Int32 × Mm) :=
if (fX12_isHour x1) = (0 : Int32) then (
fX12_hedges_L23 N w)
else (
if x2 < (-1 : Int32) then (
fX12_hedges_L23 N w)
else (
ob2 (fX12_listOf N w (-2 : Int32) x1 x2) fun a3 m4 =>
some (a3, m4)))
set_option maxRecDepth 100000 in
set_option maxHeartbeats 4000000 in
theorem AX12_hedges {l : Launch} {K : Kt} {N : Nat}  {w : Mm} {x1 : Int32} {x2 : Int32} {zx : Int32} {zw : Mm} (h : fX12_hedges N w x1 x2 = some (zx, zw)) : AW l K cX12_hedges RX12 3 (some .int) rmX12_hedges 0 0 ap_E (ap_F K (some (.int zx)) zw) w 0 [(0, .ref (K.1 77)), (1, .int x1), (2, .int x2)] [] := by
  unfold fX12_hedges at h
  refine ap_iload_n dX12_hedges_0 1 rfl rfl ?_
  refine ap_callS (As := [.int x1]) (st := []) (st1 := [.int (fX12_isHour x1)]) (mcX12_isHour  (w := w) (zx := fX12_isHour x1) rfl) cs_X12_151 ⟨rfl, rfl, by decide, by decide⟩ rfl (Nat.le_of_ble_eq_true rfl) ⟨Nat.zero_le _, Nat.zero_le _⟩ dX12_hedges_1 rfl rfl ?_
  refine ap_if_eq (tgt := 23) dX12_hedges_4 (by decide) (fun hc1 => ?_) (fun hc1 => ?_)
  · rw [if_pos hc1] at h
    refine ap_sub [0] rfl ?_
    exact AX12_hedges_L23   h
  · rw [if_neg hc1] at h
    refine ap_iload_n dX12_hedges_7 2 rfl rfl ?_
    refine ap_iconst (v := -1) dX12_hedges_8 (by decide) ?_
    refine ap_icmp_lt (tgt := 23) dX12_hedges_9 (by decide) (fun hc2 => ?_) (fun hc2 => ?_)
    · rw [if_pos hc2] at h
      refine ap_sub [0] rfl ?_
      exact AX12_hedges_L23   h
    · rw [if_neg hc2] at h
      refine ap_aload_n dX12_hedges_12 0 rfl rfl ?_
      refine ap_bipush (v := -2) dX12_hedges_13 (by decide) ?_
      refine ap_iload_n dX12_hedges_15 1 rfl rfl ?_
      refine ap_iload_n dX12_hedges_16 2 rfl rfl ?_
      obtain ⟨a3, m4, ha3, h⟩ := ob2_iff h
      refine ap_callV (k := 77) (As := [.int (-2 : Int32), .int x1, .int x2]) (st := []) (st1 := [.int a3]) (mcX12_listOf  ha3) cv_X12_159 rfl ly_77 ⟨rfl, rfl, by decide, by decide⟩ rfl (Nat.le_of_ble_eq_true rfl) ⟨Nat.zero_le _, Nat.zero_le _⟩ dX12_hedges_17 rfl rfl ?_
      refine ap_goto (tgt := 29) dX12_hedges_20 (by decide) ?_
      obtain ⟨rfl, rfl⟩ := Prod.mk.inj (Option.some.inj h)
      exact ap_iret rfl dX12_hedges_29
theorem mcX12_hedges {l : Launch} {K : Kt} {N : Nat}  {w : Mm} {x1 : Int32} {x2 : Int32} {zx : Int32} {zw : Mm} (h : fX12_hedges N w x1 x2 = some (zx, zw)) : MC l K yX12_hedges cX12_hedges 3 (some .int) rmX12_hedges w [.ref (K.1 77), .int x1, .int x2] (some (.int zx)) zw :=
  MC.of (by decide) (Nat.le_of_ble_eq_true rfl) rfl (AX12_hedges  h)
def fX12_dark_L21 (N : Nat) (w : Mm) : Option (Int32 × Mm) :=
ob2 (some (fX12_bad w (-2 : Int32))) fun a8 m9 =>
some (a8, m9)
set_option maxRecDepth 100000 in
set_option maxHeartbeats 4000000 in
theorem AX12_dark_L21 {l : Launch} {K : Kt} {N : Nat}   {w : Mm} {zx : Int32} {zw : Mm} (h : fX12_dark_L21 N w = some (zx, zw)) : AW l K cX12_dark RX12 5 (some .int) rmX12_dark 0 0 ap_E (ap_F K (some (.int zx)) zw) w 21 [(0, .ref (K.1 77))] [] := by
  unfold fX12_dark_L21 at h
  refine ap_aload_n dX12_dark_21 0 rfl rfl ?_
  refine ap_bipush (v := -2) dX12_dark_22 (by decide) ?_
  obtain ⟨a8, m9, ha8, h⟩ := ob2_iff h
  refine ap_callV (k := 77) (As := [.int (-2 : Int32)]) (st := []) (st1 := [.int a8]) (mcX12_bad  (Option.some.inj ha8)) cv_X12_75 rfl ly_77 ⟨rfl, rfl, by decide, by decide⟩ rfl (Nat.le_of_ble_eq_true rfl) ⟨Nat.zero_le _, Nat.zero_le _⟩ dX12_dark_24 rfl rfl ?_
  obtain ⟨rfl, rfl⟩ := Prod.mk.inj (Option.some.inj h)
  exact ap_iret rfl dX12_dark_27
def fX12_dark_L35 (N : Nat) : Nat → Mm → Int32 → Int32 → Int32 → Option (Int32 × Mm)
  | 0, _, _, _, _ => none
  | n0 + 1, w, x1, x3, x4 => if (12 : Int32) ≤ x4 then (
some (x4, w))
else (
Option.bind (fX12_lightIn N w x1 x4) fun a6 =>
if a6 < x3 then (
some (x4, w))
else (
(fX12_dark_L35 N n0) w x1 x3 (x4 + 1)))
set_option maxRecDepth 100000 in
set_option maxHeartbeats 4000000 in
theorem AX12_dark_L35 {l : Launch} {K : Kt} {N : Nat}   : ∀ (n0 : Nat) (w : Mm) (x1 : Int32) (x3 : Int32) (x4 : Int32) {zx : Int32} {zw : Mm}, fX12_dark_L35 N n0 w x1 x3 x4 = some (zx, zw) → AW l K cX12_dark RX12 5 (some .int) rmX12_dark 0 0 ap_E (ap_F K (some (.int zx)) zw) w 35 [(0, .ref (K.1 77)), (1, .int x1), (3, .int x3), (4, .int x4)] [] := by
  intro n0
  induction n0 with
  | zero =>
    intro w x1 x3 x4 zx zw h
    cases h
  | succ n0 ih =>
    intro w x1 x3 x4 zx zw h
    rw [fX12_dark_L35] at h
    refine ap_iload dX12_dark_35 3 rfl ?_
    refine ap_bipush (v := 12) dX12_dark_37 (by decide) ?_
    refine ap_icmp_ge (tgt := 59) dX12_dark_39 (by decide) (fun hc5 => ?_) (fun hc5 => ?_)
    · rw [if_pos hc5] at h
      refine ap_iload dX12_dark_59 3 rfl ?_
      obtain ⟨rfl, rfl⟩ := Prod.mk.inj (Option.some.inj h)
      exact ap_iret rfl dX12_dark_61
    · rw [if_neg hc5] at h
      refine ap_aload_n dX12_dark_42 0 rfl rfl ?_
      refine ap_iload_n dX12_dark_43 1 rfl rfl ?_
      refine ap_iload dX12_dark_44 3 rfl ?_
      obtain ⟨a6, ha6, h⟩ := Option.bind_eq_some_iff.mp h
      refine ap_callV (k := 77) (As := [.int x1, .int x4]) (st := []) (st1 := [.int a6]) (mcX12_lightIn  (w := w) ha6) cv_X12_143 rfl ly_77 ⟨rfl, rfl, by decide, by decide⟩ rfl (Nat.le_of_ble_eq_true rfl) ⟨Nat.zero_le _, Nat.zero_le _⟩ dX12_dark_46 rfl rfl ?_
      refine ap_iload_n dX12_dark_49 2 rfl rfl ?_
      refine ap_icmp_lt (tgt := 59) dX12_dark_50 (by decide) (fun hc7 => ?_) (fun hc7 => ?_)
      · rw [if_pos hc7] at h
        refine ap_iload dX12_dark_59 3 rfl ?_
        obtain ⟨rfl, rfl⟩ := Prod.mk.inj (Option.some.inj h)
        exact ap_iret rfl dX12_dark_61
      · rw [if_neg hc7] at h
        refine ap_iinc (v := x4 + 1) (lv' := [(4, .int (x4 + 1)), (0, .ref (K.1 77)), (1, .int x1), (3, .int x3)]) dX12_dark_53 3 rfl rfl (by decide) rfl ?_
        refine ap_goto (tgt := 35) dX12_dark_56 (by decide) ?_
        refine ap_sub [1, 2, 3, 0] rfl ?_
        exact ih _ _ _ _ h
def fX12_dark (N : Nat) (w : Mm) (x1 : Int32) (x2 : Int32) (x3 : Int32) : Option (Int32 × Mm) :=
if (fX12_isCell x1) = (0 : Int32) then (
fX12_dark_L21 N w)
else (
if (fX12_isHour x2) = (0 : Int32) then (
fX12_dark_L21 N w)
else (
if (fX12_isLight x3) = (0 : Int32) then (
fX12_dark_L21 N w)
else (
Option.bind (fX12_layHand N w) fun m4 =>
fX12_dark_L35 N N m4 x1 x3 x2)))
set_option maxRecDepth 100000 in
set_option maxHeartbeats 4000000 in
theorem AX12_dark {l : Launch} {K : Kt} {N : Nat}  {w : Mm} {x1 : Int32} {x2 : Int32} {x3 : Int32} {zx : Int32} {zw : Mm} (h : fX12_dark N w x1 x2 x3 = some (zx, zw)) : AW l K cX12_dark RX12 5 (some .int) rmX12_dark 0 0 ap_E (ap_F K (some (.int zx)) zw) w 0 [(0, .ref (K.1 77)), (1, .int x1), (2, .int x2), (3, .int x3)] [] := by
  unfold fX12_dark at h
  refine ap_iload_n dX12_dark_0 1 rfl rfl ?_
  refine ap_callS (As := [.int x1]) (st := []) (st1 := [.int (fX12_isCell x1)]) (mcX12_isCell  (w := w) (zx := fX12_isCell x1) rfl) cs_X12_85 ⟨rfl, rfl, by decide, by decide⟩ rfl (Nat.le_of_ble_eq_true rfl) ⟨Nat.zero_le _, Nat.zero_le _⟩ dX12_dark_1 rfl rfl ?_
  refine ap_if_eq (tgt := 21) dX12_dark_4 (by decide) (fun hc1 => ?_) (fun hc1 => ?_)
  · rw [if_pos hc1] at h
    refine ap_sub [0] rfl ?_
    exact AX12_dark_L21   h
  · rw [if_neg hc1] at h
    refine ap_iload_n dX12_dark_7 2 rfl rfl ?_
    refine ap_callS (As := [.int x2]) (st := []) (st1 := [.int (fX12_isHour x2)]) (mcX12_isHour  (w := w) (zx := fX12_isHour x2) rfl) cs_X12_151 ⟨rfl, rfl, by decide, by decide⟩ rfl (Nat.le_of_ble_eq_true rfl) ⟨Nat.zero_le _, Nat.zero_le _⟩ dX12_dark_8 rfl rfl ?_
    refine ap_if_eq (tgt := 21) dX12_dark_11 (by decide) (fun hc2 => ?_) (fun hc2 => ?_)
    · rw [if_pos hc2] at h
      refine ap_sub [0] rfl ?_
      exact AX12_dark_L21   h
    · rw [if_neg hc2] at h
      refine ap_iload_n dX12_dark_14 3 rfl rfl ?_
      refine ap_callS (As := [.int x3]) (st := []) (st1 := [.int (fX12_isLight x3)]) (mcX12_isLight  (w := w) (zx := fX12_isLight x3) rfl) cs_X12_89 ⟨rfl, rfl, by decide, by decide⟩ rfl (Nat.le_of_ble_eq_true rfl) ⟨Nat.zero_le _, Nat.zero_le _⟩ dX12_dark_15 rfl rfl ?_
      refine ap_if_ne (tgt := 28) dX12_dark_18 (by decide) (fun hc3 => ?_) (fun hc3 => ?_)
      · rw [if_neg hc3] at h
        refine ap_aload_n dX12_dark_28 0 rfl rfl ?_
        obtain ⟨m4, hm4, h⟩ := Option.bind_eq_some_iff.mp h
        refine ap_callV (k := 77) (As := []) (st := []) (st1 := []) (mcX12_layHand  hm4) cv_X12_154 rfl ly_77 ⟨rfl, rfl, by decide, by decide⟩ rfl (Nat.le_of_ble_eq_true rfl) ⟨Nat.zero_le _, Nat.zero_le _⟩ dX12_dark_29 rfl rfl ?_
        refine ap_iload_n dX12_dark_32 2 rfl rfl ?_
        refine ap_istore (i := 4) (lv' := [(4, .int x2), (0, .ref (K.1 77)), (1, .int x1), (2, .int x2), (3, .int x3)]) dX12_dark_33 (by decide) rfl ?_
        refine ap_sub [1, 2, 4, 0] rfl ?_
        exact AX12_dark_L35  N _ _ _ _ h
      · rw [if_pos hc3] at h
        refine ap_sub [0] rfl ?_
        exact AX12_dark_L21   h
theorem mcX12_dark {l : Launch} {K : Kt} {N : Nat}  {w : Mm} {x1 : Int32} {x2 : Int32} {x3 : Int32} {zx : Int32} {zw : Mm} (h : fX12_dark N w x1 x2 x3 = some (zx, zw)) : MC l K yX12_dark cX12_dark 5 (some .int) rmX12_dark w [.ref (K.1 77), .int x1, .int x2, .int x3] (some (.int zx)) zw :=
  MC.of (by decide) (Nat.le_of_ble_eq_true rfl) rfl (AX12_dark  h)
def fX12_want (w : Mm) (x1 : Int32) : Option (Int32 × Mm) :=
if (fX12_isCell x1) = (0 : Int32) then (
ob2 (some (fX12_bad w (-2 : Int32))) fun a7 m8 =>
some (a7, m8))
else (
if (w.1 78 3) = (6 : Int32) then (
ob2 (some (fX12_full w)) fun a5 m6 =>
some (a5, m6))
else (
Option.bind (wrA w 78 129 ((41 : Int32) + (w.1 78 3)) x1) fun m3 =>
Option.bind (some (sI m3 78 3 ((m3.1 78 3) + (1 : Int32)))) fun m4 =>
some ((m4.1 78 3), m4)))
set_option maxRecDepth 100000 in
set_option maxHeartbeats 4000000 in
theorem AX12_want {l : Launch} {K : Kt}  {w : Mm} {x1 : Int32} {zx : Int32} {zw : Mm} (h : fX12_want w x1 = some (zx, zw)) : AW l K cX12_want RX12 2 (some .int) rmX12_want 0 0 ap_E (ap_F K (some (.int zx)) zw) w 0 [(0, .ref (K.1 77)), (1, .int x1)] [] := by
  unfold fX12_want at h
  refine ap_iload_n dX12_want_0 1 rfl rfl ?_
  refine ap_callS (As := [.int x1]) (st := []) (st1 := [.int (fX12_isCell x1)]) (mcX12_isCell  (w := w) (zx := fX12_isCell x1) rfl) cs_X12_85 ⟨rfl, rfl, by decide, by decide⟩ rfl (Nat.le_of_ble_eq_true rfl) ⟨Nat.zero_le _, Nat.zero_le _⟩ dX12_want_1 rfl rfl ?_
  refine ap_if_ne (tgt := 14) dX12_want_4 (by decide) (fun hc1 => ?_) (fun hc1 => ?_)
  · rw [if_neg hc1] at h
    refine ap_aload_n dX12_want_14 0 rfl rfl ?_
    refine ap_get (v := .ref (K.1 78)) fl_X12_7 ly_77 rfl rfl dX12_want_15 ?_
    refine ap_iconst (v := 3) dX12_want_18 (by decide) ?_
    refine ap_iald (x := (w.1 78 3)) ly_78 (rdA_c (by decide) (by decide)) dX12_want_19 ?_
    refine ap_bipush (v := 6) dX12_want_20 (by decide) ?_
    refine ap_icmp_ne (tgt := 30) dX12_want_22 (by decide) (fun hc2 => ?_) (fun hc2 => ?_)
    · rw [if_neg hc2] at h
      refine ap_aload_n dX12_want_30 0 rfl rfl ?_
      refine ap_get (v := .ref (K.1 78)) fl_X12_7 ly_77 rfl rfl dX12_want_31 ?_
      refine ap_bipush (v := 41) dX12_want_34 (by decide) ?_
      refine ap_aload_n dX12_want_36 0 rfl rfl ?_
      refine ap_get (v := .ref (K.1 78)) fl_X12_7 ly_77 rfl rfl dX12_want_37 ?_
      refine ap_iconst (v := 3) dX12_want_40 (by decide) ?_
      refine ap_iald (x := (w.1 78 3)) ly_78 (rdA_c (by decide) (by decide)) dX12_want_41 ?_
      refine ap_iadd dX12_want_42 ?_
      refine ap_iload_n dX12_want_43 1 rfl rfl ?_
      obtain ⟨m3, hm3, h⟩ := Option.bind_eq_some_iff.mp h
      refine ap_iast ly_78 hm3 dX12_want_44 ?_
      refine ap_aload_n dX12_want_45 0 rfl rfl ?_
      refine ap_get (v := .ref (K.1 78)) fl_X12_7 ly_77 rfl rfl dX12_want_46 ?_
      refine ap_iconst (v := 3) dX12_want_49 (by decide) ?_
      refine ap_dup2 dX12_want_50 rfl rfl ?_
      refine ap_iald (x := (m3.1 78 3)) ly_78 (rdA_c (by decide) (by decide)) dX12_want_51 ?_
      refine ap_iconst (v := 1) dX12_want_52 (by decide) ?_
      refine ap_iadd dX12_want_53 ?_
      obtain ⟨m4, hm4, h⟩ := Option.bind_eq_some_iff.mp h
      refine ap_iast ly_78 ((wrA_c (by decide) (by decide)).trans hm4) dX12_want_54 ?_
      refine ap_aload_n dX12_want_55 0 rfl rfl ?_
      refine ap_get (v := .ref (K.1 78)) fl_X12_7 ly_77 rfl rfl dX12_want_56 ?_
      refine ap_iconst (v := 3) dX12_want_59 (by decide) ?_
      refine ap_iald (x := (m4.1 78 3)) ly_78 (rdA_c (by decide) (by decide)) dX12_want_60 ?_
      obtain ⟨rfl, rfl⟩ := Prod.mk.inj (Option.some.inj h)
      exact ap_iret rfl dX12_want_61
    · rw [if_pos hc2] at h
      refine ap_aload_n dX12_want_25 0 rfl rfl ?_
      obtain ⟨a5, m6, ha5, h⟩ := ob2_iff h
      refine ap_callV (k := 77) (As := []) (st := []) (st1 := [.int a5]) (mcX12_full  (Option.some.inj ha5)) cv_X12_97 rfl ly_77 ⟨rfl, rfl, by decide, by decide⟩ rfl (Nat.le_of_ble_eq_true rfl) ⟨Nat.zero_le _, Nat.zero_le _⟩ dX12_want_26 rfl rfl ?_
      obtain ⟨rfl, rfl⟩ := Prod.mk.inj (Option.some.inj h)
      exact ap_iret rfl dX12_want_29
  · rw [if_pos hc1] at h
    refine ap_aload_n dX12_want_7 0 rfl rfl ?_
    refine ap_bipush (v := -2) dX12_want_8 (by decide) ?_
    obtain ⟨a7, m8, ha7, h⟩ := ob2_iff h
    refine ap_callV (k := 77) (As := [.int (-2 : Int32)]) (st := []) (st1 := [.int a7]) (mcX12_bad  (Option.some.inj ha7)) cv_X12_75 rfl ly_77 ⟨rfl, rfl, by decide, by decide⟩ rfl (Nat.le_of_ble_eq_true rfl) ⟨Nat.zero_le _, Nat.zero_le _⟩ dX12_want_10 rfl rfl ?_
    obtain ⟨rfl, rfl⟩ := Prod.mk.inj (Option.some.inj h)
    exact ap_iret rfl dX12_want_13
theorem mcX12_want {l : Launch} {K : Kt}  {w : Mm} {x1 : Int32} {zx : Int32} {zw : Mm} (h : fX12_want w x1 = some (zx, zw)) : MC l K yX12_want cX12_want 2 (some .int) rmX12_want w [.ref (K.1 77), .int x1] (some (.int zx)) zw :=
  MC.of (by decide) (Nat.le_of_ble_eq_true rfl) rfl (AX12_want  h)
def fX12_forget (w : Mm) : (Int32 × Mm) :=
((w.1 78 3), (sI w 78 3 (0 : Int32)))
set_option maxRecDepth 100000 in
set_option maxHeartbeats 4000000 in
theorem AX12_forget {l : Launch} {K : Kt}  {w : Mm} {zx : Int32} {zw : Mm} (h : fX12_forget w = (zx, zw)) : AW l K cX12_forget RX12 2 (some .int) rmX12_forget 0 0 ap_E (ap_F K (some (.int zx)) zw) w 0 [(0, .ref (K.1 77))] [] := by
  unfold fX12_forget at h
  refine ap_aload_n dX12_forget_0 0 rfl rfl ?_
  refine ap_get (v := .ref (K.1 78)) fl_X12_7 ly_77 rfl rfl dX12_forget_1 ?_
  refine ap_iconst (v := 3) dX12_forget_4 (by decide) ?_
  refine ap_iald (x := (w.1 78 3)) ly_78 (rdA_c (by decide) (by decide)) dX12_forget_5 ?_
  refine ap_istore_n (i := 1) (lv' := [(1, .int (w.1 78 3)), (0, .ref (K.1 77))]) dX12_forget_6 rfl (by decide) rfl ?_
  refine ap_aload_n dX12_forget_7 1 rfl rfl ?_
  refine ap_get (v := .ref (K.1 78)) fl_X12_7 ly_77 rfl rfl dX12_forget_8 ?_
  refine ap_iconst (v := 3) dX12_forget_11 (by decide) ?_
  refine ap_iconst (v := 0) dX12_forget_12 (by decide) ?_
  refine ap_iast (w1 := sI w 78 3 (0 : Int32)) ly_78 (wrA_c (by decide) (by decide)) dX12_forget_13 ?_
  refine ap_iload_n dX12_forget_14 0 rfl rfl ?_
  obtain ⟨rfl, rfl⟩ := Prod.mk.inj h
  exact ap_iret rfl dX12_forget_15
theorem mcX12_forget {l : Launch} {K : Kt}  {w : Mm} {zx : Int32} {zw : Mm} (h : fX12_forget w = (zx, zw)) : MC l K yX12_forget cX12_forget 2 (some .int) rmX12_forget w [.ref (K.1 77)] (some (.int zx)) zw :=
  MC.of (by decide) (Nat.le_of_ble_eq_true rfl) rfl (AX12_forget  h)
def fX12_areLight_L5 (N : Nat) (w : Mm) : Nat → Int32 → Int32 → Int32 → Int32 → Option Int32
  | 0, _, _, _, _ => none
  | n0 + 1, x1, x2, x3, x4 => if (w.1 78 3) ≤ x4 then (
Option.bind (bz x3) fun a2 =>
some a2)
else (
if x3 = (0 : Int32) then (
Option.bind (bz x3) fun a4 =>
some a4)
else (
Option.bind (rdA w 78 129 ((41 : Int32) + x4)) fun a5 =>
Option.bind (fX12_lightIn N w a5 x1) fun a6 =>
if a6 < x2 then (
(fX12_areLight_L5 N w n0) x1 x2 (0 : Int32) (x4 + 1))
else (
(fX12_areLight_L5 N w n0) x1 x2 (1 : Int32) (x4 + 1))))
set_option maxRecDepth 100000 in
set_option maxHeartbeats 4000000 in
theorem AX12_areLight_L5 {l : Launch} {K : Kt} {N : Nat} {w : Mm}   : ∀ (n0 : Nat) (x1 : Int32) (x2 : Int32) (x3 : Int32) (x4 : Int32) {zx : Int32}, fX12_areLight_L5 N w n0 x1 x2 x3 x4 = some zx → AW l K cX12_areLight RX12 5 (some .boolean) rmX12_areLight 0 0 ap_E (ap_F K (some (.int zx)) w) w 5 [(0, .ref (K.1 77)), (1, .int x1), (2, .int x2), (3, .int x3), (4, .int x4)] [] := by
  intro n0
  induction n0 with
  | zero =>
    intro x1 x2 x3 x4 zx h
    cases h
  | succ n0 ih =>
    intro x1 x2 x3 x4 zx h
    rw [fX12_areLight_L5] at h
    refine ap_iload dX12_areLight_5 4 rfl ?_
    refine ap_aload_n dX12_areLight_7 0 rfl rfl ?_
    refine ap_get (v := .ref (K.1 78)) fl_X12_7 ly_77 rfl rfl dX12_areLight_8 ?_
    refine ap_iconst (v := 3) dX12_areLight_11 (by decide) ?_
    refine ap_iald (x := (w.1 78 3)) ly_78 (rdA_c (by decide) (by decide)) dX12_areLight_12 ?_
    refine ap_icmp_ge (tgt := 51) dX12_areLight_13 (by decide) (fun hc1 => ?_) (fun hc1 => ?_)
    · rw [if_pos hc1] at h
      refine ap_iload_n dX12_areLight_51 3 rfl rfl ?_
      obtain ⟨a2, ha2, h⟩ := Option.bind_eq_some_iff.mp h
      obtain rfl := Option.some.inj h
      obtain ⟨ha2b, rfl⟩ := bz_some ha2
      exact ap_zret rfl ha2b dX12_areLight_52
    · rw [if_neg hc1] at h
      refine ap_iload_n dX12_areLight_16 3 rfl rfl ?_
      refine ap_if_eq (tgt := 51) dX12_areLight_17 (by decide) (fun hc3 => ?_) (fun hc3 => ?_)
      · rw [if_pos hc3] at h
        refine ap_iload_n dX12_areLight_51 3 rfl rfl ?_
        obtain ⟨a4, ha4, h⟩ := Option.bind_eq_some_iff.mp h
        obtain rfl := Option.some.inj h
        obtain ⟨ha4b, rfl⟩ := bz_some ha4
        exact ap_zret rfl ha4b dX12_areLight_52
      · rw [if_neg hc3] at h
        refine ap_aload_n dX12_areLight_20 0 rfl rfl ?_
        refine ap_aload_n dX12_areLight_21 0 rfl rfl ?_
        refine ap_get (v := .ref (K.1 78)) fl_X12_7 ly_77 rfl rfl dX12_areLight_22 ?_
        refine ap_bipush (v := 41) dX12_areLight_25 (by decide) ?_
        refine ap_iload dX12_areLight_27 4 rfl ?_
        refine ap_iadd dX12_areLight_29 ?_
        obtain ⟨a5, ha5, h⟩ := Option.bind_eq_some_iff.mp h
        refine ap_iald ly_78 ha5 dX12_areLight_30 ?_
        refine ap_iload_n dX12_areLight_31 1 rfl rfl ?_
        obtain ⟨a6, ha6, h⟩ := Option.bind_eq_some_iff.mp h
        refine ap_callV (k := 77) (As := [.int a5, .int x1]) (st := []) (st1 := [.int a6]) (mcX12_lightIn  (w := w) ha6) cv_X12_143 rfl ly_77 ⟨rfl, rfl, by decide, by decide⟩ rfl (Nat.le_of_ble_eq_true rfl) ⟨Nat.zero_le _, Nat.zero_le _⟩ dX12_areLight_32 rfl rfl ?_
        refine ap_iload_n dX12_areLight_35 2 rfl rfl ?_
        refine ap_icmp_lt (tgt := 43) dX12_areLight_36 (by decide) (fun hc7 => ?_) (fun hc7 => ?_)
        · rw [if_pos hc7] at h
          refine ap_iconst (v := 0) dX12_areLight_43 (by decide) ?_
          refine ap_istore_n (i := 3) (lv' := [(3, .int (0 : Int32)), (0, .ref (K.1 77)), (1, .int x1), (2, .int x2), (4, .int x4)]) dX12_areLight_44 rfl (by decide) rfl ?_
          refine ap_iinc (v := x4 + 1) (lv' := [(4, .int (x4 + 1)), (3, .int (0 : Int32)), (0, .ref (K.1 77)), (1, .int x1), (2, .int x2)]) dX12_areLight_45 4 rfl rfl (by decide) rfl ?_
          refine ap_goto (tgt := 5) dX12_areLight_48 (by decide) ?_
          refine ap_sub [2, 3, 4, 1, 0] rfl ?_
          exact ih _ _ _ _ h
        · rw [if_neg hc7] at h
          refine ap_iconst (v := 1) dX12_areLight_39 (by decide) ?_
          refine ap_goto (tgt := 44) dX12_areLight_40 (by decide) ?_
          refine ap_istore_n (i := 3) (lv' := [(3, .int (1 : Int32)), (0, .ref (K.1 77)), (1, .int x1), (2, .int x2), (4, .int x4)]) dX12_areLight_44 rfl (by decide) rfl ?_
          refine ap_iinc (v := x4 + 1) (lv' := [(4, .int (x4 + 1)), (3, .int (1 : Int32)), (0, .ref (K.1 77)), (1, .int x1), (2, .int x2)]) dX12_areLight_45 4 rfl rfl (by decide) rfl ?_
          refine ap_goto (tgt := 5) dX12_areLight_48 (by decide) ?_
          refine ap_sub [2, 3, 4, 1, 0] rfl ?_
          exact ih _ _ _ _ h
def fX12_areLight (N : Nat) (w : Mm) (x1 : Int32) (x2 : Int32) : Option Int32 :=
fX12_areLight_L5 N w N x1 x2 (1 : Int32) (0 : Int32)
set_option maxRecDepth 100000 in
set_option maxHeartbeats 4000000 in
theorem AX12_areLight {l : Launch} {K : Kt} {N : Nat} {w : Mm}  {x1 : Int32} {x2 : Int32} {zx : Int32} (h : fX12_areLight N w x1 x2 = some zx) : AW l K cX12_areLight RX12 5 (some .boolean) rmX12_areLight 0 0 ap_E (ap_F K (some (.int zx)) w) w 0 [(0, .ref (K.1 77)), (1, .int x1), (2, .int x2)] [] := by
  unfold fX12_areLight at h
  refine ap_iconst (v := 1) dX12_areLight_0 (by decide) ?_
  refine ap_istore_n (i := 3) (lv' := [(3, .int (1 : Int32)), (0, .ref (K.1 77)), (1, .int x1), (2, .int x2)]) dX12_areLight_1 rfl (by decide) rfl ?_
  refine ap_iconst (v := 0) dX12_areLight_2 (by decide) ?_
  refine ap_istore (i := 4) (lv' := [(4, .int (0 : Int32)), (3, .int (1 : Int32)), (0, .ref (K.1 77)), (1, .int x1), (2, .int x2)]) dX12_areLight_3 (by decide) rfl ?_
  refine ap_sub [2, 3, 4, 1, 0] rfl ?_
  exact AX12_areLight_L5  N _ _ _ _ h
theorem mcX12_areLight {l : Launch} {K : Kt} {N : Nat} {w : Mm}  {x1 : Int32} {x2 : Int32} {zx : Int32} (h : fX12_areLight N w x1 x2 = some zx) : MC l K yX12_areLight cX12_areLight 5 (some .boolean) rmX12_areLight w [.ref (K.1 77), .int x1, .int x2] (some (.int zx)) w :=
  MC.of (by decide) (Nat.le_of_ble_eq_true rfl) rfl (AX12_areLight  h)
def fX12_tallowOf_L4 (N : Nat) (w : Mm) : Nat → Int32 → Int32 → Int32 → Option Int32
  | 0, _, _, _ => none
  | n0 + 1, x1, x2, x3 => if (fX12_candles w) ≤ x3 then (
some x2)
else (
if ((x1 >>> (x3 &&& 31)) &&& (1 : Int32)) = (1 : Int32) then (
Option.bind (fX12_get w x3 (4 : Int32)) fun a3 =>
(fX12_tallowOf_L4 N w n0) x1 (x2 + a3) (x3 + 1))
else (
(fX12_tallowOf_L4 N w n0) x1 (x2 + (0 : Int32)) (x3 + 1)))
set_option maxRecDepth 100000 in
set_option maxHeartbeats 4000000 in
theorem AX12_tallowOf_L4 {l : Launch} {K : Kt} {N : Nat} {w : Mm}   : ∀ (n0 : Nat) (x1 : Int32) (x2 : Int32) (x3 : Int32) {zx : Int32}, fX12_tallowOf_L4 N w n0 x1 x2 x3 = some zx → AW l K cX12_tallowOf RX12 4 (some .int) rmX12_tallowOf 0 0 ap_E (ap_F K (some (.int zx)) w) w 4 [(0, .ref (K.1 77)), (1, .int x1), (2, .int x2), (3, .int x3)] [] := by
  intro n0
  induction n0 with
  | zero =>
    intro x1 x2 x3 zx h
    cases h
  | succ n0 ih =>
    intro x1 x2 x3 zx h
    rw [fX12_tallowOf_L4] at h
    refine ap_iload_n dX12_tallowOf_4 3 rfl rfl ?_
    refine ap_aload_n dX12_tallowOf_5 0 rfl rfl ?_
    refine ap_callV (k := 77) (As := []) (st := [.int x3]) (st1 := [.int (fX12_candles w), .int x3]) (mcX12_candles  (w := w) (zx := fX12_candles w) rfl) cv_X12_57 rfl ly_77 ⟨rfl, rfl, by decide, by decide⟩ rfl (Nat.le_of_ble_eq_true rfl) ⟨Nat.zero_le _, Nat.zero_le _⟩ dX12_tallowOf_6 rfl rfl ?_
    refine ap_icmp_ge (tgt := 40) dX12_tallowOf_9 (by decide) (fun hc1 => ?_) (fun hc1 => ?_)
    · rw [if_pos hc1] at h
      refine ap_iload_n dX12_tallowOf_40 2 rfl rfl ?_
      obtain rfl := Option.some.inj h
      exact ap_iret rfl dX12_tallowOf_41
    · rw [if_neg hc1] at h
      refine ap_iload_n dX12_tallowOf_12 2 rfl rfl ?_
      refine ap_iload_n dX12_tallowOf_13 1 rfl rfl ?_
      refine ap_iload_n dX12_tallowOf_14 3 rfl rfl ?_
      refine ap_ishr dX12_tallowOf_15 ?_
      refine ap_iconst (v := 1) dX12_tallowOf_16 (by decide) ?_
      refine ap_iand dX12_tallowOf_17 ?_
      refine ap_iconst (v := 1) dX12_tallowOf_18 (by decide) ?_
      refine ap_icmp_ne (tgt := 31) dX12_tallowOf_19 (by decide) (fun hc2 => ?_) (fun hc2 => ?_)
      · rw [if_neg hc2] at h
        refine ap_iconst (v := 0) dX12_tallowOf_31 (by decide) ?_
        refine ap_iadd dX12_tallowOf_32 ?_
        refine ap_istore_n (i := 2) (lv' := [(2, .int (x2 + (0 : Int32))), (0, .ref (K.1 77)), (1, .int x1), (3, .int x3)]) dX12_tallowOf_33 rfl (by decide) rfl ?_
        refine ap_iinc (v := x3 + 1) (lv' := [(3, .int (x3 + 1)), (2, .int (x2 + (0 : Int32))), (0, .ref (K.1 77)), (1, .int x1)]) dX12_tallowOf_34 3 rfl rfl (by decide) rfl ?_
        refine ap_goto (tgt := 4) dX12_tallowOf_37 (by decide) ?_
        refine ap_sub [2, 3, 1, 0] rfl ?_
        exact ih _ _ _ h
      · rw [if_pos hc2] at h
        refine ap_aload_n dX12_tallowOf_22 0 rfl rfl ?_
        refine ap_iload_n dX12_tallowOf_23 3 rfl rfl ?_
        refine ap_iconst (v := 4) dX12_tallowOf_24 (by decide) ?_
        obtain ⟨a3, ha3, h⟩ := Option.bind_eq_some_iff.mp h
        refine ap_callV (k := 77) (As := [.int x3, .int (4 : Int32)]) (st := [.int x2]) (st1 := [.int a3, .int x2]) (mcX12_get  (w := w) ha3) cv_X12_104 rfl ly_77 ⟨rfl, rfl, by decide, by decide⟩ rfl (Nat.le_of_ble_eq_true rfl) ⟨Nat.zero_le _, Nat.zero_le _⟩ dX12_tallowOf_25 rfl rfl ?_
        refine ap_goto (tgt := 32) dX12_tallowOf_28 (by decide) ?_
        refine ap_iadd dX12_tallowOf_32 ?_
        refine ap_istore_n (i := 2) (lv' := [(2, .int (x2 + a3)), (0, .ref (K.1 77)), (1, .int x1), (3, .int x3)]) dX12_tallowOf_33 rfl (by decide) rfl ?_
        refine ap_iinc (v := x3 + 1) (lv' := [(3, .int (x3 + 1)), (2, .int (x2 + a3)), (0, .ref (K.1 77)), (1, .int x1)]) dX12_tallowOf_34 3 rfl rfl (by decide) rfl ?_
        refine ap_goto (tgt := 4) dX12_tallowOf_37 (by decide) ?_
        refine ap_sub [2, 3, 1, 0] rfl ?_
        exact ih _ _ _ h
def fX12_tallowOf (N : Nat) (w : Mm) (x1 : Int32) : Option Int32 :=
fX12_tallowOf_L4 N w N x1 (0 : Int32) (0 : Int32)
set_option maxRecDepth 100000 in
set_option maxHeartbeats 4000000 in
theorem AX12_tallowOf {l : Launch} {K : Kt} {N : Nat} {w : Mm}  {x1 : Int32} {zx : Int32} (h : fX12_tallowOf N w x1 = some zx) : AW l K cX12_tallowOf RX12 4 (some .int) rmX12_tallowOf 0 0 ap_E (ap_F K (some (.int zx)) w) w 0 [(0, .ref (K.1 77)), (1, .int x1)] [] := by
  unfold fX12_tallowOf at h
  refine ap_iconst (v := 0) dX12_tallowOf_0 (by decide) ?_
  refine ap_istore_n (i := 2) (lv' := [(2, .int (0 : Int32)), (0, .ref (K.1 77)), (1, .int x1)]) dX12_tallowOf_1 rfl (by decide) rfl ?_
  refine ap_iconst (v := 0) dX12_tallowOf_2 (by decide) ?_
  refine ap_istore_n (i := 3) (lv' := [(3, .int (0 : Int32)), (2, .int (0 : Int32)), (0, .ref (K.1 77)), (1, .int x1)]) dX12_tallowOf_3 rfl (by decide) rfl ?_
  refine ap_sub [2, 3, 1, 0] rfl ?_
  exact AX12_tallowOf_L4  N _ _ _ h
theorem mcX12_tallowOf {l : Launch} {K : Kt} {N : Nat} {w : Mm}  {x1 : Int32} {zx : Int32} (h : fX12_tallowOf N w x1 = some zx) : MC l K yX12_tallowOf cX12_tallowOf 4 (some .int) rmX12_tallowOf w [.ref (K.1 77), .int x1] (some (.int zx)) w :=
  MC.of (by decide) (Nat.le_of_ble_eq_true rfl) rfl (AX12_tallowOf  h)
def fX12_lighting_L14 (N : Nat) (w : Mm) : Option (Int32 × Mm) :=
ob2 (some (fX12_bad w (-2 : Int32))) fun a13 m14 =>
some (a13, m14)
set_option maxRecDepth 100000 in
set_option maxHeartbeats 4000000 in
theorem AX12_lighting_L14 {l : Launch} {K : Kt} {N : Nat}   {w : Mm} {zx : Int32} {zw : Mm} (h : fX12_lighting_L14 N w = some (zx, zw)) : AW l K cX12_lighting RX12 6 (some .int) rmX12_lighting 0 0 ap_E (ap_F K (some (.int zx)) zw) w 14 [(0, .ref (K.1 77))] [] := by
  unfold fX12_lighting_L14 at h
  refine ap_aload_n dX12_lighting_14 0 rfl rfl ?_
  refine ap_bipush (v := -2) dX12_lighting_15 (by decide) ?_
  obtain ⟨a13, m14, ha13, h⟩ := ob2_iff h
  refine ap_callV (k := 77) (As := [.int (-2 : Int32)]) (st := []) (st1 := [.int a13]) (mcX12_bad  (Option.some.inj ha13)) cv_X12_75 rfl ly_77 ⟨rfl, rfl, by decide, by decide⟩ rfl (Nat.le_of_ble_eq_true rfl) ⟨Nat.zero_le _, Nat.zero_le _⟩ dX12_lighting_17 rfl rfl ?_
  obtain ⟨rfl, rfl⟩ := Prod.mk.inj (Option.some.inj h)
  exact ap_iret rfl dX12_lighting_20
def fX12_lighting_L90 (N : Nat) (k30 : Mm → Int32 → Int32 → Int32 → Int32 → Option (Int32 × Mm)) (w : Mm) (x1 : Int32) (x2 : Int32) (x3 : Int32) (x4 : Int32) : Option (Int32 × Mm) :=
k30 w x1 x2 x3 (x4 + 1)
set_option maxRecDepth 100000 in
set_option maxHeartbeats 4000000 in
theorem AX12_lighting_L90 {l : Launch} {K : Kt} {N : Nat} {k30 : Mm → Int32 → Int32 → Int32 → Int32 → Option (Int32 × Mm)} (hk30 : ∀ (w : Mm) (x1 : Int32) (x2 : Int32) (x3 : Int32) (x4 : Int32) (zx : Int32) (zw : Mm), k30 w x1 x2 x3 x4 = some (zx, zw) → AW l K cX12_lighting RX12 6 (some .int) rmX12_lighting 0 0 ap_E (ap_F K (some (.int zx)) zw) w 30 [(0, .ref (K.1 77)), (1, .int x1), (2, .int x2), (3, .int x3), (4, .int x4)] [])  {w : Mm} {x1 : Int32} {x2 : Int32} {x3 : Int32} {x4 : Int32} {zx : Int32} {zw : Mm} (h : fX12_lighting_L90 N k30 w x1 x2 x3 x4 = some (zx, zw)) : AW l K cX12_lighting RX12 6 (some .int) rmX12_lighting 0 0 ap_E (ap_F K (some (.int zx)) zw) w 90 [(0, .ref (K.1 77)), (1, .int x1), (2, .int x2), (3, .int x3), (4, .int x4)] [] := by
  unfold fX12_lighting_L90 at h
  refine ap_iload_n dX12_lighting_90 3 rfl rfl ?_
  refine ap_istore_n (i := 3) (lv' := [(3, .int x3), (0, .ref (K.1 77)), (1, .int x1), (2, .int x2), (4, .int x4)]) dX12_lighting_91 rfl (by decide) rfl ?_
  refine ap_iinc (v := x4 + 1) (lv' := [(4, .int (x4 + 1)), (3, .int x3), (0, .ref (K.1 77)), (1, .int x1), (2, .int x2)]) dX12_lighting_92 4 rfl rfl (by decide) rfl ?_
  refine ap_goto (tgt := 30) dX12_lighting_95 (by decide) ?_
  refine ap_sub [2, 3, 4, 1, 0] rfl ?_
  exact hk30 _ _ _ _ _ _ _ h
def fX12_lighting_L63 (N : Nat) (k30 : Mm → Int32 → Int32 → Int32 → Int32 → Option (Int32 × Mm)) (w : Mm) (x1 : Int32) (x2 : Int32) (x3 : Int32) (x4 : Int32) (t0 : Int32) : Option (Int32 × Mm) :=
Option.bind (some (sI w 77 6 x4)) fun m9 =>
if t0 = (0 : Int32) then (
fX12_lighting_L90 N k30 m9 x1 x2 x3 x4)
else (
Option.bind (fX12_areLight N m9 x1 x2) fun a11 =>
if a11 = (0 : Int32) then (
fX12_lighting_L90 N k30 m9 x1 x2 x3 x4)
else (
k30 m9 x1 x2 x4 (x4 + 1)))
set_option maxRecDepth 100000 in
set_option maxHeartbeats 4000000 in
theorem AX12_lighting_L63 {l : Launch} {K : Kt} {N : Nat} {k30 : Mm → Int32 → Int32 → Int32 → Int32 → Option (Int32 × Mm)} (hk30 : ∀ (w : Mm) (x1 : Int32) (x2 : Int32) (x3 : Int32) (x4 : Int32) (zx : Int32) (zw : Mm), k30 w x1 x2 x3 x4 = some (zx, zw) → AW l K cX12_lighting RX12 6 (some .int) rmX12_lighting 0 0 ap_E (ap_F K (some (.int zx)) zw) w 30 [(0, .ref (K.1 77)), (1, .int x1), (2, .int x2), (3, .int x3), (4, .int x4)] [])  {w : Mm} {x1 : Int32} {x2 : Int32} {x3 : Int32} {x4 : Int32} {t0 : Int32} {zx : Int32} {zw : Mm} (h : fX12_lighting_L63 N k30 w x1 x2 x3 x4 t0 = some (zx, zw)) : AW l K cX12_lighting RX12 6 (some .int) rmX12_lighting 0 0 ap_E (ap_F K (some (.int zx)) zw) w 63 [(0, .ref (K.1 77)), (1, .int x1), (2, .int x2), (3, .int x3), (4, .int x4)] [.int t0] := by
  unfold fX12_lighting_L63 at h
  refine ap_istore (i := 5) (lv' := [(5, .int t0), (0, .ref (K.1 77)), (1, .int x1), (2, .int x2), (3, .int x3), (4, .int x4)]) dX12_lighting_63 (by decide) rfl ?_
  refine ap_aload_n dX12_lighting_65 1 rfl rfl ?_
  refine ap_iload dX12_lighting_66 5 rfl ?_
  obtain ⟨m9, hm9, h⟩ := Option.bind_eq_some_iff.mp h
  refine ap_putI fp_X12_126 ly_77 rfl (Option.some.inj hm9) dX12_lighting_68 ?_
  refine ap_iload dX12_lighting_71 0 rfl ?_
  refine ap_if_eq (tgt := 90) dX12_lighting_73 (by decide) (fun hc10 => ?_) (fun hc10 => ?_)
  · rw [if_pos hc10] at h
    refine ap_sub [1, 2, 3, 4, 5] rfl ?_
    exact AX12_lighting_L90 hk30  h
  · rw [if_neg hc10] at h
    refine ap_aload_n dX12_lighting_76 1 rfl rfl ?_
    refine ap_iload_n dX12_lighting_77 2 rfl rfl ?_
    refine ap_iload_n dX12_lighting_78 3 rfl rfl ?_
    obtain ⟨a11, ha11, h⟩ := Option.bind_eq_some_iff.mp h
    refine ap_callV (k := 77) (As := [.int x1, .int x2]) (st := []) (st1 := [.int a11]) (mcX12_areLight  (w := m9) ha11) cv_X12_165 rfl ly_77 ⟨rfl, rfl, by decide, by decide⟩ rfl (Nat.le_of_ble_eq_true rfl) ⟨Nat.zero_le _, Nat.zero_le _⟩ dX12_lighting_79 rfl rfl ?_
    refine ap_if_eq (tgt := 90) dX12_lighting_82 (by decide) (fun hc12 => ?_) (fun hc12 => ?_)
    · rw [if_pos hc12] at h
      refine ap_sub [1, 2, 3, 4, 5] rfl ?_
      exact AX12_lighting_L90 hk30  h
    · rw [if_neg hc12] at h
      refine ap_iload dX12_lighting_85 5 rfl ?_
      refine ap_goto (tgt := 91) dX12_lighting_87 (by decide) ?_
      refine ap_istore_n (i := 3) (lv' := [(3, .int x4), (5, .int t0), (0, .ref (K.1 77)), (1, .int x1), (2, .int x2), (4, .int x4)]) dX12_lighting_91 rfl (by decide) rfl ?_
      refine ap_iinc (v := x4 + 1) (lv' := [(4, .int (x4 + 1)), (3, .int x4), (5, .int t0), (0, .ref (K.1 77)), (1, .int x1), (2, .int x2)]) dX12_lighting_92 5 rfl rfl (by decide) rfl ?_
      refine ap_goto (tgt := 30) dX12_lighting_95 (by decide) ?_
      refine ap_sub [3, 4, 5, 1, 0] rfl ?_
      exact hk30 _ _ _ _ _ _ _ h
def fX12_lighting_L30 (N : Nat) : Nat → Mm → Int32 → Int32 → Int32 → Int32 → Option (Int32 × Mm)
  | 0, _, _, _, _, _ => none
  | n0 + 1, w, x1, x2, x3, x4 => if ((1 : Int32) <<< ((fX12_candles w) &&& 31)) ≤ x4 then (
some (x3, w))
else (
if x3 = (-1 : Int32) then (
fX12_lighting_L63 N (fX12_lighting_L30 N n0) w x1 x2 x3 x4 (1 : Int32))
else (
Option.bind (fX12_bits N x4) fun a6 =>
Option.bind (fX12_bits N x3) fun a7 =>
if a7 ≤ a6 then (
fX12_lighting_L63 N (fX12_lighting_L30 N n0) w x1 x2 x3 x4 (0 : Int32))
else (
fX12_lighting_L63 N (fX12_lighting_L30 N n0) w x1 x2 x3 x4 (1 : Int32))))
set_option maxRecDepth 100000 in
set_option maxHeartbeats 4000000 in
theorem AX12_lighting_L30 {l : Launch} {K : Kt} {N : Nat}   : ∀ (n0 : Nat) (w : Mm) (x1 : Int32) (x2 : Int32) (x3 : Int32) (x4 : Int32) {zx : Int32} {zw : Mm}, fX12_lighting_L30 N n0 w x1 x2 x3 x4 = some (zx, zw) → AW l K cX12_lighting RX12 6 (some .int) rmX12_lighting 0 0 ap_E (ap_F K (some (.int zx)) zw) w 30 [(0, .ref (K.1 77)), (1, .int x1), (2, .int x2), (3, .int x3), (4, .int x4)] [] := by
  intro n0
  induction n0 with
  | zero =>
    intro w x1 x2 x3 x4 zx zw h
    cases h
  | succ n0 ih =>
    intro w x1 x2 x3 x4 zx zw h
    rw [fX12_lighting_L30] at h
    refine ap_iload dX12_lighting_30 4 rfl ?_
    refine ap_iconst (v := 1) dX12_lighting_32 (by decide) ?_
    refine ap_aload_n dX12_lighting_33 0 rfl rfl ?_
    refine ap_callV (k := 77) (As := []) (st := [.int (1 : Int32), .int x4]) (st1 := [.int (fX12_candles w), .int (1 : Int32), .int x4]) (mcX12_candles  (w := w) (zx := fX12_candles w) rfl) cv_X12_57 rfl ly_77 ⟨rfl, rfl, by decide, by decide⟩ rfl (Nat.le_of_ble_eq_true rfl) ⟨Nat.zero_le _, Nat.zero_le _⟩ dX12_lighting_34 rfl rfl ?_
    refine ap_ishl dX12_lighting_37 ?_
    refine ap_icmp_ge (tgt := 98) dX12_lighting_38 (by decide) (fun hc4 => ?_) (fun hc4 => ?_)
    · rw [if_pos hc4] at h
      refine ap_iload_n dX12_lighting_98 3 rfl rfl ?_
      obtain ⟨rfl, rfl⟩ := Prod.mk.inj (Option.some.inj h)
      exact ap_iret rfl dX12_lighting_99
    · rw [if_neg hc4] at h
      refine ap_iload_n dX12_lighting_41 3 rfl rfl ?_
      refine ap_iconst (v := -1) dX12_lighting_42 (by decide) ?_
      refine ap_icmp_eq (tgt := 58) dX12_lighting_43 (by decide) (fun hc5 => ?_) (fun hc5 => ?_)
      · rw [if_pos hc5] at h
        refine ap_iconst (v := 1) dX12_lighting_58 (by decide) ?_
        refine ap_goto (tgt := 63) dX12_lighting_59 (by decide) ?_
        exact AX12_lighting_L63 (fun q0 q1 q2 q3 q4 q5 q6 hq => ih q0 q1 q2 q3 q4 hq)  h
      · rw [if_neg hc5] at h
        refine ap_iload dX12_lighting_46 4 rfl ?_
        obtain ⟨a6, ha6, h⟩ := Option.bind_eq_some_iff.mp h
        refine ap_callS (As := [.int x4]) (st := []) (st1 := [.int a6]) (mcX12_bits  (w := w) ha6) cs_X12_162 ⟨rfl, rfl, by decide, by decide⟩ rfl (Nat.le_of_ble_eq_true rfl) ⟨Nat.zero_le _, Nat.zero_le _⟩ dX12_lighting_48 rfl rfl ?_
        refine ap_iload_n dX12_lighting_51 3 rfl rfl ?_
        obtain ⟨a7, ha7, h⟩ := Option.bind_eq_some_iff.mp h
        refine ap_callS (As := [.int x3]) (st := [.int a6]) (st1 := [.int a7, .int a6]) (mcX12_bits  (w := w) ha7) cs_X12_162 ⟨rfl, rfl, by decide, by decide⟩ rfl (Nat.le_of_ble_eq_true rfl) ⟨Nat.zero_le _, Nat.zero_le _⟩ dX12_lighting_52 rfl rfl ?_
        refine ap_icmp_ge (tgt := 62) dX12_lighting_55 (by decide) (fun hc8 => ?_) (fun hc8 => ?_)
        · rw [if_pos hc8] at h
          refine ap_iconst (v := 0) dX12_lighting_62 (by decide) ?_
          exact AX12_lighting_L63 (fun q0 q1 q2 q3 q4 q5 q6 hq => ih q0 q1 q2 q3 q4 hq)  h
        · rw [if_neg hc8] at h
          refine ap_iconst (v := 1) dX12_lighting_58 (by decide) ?_
          refine ap_goto (tgt := 63) dX12_lighting_59 (by decide) ?_
          exact AX12_lighting_L63 (fun q0 q1 q2 q3 q4 q5 q6 hq => ih q0 q1 q2 q3 q4 hq)  h
def fX12_lighting (N : Nat) (w : Mm) (x1 : Int32) (x2 : Int32) : Option (Int32 × Mm) :=
if (fX12_isHour x1) = (0 : Int32) then (
fX12_lighting_L14 N w)
else (
if (fX12_isLight x2) = (0 : Int32) then (
fX12_lighting_L14 N w)
else (
Option.bind (fX12_layHand N w) fun m3 =>
fX12_lighting_L30 N N m3 x1 x2 (-1 : Int32) (0 : Int32)))
set_option maxRecDepth 100000 in
set_option maxHeartbeats 4000000 in
theorem AX12_lighting {l : Launch} {K : Kt} {N : Nat}  {w : Mm} {x1 : Int32} {x2 : Int32} {zx : Int32} {zw : Mm} (h : fX12_lighting N w x1 x2 = some (zx, zw)) : AW l K cX12_lighting RX12 6 (some .int) rmX12_lighting 0 0 ap_E (ap_F K (some (.int zx)) zw) w 0 [(0, .ref (K.1 77)), (1, .int x1), (2, .int x2)] [] := by
  unfold fX12_lighting at h
  refine ap_iload_n dX12_lighting_0 1 rfl rfl ?_
  refine ap_callS (As := [.int x1]) (st := []) (st1 := [.int (fX12_isHour x1)]) (mcX12_isHour  (w := w) (zx := fX12_isHour x1) rfl) cs_X12_151 ⟨rfl, rfl, by decide, by decide⟩ rfl (Nat.le_of_ble_eq_true rfl) ⟨Nat.zero_le _, Nat.zero_le _⟩ dX12_lighting_1 rfl rfl ?_
  refine ap_if_eq (tgt := 14) dX12_lighting_4 (by decide) (fun hc1 => ?_) (fun hc1 => ?_)
  · rw [if_pos hc1] at h
    refine ap_sub [0] rfl ?_
    exact AX12_lighting_L14   h
  · rw [if_neg hc1] at h
    refine ap_iload_n dX12_lighting_7 2 rfl rfl ?_
    refine ap_callS (As := [.int x2]) (st := []) (st1 := [.int (fX12_isLight x2)]) (mcX12_isLight  (w := w) (zx := fX12_isLight x2) rfl) cs_X12_89 ⟨rfl, rfl, by decide, by decide⟩ rfl (Nat.le_of_ble_eq_true rfl) ⟨Nat.zero_le _, Nat.zero_le _⟩ dX12_lighting_8 rfl rfl ?_
    refine ap_if_ne (tgt := 21) dX12_lighting_11 (by decide) (fun hc2 => ?_) (fun hc2 => ?_)
    · rw [if_neg hc2] at h
      refine ap_iconst (v := -1) dX12_lighting_21 (by decide) ?_
      refine ap_istore_n (i := 3) (lv' := [(3, .int (-1 : Int32)), (0, .ref (K.1 77)), (1, .int x1), (2, .int x2)]) dX12_lighting_22 rfl (by decide) rfl ?_
      refine ap_aload_n dX12_lighting_23 1 rfl rfl ?_
      obtain ⟨m3, hm3, h⟩ := Option.bind_eq_some_iff.mp h
      refine ap_callV (k := 77) (As := []) (st := []) (st1 := []) (mcX12_layHand  hm3) cv_X12_154 rfl ly_77 ⟨rfl, rfl, by decide, by decide⟩ rfl (Nat.le_of_ble_eq_true rfl) ⟨Nat.zero_le _, Nat.zero_le _⟩ dX12_lighting_24 rfl rfl ?_
      refine ap_iconst (v := 0) dX12_lighting_27 (by decide) ?_
      refine ap_istore (i := 4) (lv' := [(4, .int (0 : Int32)), (3, .int (-1 : Int32)), (0, .ref (K.1 77)), (1, .int x1), (2, .int x2)]) dX12_lighting_28 (by decide) rfl ?_
      refine ap_sub [2, 3, 4, 1, 0] rfl ?_
      exact AX12_lighting_L30  N _ _ _ _ _ h
    · rw [if_pos hc2] at h
      refine ap_sub [0] rfl ?_
      exact AX12_lighting_L14   h
theorem mcX12_lighting {l : Launch} {K : Kt} {N : Nat}  {w : Mm} {x1 : Int32} {x2 : Int32} {zx : Int32} {zw : Mm} (h : fX12_lighting N w x1 x2 = some (zx, zw)) : MC l K yX12_lighting cX12_lighting 6 (some .int) rmX12_lighting w [.ref (K.1 77), .int x1, .int x2] (some (.int zx)) zw :=
  MC.of (by decide) (Nat.le_of_ble_eq_true rfl) rfl (AX12_lighting  h)
def fX12_tallow_L14 (N : Nat) (w : Mm) : Option (Int32 × Mm) :=
ob2 (some (fX12_bad w (-2 : Int32))) fun a13 m14 =>
some (a13, m14)
set_option maxRecDepth 100000 in
set_option maxHeartbeats 4000000 in
theorem AX12_tallow_L14 {l : Launch} {K : Kt} {N : Nat}   {w : Mm} {zx : Int32} {zw : Mm} (h : fX12_tallow_L14 N w = some (zx, zw)) : AW l K cX12_tallow RX12 6 (some .int) rmX12_tallow 0 0 ap_E (ap_F K (some (.int zx)) zw) w 14 [(0, .ref (K.1 77))] [] := by
  unfold fX12_tallow_L14 at h
  refine ap_aload_n dX12_tallow_14 0 rfl rfl ?_
  refine ap_bipush (v := -2) dX12_tallow_15 (by decide) ?_
  obtain ⟨a13, m14, ha13, h⟩ := ob2_iff h
  refine ap_callV (k := 77) (As := [.int (-2 : Int32)]) (st := []) (st1 := [.int a13]) (mcX12_bad  (Option.some.inj ha13)) cv_X12_75 rfl ly_77 ⟨rfl, rfl, by decide, by decide⟩ rfl (Nat.le_of_ble_eq_true rfl) ⟨Nat.zero_le _, Nat.zero_le _⟩ dX12_tallow_17 rfl rfl ?_
  obtain ⟨rfl, rfl⟩ := Prod.mk.inj (Option.some.inj h)
  exact ap_iret rfl dX12_tallow_20
def fX12_tallow_L92 (N : Nat) (k30 : Mm → Int32 → Int32 → Int32 → Int32 → Option (Int32 × Mm)) (w : Mm) (x1 : Int32) (x2 : Int32) (x3 : Int32) (x4 : Int32) : Option (Int32 × Mm) :=
k30 w x1 x2 x3 (x4 + 1)
set_option maxRecDepth 100000 in
set_option maxHeartbeats 4000000 in
theorem AX12_tallow_L92 {l : Launch} {K : Kt} {N : Nat} {k30 : Mm → Int32 → Int32 → Int32 → Int32 → Option (Int32 × Mm)} (hk30 : ∀ (w : Mm) (x1 : Int32) (x2 : Int32) (x3 : Int32) (x4 : Int32) (zx : Int32) (zw : Mm), k30 w x1 x2 x3 x4 = some (zx, zw) → AW l K cX12_tallow RX12 6 (some .int) rmX12_tallow 0 0 ap_E (ap_F K (some (.int zx)) zw) w 30 [(0, .ref (K.1 77)), (1, .int x1), (2, .int x2), (3, .int x3), (4, .int x4)] [])  {w : Mm} {x1 : Int32} {x2 : Int32} {x3 : Int32} {x4 : Int32} {zx : Int32} {zw : Mm} (h : fX12_tallow_L92 N k30 w x1 x2 x3 x4 = some (zx, zw)) : AW l K cX12_tallow RX12 6 (some .int) rmX12_tallow 0 0 ap_E (ap_F K (some (.int zx)) zw) w 92 [(0, .ref (K.1 77)), (1, .int x1), (2, .int x2), (3, .int x3), (4, .int x4)] [] := by
  unfold fX12_tallow_L92 at h
  refine ap_iload_n dX12_tallow_92 3 rfl rfl ?_
  refine ap_istore_n (i := 3) (lv' := [(3, .int x3), (0, .ref (K.1 77)), (1, .int x1), (2, .int x2), (4, .int x4)]) dX12_tallow_93 rfl (by decide) rfl ?_
  refine ap_iinc (v := x4 + 1) (lv' := [(4, .int (x4 + 1)), (3, .int x3), (0, .ref (K.1 77)), (1, .int x1), (2, .int x2)]) dX12_tallow_94 4 rfl rfl (by decide) rfl ?_
  refine ap_goto (tgt := 30) dX12_tallow_97 (by decide) ?_
  refine ap_sub [2, 3, 4, 1, 0] rfl ?_
  exact hk30 _ _ _ _ _ _ _ h
def fX12_tallow_L61 (N : Nat) (k30 : Mm → Int32 → Int32 → Int32 → Int32 → Option (Int32 × Mm)) (w : Mm) (x1 : Int32) (x2 : Int32) (x3 : Int32) (x4 : Int32) (t0 : Int32) : Option (Int32 × Mm) :=
Option.bind (some (sI w 77 6 x4)) fun m8 =>
if t0 = (0 : Int32) then (
fX12_tallow_L92 N k30 m8 x1 x2 x3 x4)
else (
Option.bind (fX12_areLight N m8 x1 x2) fun a10 =>
if a10 = (0 : Int32) then (
fX12_tallow_L92 N k30 m8 x1 x2 x3 x4)
else (
Option.bind (fX12_tallowOf N m8 x4) fun a12 =>
k30 m8 x1 x2 a12 (x4 + 1)))
set_option maxRecDepth 100000 in
set_option maxHeartbeats 4000000 in
theorem AX12_tallow_L61 {l : Launch} {K : Kt} {N : Nat} {k30 : Mm → Int32 → Int32 → Int32 → Int32 → Option (Int32 × Mm)} (hk30 : ∀ (w : Mm) (x1 : Int32) (x2 : Int32) (x3 : Int32) (x4 : Int32) (zx : Int32) (zw : Mm), k30 w x1 x2 x3 x4 = some (zx, zw) → AW l K cX12_tallow RX12 6 (some .int) rmX12_tallow 0 0 ap_E (ap_F K (some (.int zx)) zw) w 30 [(0, .ref (K.1 77)), (1, .int x1), (2, .int x2), (3, .int x3), (4, .int x4)] [])  {w : Mm} {x1 : Int32} {x2 : Int32} {x3 : Int32} {x4 : Int32} {t0 : Int32} {zx : Int32} {zw : Mm} (h : fX12_tallow_L61 N k30 w x1 x2 x3 x4 t0 = some (zx, zw)) : AW l K cX12_tallow RX12 6 (some .int) rmX12_tallow 0 0 ap_E (ap_F K (some (.int zx)) zw) w 61 [(0, .ref (K.1 77)), (1, .int x1), (2, .int x2), (3, .int x3), (4, .int x4)] [.int t0] := by
  unfold fX12_tallow_L61 at h
  refine ap_istore (i := 5) (lv' := [(5, .int t0), (0, .ref (K.1 77)), (1, .int x1), (2, .int x2), (3, .int x3), (4, .int x4)]) dX12_tallow_61 (by decide) rfl ?_
  refine ap_aload_n dX12_tallow_63 1 rfl rfl ?_
  refine ap_iload dX12_tallow_64 5 rfl ?_
  obtain ⟨m8, hm8, h⟩ := Option.bind_eq_some_iff.mp h
  refine ap_putI fp_X12_126 ly_77 rfl (Option.some.inj hm8) dX12_tallow_66 ?_
  refine ap_iload dX12_tallow_69 0 rfl ?_
  refine ap_if_eq (tgt := 92) dX12_tallow_71 (by decide) (fun hc9 => ?_) (fun hc9 => ?_)
  · rw [if_pos hc9] at h
    refine ap_sub [1, 2, 3, 4, 5] rfl ?_
    exact AX12_tallow_L92 hk30  h
  · rw [if_neg hc9] at h
    refine ap_aload_n dX12_tallow_74 1 rfl rfl ?_
    refine ap_iload_n dX12_tallow_75 2 rfl rfl ?_
    refine ap_iload_n dX12_tallow_76 3 rfl rfl ?_
    obtain ⟨a10, ha10, h⟩ := Option.bind_eq_some_iff.mp h
    refine ap_callV (k := 77) (As := [.int x1, .int x2]) (st := []) (st1 := [.int a10]) (mcX12_areLight  (w := m8) ha10) cv_X12_165 rfl ly_77 ⟨rfl, rfl, by decide, by decide⟩ rfl (Nat.le_of_ble_eq_true rfl) ⟨Nat.zero_le _, Nat.zero_le _⟩ dX12_tallow_77 rfl rfl ?_
    refine ap_if_eq (tgt := 92) dX12_tallow_80 (by decide) (fun hc11 => ?_) (fun hc11 => ?_)
    · rw [if_pos hc11] at h
      refine ap_sub [1, 2, 3, 4, 5] rfl ?_
      exact AX12_tallow_L92 hk30  h
    · rw [if_neg hc11] at h
      refine ap_aload_n dX12_tallow_83 1 rfl rfl ?_
      refine ap_iload dX12_tallow_84 5 rfl ?_
      obtain ⟨a12, ha12, h⟩ := Option.bind_eq_some_iff.mp h
      refine ap_callV (k := 77) (As := [.int x4]) (st := []) (st1 := [.int a12]) (mcX12_tallowOf  (w := m8) ha12) cv_X12_169 rfl ly_77 ⟨rfl, rfl, by decide, by decide⟩ rfl (Nat.le_of_ble_eq_true rfl) ⟨Nat.zero_le _, Nat.zero_le _⟩ dX12_tallow_86 rfl rfl ?_
      refine ap_goto (tgt := 93) dX12_tallow_89 (by decide) ?_
      refine ap_istore_n (i := 3) (lv' := [(3, .int a12), (5, .int t0), (0, .ref (K.1 77)), (1, .int x1), (2, .int x2), (4, .int x4)]) dX12_tallow_93 rfl (by decide) rfl ?_
      refine ap_iinc (v := x4 + 1) (lv' := [(4, .int (x4 + 1)), (3, .int a12), (5, .int t0), (0, .ref (K.1 77)), (1, .int x1), (2, .int x2)]) dX12_tallow_94 5 rfl rfl (by decide) rfl ?_
      refine ap_goto (tgt := 30) dX12_tallow_97 (by decide) ?_
      refine ap_sub [3, 4, 5, 1, 0] rfl ?_
      exact hk30 _ _ _ _ _ _ _ h
def fX12_tallow_L30 (N : Nat) : Nat → Mm → Int32 → Int32 → Int32 → Int32 → Option (Int32 × Mm)
  | 0, _, _, _, _, _ => none
  | n0 + 1, w, x1, x2, x3, x4 => if ((1 : Int32) <<< ((fX12_candles w) &&& 31)) ≤ x4 then (
some (x3, w))
else (
if x3 = (-1 : Int32) then (
fX12_tallow_L61 N (fX12_tallow_L30 N n0) w x1 x2 x3 x4 (1 : Int32))
else (
Option.bind (fX12_tallowOf N w x4) fun a6 =>
if x3 ≤ a6 then (
fX12_tallow_L61 N (fX12_tallow_L30 N n0) w x1 x2 x3 x4 (0 : Int32))
else (
fX12_tallow_L61 N (fX12_tallow_L30 N n0) w x1 x2 x3 x4 (1 : Int32))))
set_option maxRecDepth 100000 in
set_option maxHeartbeats 4000000 in
theorem AX12_tallow_L30 {l : Launch} {K : Kt} {N : Nat}   : ∀ (n0 : Nat) (w : Mm) (x1 : Int32) (x2 : Int32) (x3 : Int32) (x4 : Int32) {zx : Int32} {zw : Mm}, fX12_tallow_L30 N n0 w x1 x2 x3 x4 = some (zx, zw) → AW l K cX12_tallow RX12 6 (some .int) rmX12_tallow 0 0 ap_E (ap_F K (some (.int zx)) zw) w 30 [(0, .ref (K.1 77)), (1, .int x1), (2, .int x2), (3, .int x3), (4, .int x4)] [] := by
  intro n0
  induction n0 with
  | zero =>
    intro w x1 x2 x3 x4 zx zw h
    cases h
  | succ n0 ih =>
    intro w x1 x2 x3 x4 zx zw h
    rw [fX12_tallow_L30] at h
    refine ap_iload dX12_tallow_30 4 rfl ?_
    refine ap_iconst (v := 1) dX12_tallow_32 (by decide) ?_
    refine ap_aload_n dX12_tallow_33 0 rfl rfl ?_
    refine ap_callV (k := 77) (As := []) (st := [.int (1 : Int32), .int x4]) (st1 := [.int (fX12_candles w), .int (1 : Int32), .int x4]) (mcX12_candles  (w := w) (zx := fX12_candles w) rfl) cv_X12_57 rfl ly_77 ⟨rfl, rfl, by decide, by decide⟩ rfl (Nat.le_of_ble_eq_true rfl) ⟨Nat.zero_le _, Nat.zero_le _⟩ dX12_tallow_34 rfl rfl ?_
    refine ap_ishl dX12_tallow_37 ?_
    refine ap_icmp_ge (tgt := 100) dX12_tallow_38 (by decide) (fun hc4 => ?_) (fun hc4 => ?_)
    · rw [if_pos hc4] at h
      refine ap_iload_n dX12_tallow_100 3 rfl rfl ?_
      obtain ⟨rfl, rfl⟩ := Prod.mk.inj (Option.some.inj h)
      exact ap_iret rfl dX12_tallow_101
    · rw [if_neg hc4] at h
      refine ap_iload_n dX12_tallow_41 3 rfl rfl ?_
      refine ap_iconst (v := -1) dX12_tallow_42 (by decide) ?_
      refine ap_icmp_eq (tgt := 56) dX12_tallow_43 (by decide) (fun hc5 => ?_) (fun hc5 => ?_)
      · rw [if_pos hc5] at h
        refine ap_iconst (v := 1) dX12_tallow_56 (by decide) ?_
        refine ap_goto (tgt := 61) dX12_tallow_57 (by decide) ?_
        exact AX12_tallow_L61 (fun q0 q1 q2 q3 q4 q5 q6 hq => ih q0 q1 q2 q3 q4 hq)  h
      · rw [if_neg hc5] at h
        refine ap_aload_n dX12_tallow_46 0 rfl rfl ?_
        refine ap_iload dX12_tallow_47 4 rfl ?_
        obtain ⟨a6, ha6, h⟩ := Option.bind_eq_some_iff.mp h
        refine ap_callV (k := 77) (As := [.int x4]) (st := []) (st1 := [.int a6]) (mcX12_tallowOf  (w := w) ha6) cv_X12_169 rfl ly_77 ⟨rfl, rfl, by decide, by decide⟩ rfl (Nat.le_of_ble_eq_true rfl) ⟨Nat.zero_le _, Nat.zero_le _⟩ dX12_tallow_49 rfl rfl ?_
        refine ap_iload_n dX12_tallow_52 3 rfl rfl ?_
        refine ap_icmp_ge (tgt := 60) dX12_tallow_53 (by decide) (fun hc7 => ?_) (fun hc7 => ?_)
        · rw [if_pos hc7] at h
          refine ap_iconst (v := 0) dX12_tallow_60 (by decide) ?_
          exact AX12_tallow_L61 (fun q0 q1 q2 q3 q4 q5 q6 hq => ih q0 q1 q2 q3 q4 hq)  h
        · rw [if_neg hc7] at h
          refine ap_iconst (v := 1) dX12_tallow_56 (by decide) ?_
          refine ap_goto (tgt := 61) dX12_tallow_57 (by decide) ?_
          exact AX12_tallow_L61 (fun q0 q1 q2 q3 q4 q5 q6 hq => ih q0 q1 q2 q3 q4 hq)  h
def fX12_tallow (N : Nat) (w : Mm) (x1 : Int32) (x2 : Int32) : Option (Int32 × Mm) :=
if (fX12_isHour x1) = (0 : Int32) then (
fX12_tallow_L14 N w)
else (
if (fX12_isLight x2) = (0 : Int32) then (
fX12_tallow_L14 N w)
else (
Option.bind (fX12_layHand N w) fun m3 =>
fX12_tallow_L30 N N m3 x1 x2 (-1 : Int32) (0 : Int32)))
set_option maxRecDepth 100000 in
set_option maxHeartbeats 4000000 in
theorem AX12_tallow {l : Launch} {K : Kt} {N : Nat}  {w : Mm} {x1 : Int32} {x2 : Int32} {zx : Int32} {zw : Mm} (h : fX12_tallow N w x1 x2 = some (zx, zw)) : AW l K cX12_tallow RX12 6 (some .int) rmX12_tallow 0 0 ap_E (ap_F K (some (.int zx)) zw) w 0 [(0, .ref (K.1 77)), (1, .int x1), (2, .int x2)] [] := by
  unfold fX12_tallow at h
  refine ap_iload_n dX12_tallow_0 1 rfl rfl ?_
  refine ap_callS (As := [.int x1]) (st := []) (st1 := [.int (fX12_isHour x1)]) (mcX12_isHour  (w := w) (zx := fX12_isHour x1) rfl) cs_X12_151 ⟨rfl, rfl, by decide, by decide⟩ rfl (Nat.le_of_ble_eq_true rfl) ⟨Nat.zero_le _, Nat.zero_le _⟩ dX12_tallow_1 rfl rfl ?_
  refine ap_if_eq (tgt := 14) dX12_tallow_4 (by decide) (fun hc1 => ?_) (fun hc1 => ?_)
  · rw [if_pos hc1] at h
    refine ap_sub [0] rfl ?_
    exact AX12_tallow_L14   h
  · rw [if_neg hc1] at h
    refine ap_iload_n dX12_tallow_7 2 rfl rfl ?_
    refine ap_callS (As := [.int x2]) (st := []) (st1 := [.int (fX12_isLight x2)]) (mcX12_isLight  (w := w) (zx := fX12_isLight x2) rfl) cs_X12_89 ⟨rfl, rfl, by decide, by decide⟩ rfl (Nat.le_of_ble_eq_true rfl) ⟨Nat.zero_le _, Nat.zero_le _⟩ dX12_tallow_8 rfl rfl ?_
    refine ap_if_ne (tgt := 21) dX12_tallow_11 (by decide) (fun hc2 => ?_) (fun hc2 => ?_)
    · rw [if_neg hc2] at h
      refine ap_iconst (v := -1) dX12_tallow_21 (by decide) ?_
      refine ap_istore_n (i := 3) (lv' := [(3, .int (-1 : Int32)), (0, .ref (K.1 77)), (1, .int x1), (2, .int x2)]) dX12_tallow_22 rfl (by decide) rfl ?_
      refine ap_aload_n dX12_tallow_23 1 rfl rfl ?_
      obtain ⟨m3, hm3, h⟩ := Option.bind_eq_some_iff.mp h
      refine ap_callV (k := 77) (As := []) (st := []) (st1 := []) (mcX12_layHand  hm3) cv_X12_154 rfl ly_77 ⟨rfl, rfl, by decide, by decide⟩ rfl (Nat.le_of_ble_eq_true rfl) ⟨Nat.zero_le _, Nat.zero_le _⟩ dX12_tallow_24 rfl rfl ?_
      refine ap_iconst (v := 0) dX12_tallow_27 (by decide) ?_
      refine ap_istore (i := 4) (lv' := [(4, .int (0 : Int32)), (3, .int (-1 : Int32)), (0, .ref (K.1 77)), (1, .int x1), (2, .int x2)]) dX12_tallow_28 (by decide) rfl ?_
      refine ap_sub [2, 3, 4, 1, 0] rfl ?_
      exact AX12_tallow_L30  N _ _ _ _ _ h
    · rw [if_pos hc2] at h
      refine ap_sub [0] rfl ?_
      exact AX12_tallow_L14   h
theorem mcX12_tallow {l : Launch} {K : Kt} {N : Nat}  {w : Mm} {x1 : Int32} {x2 : Int32} {zx : Int32} {zw : Mm} (h : fX12_tallow N w x1 x2 = some (zx, zw)) : MC l K yX12_tallow cX12_tallow 6 (some .int) rmX12_tallow w [.ref (K.1 77), .int x1, .int x2] (some (.int zx)) zw :=
  MC.of (by decide) (Nat.le_of_ble_eq_true rfl) rfl (AX12_tallow  h)

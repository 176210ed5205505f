def fX12_takes (N : Nat) (w : Mm) (x1 : Int32) (x2 : Int32) (x3 : Int32) : Option (Int32 × Mm) :=
if (w.1 77 19) = (2 : Int32) then (
if (fX12_in ((w.1 77 20).toInt64) x2.toInt64 x3.toInt64) = (0 : Int32) then (
some ((0 : Int32), w))
else (
Option.bind (wrA w 91 5 x1 (w.1 77 20)) fun m3 =>
Option.bind (fX12_goBehind N m3) fun m4 =>
some ((1 : Int32), m4)))
else (
some ((0 : Int32), w))
set_option maxRecDepth 100000 in
set_option maxHeartbeats 4000000 in
theorem AX12_takes {l : Launch} {K : Kt} {N : Nat}  {w : Mm} {x1 : Int32} {x2 : Int32} {x3 : Int32} {zx : Int32} {zw : Mm} (h : fX12_takes N w x1 x2 x3 = some (zx, zw)) : AW l K cX12_takes RX12 4 (some .boolean) rmX12_takes 0 0 ap_E (ap_F K (some (.int zx)) zw) w 0 [(0, .ref (K.1 77)), (1, .int x1), (2, .int x2), (3, .int x3)] [] := by
  unfold fX12_takes at h
  refine ap_aload_n dX12_takes_0 0 rfl rfl ?_
  refine ap_get (v := .int (w.1 77 19)) fl_X12_249 ly_77 rfl rfl dX12_takes_1 ?_
  refine ap_iconst (v := 2) dX12_takes_4 (by decide) ?_
  refine ap_icmp_ne (tgt := 23) dX12_takes_5 (by decide) (fun hc1 => ?_) (fun hc1 => ?_)
  · rw [if_neg hc1] at h
    refine ap_iconst (v := 0) dX12_takes_23 (by decide) ?_
    obtain ⟨rfl, rfl⟩ := Prod.mk.inj (Option.some.inj h)
    exact ap_zret rfl (Or.inl rfl) dX12_takes_24
  · rw [if_pos hc1] at h
    refine ap_aload_n dX12_takes_8 0 rfl rfl ?_
    refine ap_get (v := .int (w.1 77 20)) fl_X12_252 ly_77 rfl rfl dX12_takes_9 ?_
    refine ap_i2l (v := (w.1 77 20).toInt64) dX12_takes_12 rfl ?_
    refine ap_iload_n dX12_takes_13 2 rfl rfl ?_
    refine ap_i2l (v := x2.toInt64) dX12_takes_14 rfl ?_
    refine ap_iload_n dX12_takes_15 3 rfl rfl ?_
    refine ap_i2l (v := x3.toInt64) dX12_takes_16 rfl ?_
    refine ap_callS (As := [.long ((w.1 77 20).toInt64), .long x2.toInt64, .long x3.toInt64]) (st := []) (st1 := [.int (fX12_in ((w.1 77 20).toInt64) x2.toInt64 x3.toInt64)]) (mcX12_in  (w := w) (zx := fX12_in ((w.1 77 20).toInt64) x2.toInt64 x3.toInt64) rfl) cs_X12_61 ⟨rfl, rfl, by decide, by decide⟩ rfl (Nat.le_of_ble_eq_true rfl) ⟨Nat.zero_le _, Nat.zero_le _⟩ dX12_takes_17 rfl rfl ?_
    refine ap_if_ne (tgt := 25) dX12_takes_20 (by decide) (fun hc2 => ?_) (fun hc2 => ?_)
    · rw [if_neg hc2] at h
      refine ap_aload_n dX12_takes_25 0 rfl rfl ?_
      refine ap_get (v := .ref (K.1 91)) fl_X12_54 ly_77 rfl rfl dX12_takes_26 ?_
      refine ap_iload_n dX12_takes_29 1 rfl rfl ?_
      refine ap_aload_n dX12_takes_30 0 rfl rfl ?_
      refine ap_get (v := .int (w.1 77 20)) fl_X12_252 ly_77 rfl rfl dX12_takes_31 ?_
      obtain ⟨m3, hm3, h⟩ := Option.bind_eq_some_iff.mp h
      refine ap_iast ly_91 hm3 dX12_takes_34 ?_
      refine ap_aload_n dX12_takes_35 0 rfl rfl ?_
      obtain ⟨m4, hm4, h⟩ := Option.bind_eq_some_iff.mp h
      refine ap_callV (k := 77) (As := []) (st := []) (st1 := []) (mcX12_goBehind  hm4) cv_X12_265 rfl ly_77 ⟨rfl, rfl, by decide, by decide⟩ rfl (Nat.le_of_ble_eq_true rfl) ⟨Nat.zero_le _, Nat.zero_le _⟩ dX12_takes_36 rfl rfl ?_
      refine ap_iconst (v := 1) dX12_takes_39 (by decide) ?_
      obtain ⟨rfl, rfl⟩ := Prod.mk.inj (Option.some.inj h)
      exact ap_zret rfl (Or.inr rfl) dX12_takes_40
    · rw [if_pos hc2] at h
      refine ap_iconst (v := 0) dX12_takes_23 (by decide) ?_
      obtain ⟨rfl, rfl⟩ := Prod.mk.inj (Option.some.inj h)
      exact ap_zret rfl (Or.inl rfl) dX12_takes_24
theorem mcX12_takes {l : Launch} {K : Kt} {N : Nat}  {w : Mm} {x1 : Int32} {x2 : Int32} {x3 : Int32} {zx : Int32} {zw : Mm} (h : fX12_takes N w x1 x2 x3 = some (zx, zw)) : MC l K yX12_takes cX12_takes 4 (some .boolean) rmX12_takes w [.ref (K.1 77), .int x1, .int x2, .int x3] (some (.int zx)) zw :=
  MC.of (by decide) (Nat.le_of_ble_eq_true rfl) rfl (AX12_takes  h)
def fX12_takesFirst (N : Nat) (w : Mm) : Option (Int32 × Mm) :=
Option.bind (fX12_isCalled N w (6 : Int32) (118 : Int32) (97 : Int32) (108 : Int32) (108 : Int32) (101 : Int32) (121 : Int32)) fun a1 =>
if a1 = (0 : Int32) then (
some ((0 : Int32), w))
else (
Option.bind (fX12_goBehind N w) fun m3 =>
ob2 (fX12_takes N m3 (0 : Int32) (0 : Int32) (9 : Int32)) fun a4 m5 =>
if a4 = (0 : Int32) then (
some ((0 : Int32), m5))
else (
Option.bind (fX12_begin N 90 65 m5 (m5.1 91 0)) fun m7 =>
if (m7.1 77 19) = (3 : Int32) then (
some ((1 : Int32), m7))
else (
some ((0 : Int32), m7))))
set_option maxRecDepth 100000 in
set_option maxHeartbeats 4000000 in
theorem AX12_takesFirst {l : Launch} {K : Kt} {N : Nat}  {w : Mm} {zx : Int32} {zw : Mm} (h : fX12_takesFirst N w = some (zx, zw)) : AW l K cX12_takesFirst RX12 1 (some .boolean) rmX12_takesFirst 0 0 ap_E (ap_F K (some (.int zx)) zw) w 0 [(0, .ref (K.1 77))] [] := by
  unfold fX12_takesFirst at h
  refine ap_aload_n dX12_takesFirst_0 0 rfl rfl ?_
  refine ap_bipush (v := 6) dX12_takesFirst_1 (by decide) ?_
  refine ap_bipush (v := 118) dX12_takesFirst_3 (by decide) ?_
  refine ap_bipush (v := 97) dX12_takesFirst_5 (by decide) ?_
  refine ap_bipush (v := 108) dX12_takesFirst_7 (by decide) ?_
  refine ap_bipush (v := 108) dX12_takesFirst_9 (by decide) ?_
  refine ap_bipush (v := 101) dX12_takesFirst_11 (by decide) ?_
  refine ap_bipush (v := 121) dX12_takesFirst_13 (by decide) ?_
  obtain ⟨a1, ha1, h⟩ := Option.bind_eq_some_iff.mp h
  refine ap_callV (k := 77) (As := [.int (6 : Int32), .int (118 : Int32), .int (97 : Int32), .int (108 : Int32), .int (108 : Int32), .int (101 : Int32), .int (121 : Int32)]) (st := []) (st1 := [.int a1]) (mcX12_isCalled  (w := w) ha1) cv_X12_268 rfl ly_77 ⟨rfl, rfl, by decide, by decide⟩ rfl (Nat.le_of_ble_eq_true rfl) ⟨Nat.zero_le _, Nat.zero_le _⟩ dX12_takesFirst_15 rfl rfl ?_
  refine ap_if_ne (tgt := 23) dX12_takesFirst_18 (by decide) (fun hc2 => ?_) (fun hc2 => ?_)
  · rw [if_neg hc2] at h
    refine ap_aload_n dX12_takesFirst_23 0 rfl rfl ?_
    obtain ⟨m3, hm3, h⟩ := Option.bind_eq_some_iff.mp h
    refine ap_callV (k := 77) (As := []) (st := []) (st1 := []) (mcX12_goBehind  hm3) cv_X12_265 rfl ly_77 ⟨rfl, rfl, by decide, by decide⟩ rfl (Nat.le_of_ble_eq_true rfl) ⟨Nat.zero_le _, Nat.zero_le _⟩ dX12_takesFirst_24 rfl rfl ?_
    refine ap_aload_n dX12_takesFirst_27 0 rfl rfl ?_
    refine ap_iconst (v := 0) dX12_takesFirst_28 (by decide) ?_
    refine ap_iconst (v := 0) dX12_takesFirst_29 (by decide) ?_
    refine ap_bipush (v := 9) dX12_takesFirst_30 (by decide) ?_
    obtain ⟨a4, m5, ha4, h⟩ := ob2_iff h
    refine ap_callV (k := 77) (As := [.int (0 : Int32), .int (0 : Int32), .int (9 : Int32)]) (st := []) (st1 := [.int a4]) (mcX12_takes  ha4) cv_X12_272 rfl ly_77 ⟨rfl, rfl, by decide, by decide⟩ rfl (Nat.le_of_ble_eq_true rfl) ⟨Nat.zero_le _, Nat.zero_le _⟩ dX12_takesFirst_32 rfl rfl ?_
    refine ap_if_ne (tgt := 40) dX12_takesFirst_35 (by decide) (fun hc6 => ?_) (fun hc6 => ?_)
    · rw [if_neg hc6] at h
      refine ap_aload_n dX12_takesFirst_40 0 rfl rfl ?_
      refine ap_get (v := .ref (K.1 90)) fl_X12_51 ly_77 rfl rfl dX12_takesFirst_41 ?_
      refine ap_aload_n dX12_takesFirst_44 0 rfl rfl ?_
      refine ap_get (v := .ref (K.1 91)) fl_X12_54 ly_77 rfl rfl dX12_takesFirst_45 ?_
      refine ap_iconst (v := 0) dX12_takesFirst_48 (by decide) ?_
      refine ap_iald (x := (m5.1 91 0)) ly_91 (rdA_c (by decide) (by decide)) dX12_takesFirst_49 ?_
      obtain ⟨m7, hm7, h⟩ := Option.bind_eq_some_iff.mp h
      refine ap_callS (As := [.ref (K.1 90), .int (m5.1 91 0)]) (st := []) (st1 := []) (mcX12_begin ly_90 hm7) cs_X12_79 ⟨rfl, rfl, by decide, by decide⟩ rfl (Nat.le_of_ble_eq_true rfl) ⟨Nat.zero_le _, Nat.zero_le _⟩ dX12_takesFirst_50 rfl rfl ?_
      refine ap_aload_n dX12_takesFirst_53 0 rfl rfl ?_
      refine ap_get (v := .int (m7.1 77 19)) fl_X12_249 ly_77 rfl rfl dX12_takesFirst_54 ?_
      refine ap_iconst (v := 3) dX12_takesFirst_57 (by decide) ?_
      refine ap_icmp_ne (tgt := 65) dX12_takesFirst_58 (by decide) (fun hc8 => ?_) (fun hc8 => ?_)
      · rw [if_neg hc8] at h
        refine ap_iconst (v := 0) dX12_takesFirst_65 (by decide) ?_
        obtain ⟨rfl, rfl⟩ := Prod.mk.inj (Option.some.inj h)
        exact ap_zret rfl (Or.inl rfl) dX12_takesFirst_66
      · rw [if_pos hc8] at h
        refine ap_iconst (v := 1) dX12_takesFirst_61 (by decide) ?_
        refine ap_goto (tgt := 66) dX12_takesFirst_62 (by decide) ?_
        obtain ⟨rfl, rfl⟩ := Prod.mk.inj (Option.some.inj h)
        exact ap_zret rfl (Or.inr rfl) dX12_takesFirst_66
    · rw [if_pos hc6] at h
      refine ap_iconst (v := 0) dX12_takesFirst_38 (by decide) ?_
      obtain ⟨rfl, rfl⟩ := Prod.mk.inj (Option.some.inj h)
      exact ap_zret rfl (Or.inl rfl) dX12_takesFirst_39
  · rw [if_pos hc2] at h
    refine ap_iconst (v := 0) dX12_takesFirst_21 (by decide) ?_
    obtain ⟨rfl, rfl⟩ := Prod.mk.inj (Option.some.inj h)
    exact ap_zret rfl (Or.inl rfl) dX12_takesFirst_22
theorem mcX12_takesFirst {l : Launch} {K : Kt} {N : Nat}  {w : Mm} {zx : Int32} {zw : Mm} (h : fX12_takesFirst N w = some (zx, zw)) : MC l K yX12_takesFirst cX12_takesFirst 1 (some .boolean) rmX12_takesFirst w [.ref (K.1 77)] (some (.int zx)) zw :=
  MC.of (by decide) (Nat.le_of_ble_eq_true rfl) rfl (AX12_takesFirst  h)
def fX12_takesCandle (N : Nat) (w : Mm) : Option (Int32 × Mm) :=
if (w.1 90 0) = (7 : Int32) then (
some ((0 : Int32), w))
else (
Option.bind (fX12_goBehind N w) fun m2 =>
ob2 (fX12_takes N m2 (0 : Int32) (0 : Int32) (5 : Int32)) fun a3 m4 =>
if a3 = (0 : Int32) then (
some ((0 : Int32), m4))
else (
ob2 (fX12_takes N m4 (1 : Int32) (0 : Int32) (63 : Int32)) fun a6 m7 =>
if a6 = (0 : Int32) then (
some ((0 : Int32), m7))
else (
ob2 (fX12_takes N m7 (2 : Int32) (1 : Int32) (20 : Int32)) fun a9 m10 =>
if a9 = (0 : Int32) then (
some ((0 : Int32), m10))
else (
ob2 (fX12_takes N m10 (3 : Int32) (0 : Int32) (3 : Int32)) fun a12 m13 =>
if a12 = (0 : Int32) then (
some ((0 : Int32), m13))
else (
ob2 (fX12_takes N m13 (4 : Int32) (0 : Int32) (12 : Int32)) fun a15 m16 =>
if a15 = (0 : Int32) then (
some ((0 : Int32), m16))
else (
Option.bind (fX12_layCandle 90 65 m16 (m16.1 91 0) (m16.1 91 1) (m16.1 91 2) (m16.1 91 3) (m16.1 91 4)) fun m18 =>
some ((1 : Int32), m18)))))))
set_option maxRecDepth 100000 in
set_option maxHeartbeats 4000000 in
theorem AX12_takesCandle {l : Launch} {K : Kt} {N : Nat}  {w : Mm} {zx : Int32} {zw : Mm} (h : fX12_takesCandle N w = some (zx, zw)) : AW l K cX12_takesCandle RX12 1 (some .boolean) rmX12_takesCandle 0 0 ap_E (ap_F K (some (.int zx)) zw) w 0 [(0, .ref (K.1 77))] [] := by
  unfold fX12_takesCandle at h
  refine ap_aload_n dX12_takesCandle_0 0 rfl rfl ?_
  refine ap_get (v := .ref (K.1 90)) fl_X12_51 ly_77 rfl rfl dX12_takesCandle_1 ?_
  refine ap_iconst (v := 0) dX12_takesCandle_4 (by decide) ?_
  refine ap_iald (x := (w.1 90 0)) ly_90 (rdA_c (by decide) (by decide)) dX12_takesCandle_5 ?_
  refine ap_bipush (v := 7) dX12_takesCandle_6 (by decide) ?_
  refine ap_icmp_ne (tgt := 13) dX12_takesCandle_8 (by decide) (fun hc1 => ?_) (fun hc1 => ?_)
  · rw [if_neg hc1] at h
    refine ap_aload_n dX12_takesCandle_13 0 rfl rfl ?_
    obtain ⟨m2, hm2, h⟩ := Option.bind_eq_some_iff.mp h
    refine ap_callV (k := 77) (As := []) (st := []) (st1 := []) (mcX12_goBehind  hm2) cv_X12_265 rfl ly_77 ⟨rfl, rfl, by decide, by decide⟩ rfl (Nat.le_of_ble_eq_true rfl) ⟨Nat.zero_le _, Nat.zero_le _⟩ dX12_takesCandle_14 rfl rfl ?_
    refine ap_aload_n dX12_takesCandle_17 0 rfl rfl ?_
    refine ap_iconst (v := 0) dX12_takesCandle_18 (by decide) ?_
    refine ap_iconst (v := 0) dX12_takesCandle_19 (by decide) ?_
    refine ap_iconst (v := 5) dX12_takesCandle_20 (by decide) ?_
    obtain ⟨a3, m4, ha3, h⟩ := ob2_iff h
    refine ap_callV (k := 77) (As := [.int (0 : Int32), .int (0 : Int32), .int (5 : Int32)]) (st := []) (st1 := [.int a3]) (mcX12_takes  ha3) cv_X12_272 rfl ly_77 ⟨rfl, rfl, by decide, by decide⟩ rfl (Nat.le_of_ble_eq_true rfl) ⟨Nat.zero_le _, Nat.zero_le _⟩ dX12_takesCandle_21 rfl rfl ?_
    refine ap_if_eq (tgt := 70) dX12_takesCandle_24 (by decide) (fun hc5 => ?_) (fun hc5 => ?_)
    · rw [if_pos hc5] at h
      refine ap_iconst (v := 0) dX12_takesCandle_70 (by decide) ?_
      obtain ⟨rfl, rfl⟩ := Prod.mk.inj (Option.some.inj h)
      exact ap_zret rfl (Or.inl rfl) dX12_takesCandle_71
    · rw [if_neg hc5] at h
      refine ap_aload_n dX12_takesCandle_27 0 rfl rfl ?_
      refine ap_iconst (v := 1) dX12_takesCandle_28 (by decide) ?_
      refine ap_iconst (v := 0) dX12_takesCandle_29 (by decide) ?_
      refine ap_bipush (v := 63) dX12_takesCandle_30 (by decide) ?_
      obtain ⟨a6, m7, ha6, h⟩ := ob2_iff h
      refine ap_callV (k := 77) (As := [.int (1 : Int32), .int (0 : Int32), .int (63 : Int32)]) (st := []) (st1 := [.int a6]) (mcX12_takes  ha6) cv_X12_272 rfl ly_77 ⟨rfl, rfl, by decide, by decide⟩ rfl (Nat.le_of_ble_eq_true rfl) ⟨Nat.zero_le _, Nat.zero_le _⟩ dX12_takesCandle_32 rfl rfl ?_
      refine ap_if_eq (tgt := 70) dX12_takesCandle_35 (by decide) (fun hc8 => ?_) (fun hc8 => ?_)
      · rw [if_pos hc8] at h
        refine ap_iconst (v := 0) dX12_takesCandle_70 (by decide) ?_
        obtain ⟨rfl, rfl⟩ := Prod.mk.inj (Option.some.inj h)
        exact ap_zret rfl (Or.inl rfl) dX12_takesCandle_71
      · rw [if_neg hc8] at h
        refine ap_aload_n dX12_takesCandle_38 0 rfl rfl ?_
        refine ap_iconst (v := 2) dX12_takesCandle_39 (by decide) ?_
        refine ap_iconst (v := 1) dX12_takesCandle_40 (by decide) ?_
        refine ap_bipush (v := 20) dX12_takesCandle_41 (by decide) ?_
        obtain ⟨a9, m10, ha9, h⟩ := ob2_iff h
        refine ap_callV (k := 77) (As := [.int (2 : Int32), .int (1 : Int32), .int (20 : Int32)]) (st := []) (st1 := [.int a9]) (mcX12_takes  ha9) cv_X12_272 rfl ly_77 ⟨rfl, rfl, by decide, by decide⟩ rfl (Nat.le_of_ble_eq_true rfl) ⟨Nat.zero_le _, Nat.zero_le _⟩ dX12_takesCandle_43 rfl rfl ?_
        refine ap_if_eq (tgt := 70) dX12_takesCandle_46 (by decide) (fun hc11 => ?_) (fun hc11 => ?_)
        · rw [if_pos hc11] at h
          refine ap_iconst (v := 0) dX12_takesCandle_70 (by decide) ?_
          obtain ⟨rfl, rfl⟩ := Prod.mk.inj (Option.some.inj h)
          exact ap_zret rfl (Or.inl rfl) dX12_takesCandle_71
        · rw [if_neg hc11] at h
          refine ap_aload_n dX12_takesCandle_49 0 rfl rfl ?_
          refine ap_iconst (v := 3) dX12_takesCandle_50 (by decide) ?_
          refine ap_iconst (v := 0) dX12_takesCandle_51 (by decide) ?_
          refine ap_iconst (v := 3) dX12_takesCandle_52 (by decide) ?_
          obtain ⟨a12, m13, ha12, h⟩ := ob2_iff h
          refine ap_callV (k := 77) (As := [.int (3 : Int32), .int (0 : Int32), .int (3 : Int32)]) (st := []) (st1 := [.int a12]) (mcX12_takes  ha12) cv_X12_272 rfl ly_77 ⟨rfl, rfl, by decide, by decide⟩ rfl (Nat.le_of_ble_eq_true rfl) ⟨Nat.zero_le _, Nat.zero_le _⟩ dX12_takesCandle_53 rfl rfl ?_
          refine ap_if_eq (tgt := 70) dX12_takesCandle_56 (by decide) (fun hc14 => ?_) (fun hc14 => ?_)
          · rw [if_pos hc14] at h
            refine ap_iconst (v := 0) dX12_takesCandle_70 (by decide) ?_
            obtain ⟨rfl, rfl⟩ := Prod.mk.inj (Option.some.inj h)
            exact ap_zret rfl (Or.inl rfl) dX12_takesCandle_71
          · rw [if_neg hc14] at h
            refine ap_aload_n dX12_takesCandle_59 0 rfl rfl ?_
            refine ap_iconst (v := 4) dX12_takesCandle_60 (by decide) ?_
            refine ap_iconst (v := 0) dX12_takesCandle_61 (by decide) ?_
            refine ap_bipush (v := 12) dX12_takesCandle_62 (by decide) ?_
            obtain ⟨a15, m16, ha15, h⟩ := ob2_iff h
            refine ap_callV (k := 77) (As := [.int (4 : Int32), .int (0 : Int32), .int (12 : Int32)]) (st := []) (st1 := [.int a15]) (mcX12_takes  ha15) cv_X12_272 rfl ly_77 ⟨rfl, rfl, by decide, by decide⟩ rfl (Nat.le_of_ble_eq_true rfl) ⟨Nat.zero_le _, Nat.zero_le _⟩ dX12_takesCandle_64 rfl rfl ?_
            refine ap_if_ne (tgt := 72) dX12_takesCandle_67 (by decide) (fun hc17 => ?_) (fun hc17 => ?_)
            · rw [if_neg hc17] at h
              refine ap_aload_n dX12_takesCandle_72 0 rfl rfl ?_
              refine ap_get (v := .ref (K.1 90)) fl_X12_51 ly_77 rfl rfl dX12_takesCandle_73 ?_
              refine ap_aload_n dX12_takesCandle_76 0 rfl rfl ?_
              refine ap_get (v := .ref (K.1 91)) fl_X12_54 ly_77 rfl rfl dX12_takesCandle_77 ?_
              refine ap_iconst (v := 0) dX12_takesCandle_80 (by decide) ?_
              refine ap_iald (x := (m16.1 91 0)) ly_91 (rdA_c (by decide) (by decide)) dX12_takesCandle_81 ?_
              refine ap_aload_n dX12_takesCandle_82 0 rfl rfl ?_
              refine ap_get (v := .ref (K.1 91)) fl_X12_54 ly_77 rfl rfl dX12_takesCandle_83 ?_
              refine ap_iconst (v := 1) dX12_takesCandle_86 (by decide) ?_
              refine ap_iald (x := (m16.1 91 1)) ly_91 (rdA_c (by decide) (by decide)) dX12_takesCandle_87 ?_
              refine ap_aload_n dX12_takesCandle_88 0 rfl rfl ?_
              refine ap_get (v := .ref (K.1 91)) fl_X12_54 ly_77 rfl rfl dX12_takesCandle_89 ?_
              refine ap_iconst (v := 2) dX12_takesCandle_92 (by decide) ?_
              refine ap_iald (x := (m16.1 91 2)) ly_91 (rdA_c (by decide) (by decide)) dX12_takesCandle_93 ?_
              refine ap_aload_n dX12_takesCandle_94 0 rfl rfl ?_
              refine ap_get (v := .ref (K.1 91)) fl_X12_54 ly_77 rfl rfl dX12_takesCandle_95 ?_
              refine ap_iconst (v := 3) dX12_takesCandle_98 (by decide) ?_
              refine ap_iald (x := (m16.1 91 3)) ly_91 (rdA_c (by decide) (by decide)) dX12_takesCandle_99 ?_
              refine ap_aload_n dX12_takesCandle_100 0 rfl rfl ?_
              refine ap_get (v := .ref (K.1 91)) fl_X12_54 ly_77 rfl rfl dX12_takesCandle_101 ?_
              refine ap_iconst (v := 4) dX12_takesCandle_104 (by decide) ?_
              refine ap_iald (x := (m16.1 91 4)) ly_91 (rdA_c (by decide) (by decide)) dX12_takesCandle_105 ?_
              obtain ⟨m18, hm18, h⟩ := Option.bind_eq_some_iff.mp h
              refine ap_callS (As := [.ref (K.1 90), .int (m16.1 91 0), .int (m16.1 91 1), .int (m16.1 91 2), .int (m16.1 91 3), .int (m16.1 91 4)]) (st := []) (st1 := []) (mcX12_layCandle ly_90 hm18) cs_X12_100 ⟨rfl, rfl, by decide, by decide⟩ rfl (Nat.le_of_ble_eq_true rfl) ⟨Nat.zero_le _, Nat.zero_le _⟩ dX12_takesCandle_106 rfl rfl ?_
              refine ap_iconst (v := 1) dX12_takesCandle_109 (by decide) ?_
              obtain ⟨rfl, rfl⟩ := Prod.mk.inj (Option.some.inj h)
              exact ap_zret rfl (Or.inr rfl) dX12_takesCandle_110
            · rw [if_pos hc17] at h
              refine ap_iconst (v := 0) dX12_takesCandle_70 (by decide) ?_
              obtain ⟨rfl, rfl⟩ := Prod.mk.inj (Option.some.inj h)
              exact ap_zret rfl (Or.inl rfl) dX12_takesCandle_71
  · rw [if_pos hc1] at h
    refine ap_iconst (v := 0) dX12_takesCandle_11 (by decide) ?_
    obtain ⟨rfl, rfl⟩ := Prod.mk.inj (Option.some.inj h)
    exact ap_zret rfl (Or.inl rfl) dX12_takesCandle_12
theorem mcX12_takesCandle {l : Launch} {K : Kt} {N : Nat}  {w : Mm} {zx : Int32} {zw : Mm} (h : fX12_takesCandle N w = some (zx, zw)) : MC l K yX12_takesCandle cX12_takesCandle 1 (some .boolean) rmX12_takesCandle w [.ref (K.1 77)] (some (.int zx)) zw :=
  MC.of (by decide) (Nat.le_of_ble_eq_true rfl) rfl (AX12_takesCandle  h)
def fX12_takesOut (N : Nat) (w : Mm) : Option (Int32 × Mm) :=
Option.bind (fX12_goBehind N w) fun m1 =>
ob2 (fX12_takes N m1 (0 : Int32) (0 : Int32) ((m1.1 90 0) - (1 : Int32))) fun a2 m3 =>
if a2 = (0 : Int32) then (
some ((0 : Int32), m3))
else (
Option.bind (some (sI m3 90 2 ((m3.1 90 2) &&& (((1 : Int32) <<< ((m3.1 91 0) &&& 31)) ^^^ (-1 : Int32))))) fun m5 =>
some ((1 : Int32), m5))
set_option maxRecDepth 100000 in
set_option maxHeartbeats 4000000 in
theorem AX12_takesOut {l : Launch} {K : Kt} {N : Nat}  {w : Mm} {zx : Int32} {zw : Mm} (h : fX12_takesOut N w = some (zx, zw)) : AW l K cX12_takesOut RX12 1 (some .boolean) rmX12_takesOut 0 0 ap_E (ap_F K (some (.int zx)) zw) w 0 [(0, .ref (K.1 77))] [] := by
  unfold fX12_takesOut at h
  refine ap_aload_n dX12_takesOut_0 0 rfl rfl ?_
  obtain ⟨m1, hm1, h⟩ := Option.bind_eq_some_iff.mp h
  refine ap_callV (k := 77) (As := []) (st := []) (st1 := []) (mcX12_goBehind  hm1) cv_X12_265 rfl ly_77 ⟨rfl, rfl, by decide, by decide⟩ rfl (Nat.le_of_ble_eq_true rfl) ⟨Nat.zero_le _, Nat.zero_le _⟩ dX12_takesOut_1 rfl rfl ?_
  refine ap_aload_n dX12_takesOut_4 0 rfl rfl ?_
  refine ap_iconst (v := 0) dX12_takesOut_5 (by decide) ?_
  refine ap_iconst (v := 0) dX12_takesOut_6 (by decide) ?_
  refine ap_aload_n dX12_takesOut_7 0 rfl rfl ?_
  refine ap_get (v := .ref (K.1 90)) fl_X12_51 ly_77 rfl rfl dX12_takesOut_8 ?_
  refine ap_iconst (v := 0) dX12_takesOut_11 (by decide) ?_
  refine ap_iald (x := (m1.1 90 0)) ly_90 (rdA_c (by decide) (by decide)) dX12_takesOut_12 ?_
  refine ap_iconst (v := 1) dX12_takesOut_13 (by decide) ?_
  refine ap_isub dX12_takesOut_14 ?_
  obtain ⟨a2, m3, ha2, h⟩ := ob2_iff h
  refine ap_callV (k := 77) (As := [.int (0 : Int32), .int (0 : Int32), .int ((m1.1 90 0) - (1 : Int32))]) (st := []) (st1 := [.int a2]) (mcX12_takes  ha2) cv_X12_272 rfl ly_77 ⟨rfl, rfl, by decide, by decide⟩ rfl (Nat.le_of_ble_eq_true rfl) ⟨Nat.zero_le _, Nat.zero_le _⟩ dX12_takesOut_15 rfl rfl ?_
  refine ap_if_ne (tgt := 23) dX12_takesOut_18 (by decide) (fun hc4 => ?_) (fun hc4 => ?_)
  · rw [if_neg hc4] at h
    refine ap_aload_n dX12_takesOut_23 0 rfl rfl ?_
    refine ap_get (v := .ref (K.1 90)) fl_X12_51 ly_77 rfl rfl dX12_takesOut_24 ?_
    refine ap_iconst (v := 2) dX12_takesOut_27 (by decide) ?_
    refine ap_dup2 dX12_takesOut_28 rfl rfl ?_
    refine ap_iald (x := (m3.1 90 2)) ly_90 (rdA_c (by decide) (by decide)) dX12_takesOut_29 ?_
    refine ap_iconst (v := 1) dX12_takesOut_30 (by decide) ?_
    refine ap_aload_n dX12_takesOut_31 0 rfl rfl ?_
    refine ap_get (v := .ref (K.1 91)) fl_X12_54 ly_77 rfl rfl dX12_takesOut_32 ?_
    refine ap_iconst (v := 0) dX12_takesOut_35 (by decide) ?_
    refine ap_iald (x := (m3.1 91 0)) ly_91 (rdA_c (by decide) (by decide)) dX12_takesOut_36 ?_
    refine ap_ishl dX12_takesOut_37 ?_
    refine ap_iconst (v := -1) dX12_takesOut_38 (by decide) ?_
    refine ap_ixor dX12_takesOut_39 ?_
    refine ap_iand dX12_takesOut_40 ?_
    obtain ⟨m5, hm5, h⟩ := Option.bind_eq_some_iff.mp h
    refine ap_iast ly_90 ((wrA_c (by decide) (by decide)).trans hm5) dX12_takesOut_41 ?_
    refine ap_iconst (v := 1) dX12_takesOut_42 (by decide) ?_
    obtain ⟨rfl, rfl⟩ := Prod.mk.inj (Option.some.inj h)
    exact ap_zret rfl (Or.inr rfl) dX12_takesOut_43
  · rw [if_pos hc4] at h
    refine ap_iconst (v := 0) dX12_takesOut_21 (by decide) ?_
    obtain ⟨rfl, rfl⟩ := Prod.mk.inj (Option.some.inj h)
    exact ap_zret rfl (Or.inl rfl) dX12_takesOut_22
theorem mcX12_takesOut {l : Launch} {K : Kt} {N : Nat}  {w : Mm} {zx : Int32} {zw : Mm} (h : fX12_takesOut N w = some (zx, zw)) : MC l K yX12_takesOut cX12_takesOut 1 (some .boolean) rmX12_takesOut w [.ref (K.1 77)] (some (.int zx)) zw :=
  MC.of (by decide) (Nat.le_of_ble_eq_true rfl) rfl (AX12_takesOut  h)
def fX12_takesItem_L54 (N : Nat) (w : Mm) : Option (Int32 × Mm) :=
some ((0 : Int32), w)
set_option maxRecDepth 100000 in
set_option maxHeartbeats 4000000 in
theorem AX12_takesItem_L54 {l : Launch} {K : Kt} {N : Nat}   {w : Mm} {zx : Int32} {zw : Mm} (h : fX12_takesItem_L54 N w = some (zx, zw)) : AW l K cX12_takesItem RX12 1 (some .boolean) rmX12_takesItem 0 0 ap_E (ap_F K (some (.int zx)) zw) w 54 [] [] := by
  unfold fX12_takesItem_L54 at h
  refine ap_iconst (v := 0) dX12_takesItem_54 (by decide) ?_
  obtain ⟨rfl, rfl⟩ := Prod.mk.inj (Option.some.inj h)
  exact ap_zret rfl (Or.inl rfl) dX12_takesItem_55
def fX12_takesItem (N : Nat) (w : Mm) : Option (Int32 × Mm) :=
Option.bind (fX12_isCalled N w (6 : Int32) (99 : Int32) (97 : Int32) (110 : Int32) (100 : Int32) (108 : Int32) (101 : Int32)) fun a1 =>
if a1 = (0 : Int32) then (
Option.bind (fX12_isCalled N w (3 : Int32) (111 : Int32) (117 : Int32) (116 : Int32) (0 : Int32) (0 : Int32) (0 : Int32)) fun a3 =>
if a3 = (0 : Int32) then (
fX12_takesItem_L54 N w)
else (
ob2 (fX12_takesOut N w) fun a5 m6 =>
if a5 = (0 : Int32) then (
fX12_takesItem_L54 N m6)
else (
some ((1 : Int32), m6))))
else (
ob2 (fX12_takesCandle N w) fun a8 m9 =>
Option.bind (bz a8) fun a10 =>
some (a10, m9))
set_option maxRecDepth 100000 in
set_option maxHeartbeats 4000000 in
theorem AX12_takesItem {l : Launch} {K : Kt} {N : Nat}  {w : Mm} {zx : Int32} {zw : Mm} (h : fX12_takesItem N w = some (zx, zw)) : AW l K cX12_takesItem RX12 1 (some .boolean) rmX12_takesItem 0 0 ap_E (ap_F K (some (.int zx)) zw) w 0 [(0, .ref (K.1 77))] [] := by
  unfold fX12_takesItem at h
  refine ap_aload_n dX12_takesItem_0 0 rfl rfl ?_
  refine ap_bipush (v := 6) dX12_takesItem_1 (by decide) ?_
  refine ap_bipush (v := 99) dX12_takesItem_3 (by decide) ?_
  refine ap_bipush (v := 97) dX12_takesItem_5 (by decide) ?_
  refine ap_bipush (v := 110) dX12_takesItem_7 (by decide) ?_
  refine ap_bipush (v := 100) dX12_takesItem_9 (by decide) ?_
  refine ap_bipush (v := 108) dX12_takesItem_11 (by decide) ?_
  refine ap_bipush (v := 101) dX12_takesItem_13 (by decide) ?_
  obtain ⟨a1, ha1, h⟩ := Option.bind_eq_some_iff.mp h
  refine ap_callV (k := 77) (As := [.int (6 : Int32), .int (99 : Int32), .int (97 : Int32), .int (110 : Int32), .int (100 : Int32), .int (108 : Int32), .int (101 : Int32)]) (st := []) (st1 := [.int a1]) (mcX12_isCalled  (w := w) ha1) cv_X12_268 rfl ly_77 ⟨rfl, rfl, by decide, by decide⟩ rfl (Nat.le_of_ble_eq_true rfl) ⟨Nat.zero_le _, Nat.zero_le _⟩ dX12_takesItem_15 rfl rfl ?_
  refine ap_if_eq (tgt := 26) dX12_takesItem_18 (by decide) (fun hc2 => ?_) (fun hc2 => ?_)
  · rw [if_pos hc2] at h
    refine ap_aload_n dX12_takesItem_26 0 rfl rfl ?_
    refine ap_iconst (v := 3) dX12_takesItem_27 (by decide) ?_
    refine ap_bipush (v := 111) dX12_takesItem_28 (by decide) ?_
    refine ap_bipush (v := 117) dX12_takesItem_30 (by decide) ?_
    refine ap_bipush (v := 116) dX12_takesItem_32 (by decide) ?_
    refine ap_iconst (v := 0) dX12_takesItem_34 (by decide) ?_
    refine ap_iconst (v := 0) dX12_takesItem_35 (by decide) ?_
    refine ap_iconst (v := 0) dX12_takesItem_36 (by decide) ?_
    obtain ⟨a3, ha3, h⟩ := Option.bind_eq_some_iff.mp h
    refine ap_callV (k := 77) (As := [.int (3 : Int32), .int (111 : Int32), .int (117 : Int32), .int (116 : Int32), .int (0 : Int32), .int (0 : Int32), .int (0 : Int32)]) (st := []) (st1 := [.int a3]) (mcX12_isCalled  (w := w) ha3) cv_X12_268 rfl ly_77 ⟨rfl, rfl, by decide, by decide⟩ rfl (Nat.le_of_ble_eq_true rfl) ⟨Nat.zero_le _, Nat.zero_le _⟩ dX12_takesItem_37 rfl rfl ?_
    refine ap_if_eq (tgt := 54) dX12_takesItem_40 (by decide) (fun hc4 => ?_) (fun hc4 => ?_)
    · rw [if_pos hc4] at h
      refine ap_sub [] rfl ?_
      exact AX12_takesItem_L54   h
    · rw [if_neg hc4] at h
      refine ap_aload_n dX12_takesItem_43 0 rfl rfl ?_
      obtain ⟨a5, m6, ha5, h⟩ := ob2_iff h
      refine ap_callV (k := 77) (As := []) (st := []) (st1 := [.int a5]) (mcX12_takesOut  ha5) cv_X12_279 rfl ly_77 ⟨rfl, rfl, by decide, by decide⟩ rfl (Nat.le_of_ble_eq_true rfl) ⟨Nat.zero_le _, Nat.zero_le _⟩ dX12_takesItem_44 rfl rfl ?_
      refine ap_if_eq (tgt := 54) dX12_takesItem_47 (by decide) (fun hc7 => ?_) (fun hc7 => ?_)
      · rw [if_pos hc7] at h
        refine ap_sub [] rfl ?_
        exact AX12_takesItem_L54   h
      · rw [if_neg hc7] at h
        refine ap_iconst (v := 1) dX12_takesItem_50 (by decide) ?_
        refine ap_goto (tgt := 55) dX12_takesItem_51 (by decide) ?_
        obtain ⟨rfl, rfl⟩ := Prod.mk.inj (Option.some.inj h)
        exact ap_zret rfl (Or.inr rfl) dX12_takesItem_55
  · rw [if_neg hc2] at h
    refine ap_aload_n dX12_takesItem_21 0 rfl rfl ?_
    obtain ⟨a8, m9, ha8, h⟩ := ob2_iff h
    refine ap_callV (k := 77) (As := []) (st := []) (st1 := [.int a8]) (mcX12_takesCandle  ha8) cv_X12_276 rfl ly_77 ⟨rfl, rfl, by decide, by decide⟩ rfl (Nat.le_of_ble_eq_true rfl) ⟨Nat.zero_le _, Nat.zero_le _⟩ dX12_takesItem_22 rfl rfl ?_
    obtain ⟨a10, ha10, h⟩ := Option.bind_eq_some_iff.mp h
    obtain ⟨rfl, rfl⟩ := Prod.mk.inj (Option.some.inj h)
    obtain ⟨ha10b, rfl⟩ := bz_some ha10
    exact ap_zret rfl ha10b dX12_takesItem_25
theorem mcX12_takesItem {l : Launch} {K : Kt} {N : Nat}  {w : Mm} {zx : Int32} {zw : Mm} (h : fX12_takesItem N w = some (zx, zw)) : MC l K yX12_takesItem cX12_takesItem 1 (some .boolean) rmX12_takesItem w [.ref (K.1 77)] (some (.int zx)) zw :=
  MC.of (by decide) (Nat.le_of_ble_eq_true rfl) rfl (AX12_takesItem  h)
def fX12_read_L68 (N : Nat) : Nat → Mm → Int32 → Int32 → Option (Int32 × Mm)
  | 0, _, _, _ => none
  | n0 + 1, w, x1, x2 => if (65 : Int32) ≤ x2 then (
some (x1, w))
else (
Option.bind (rdA w 90 65 x2) fun a13 =>
Option.bind (wrA w 78 129 x2 a13) fun m14 =>
(fX12_read_L68 N n0) m14 x1 (x2 + 1))
set_option maxRecDepth 100000 in
set_option maxHeartbeats 4000000 in
theorem AX12_read_L68 {l : Launch} {K : Kt} {N : Nat}   : ∀ (n0 : Nat) (w : Mm) (x1 : Int32) (x2 : Int32) {zx : Int32} {zw : Mm}, fX12_read_L68 N n0 w x1 x2 = some (zx, zw) → AW l K cX12_read RX12 3 (some .int) rmX12_read 0 0 ap_E (ap_F K (some (.int zx)) zw) w 68 [(0, .ref (K.1 77)), (1, .int x1), (2, .int x2)] [] := by
  intro n0
  induction n0 with
  | zero =>
    intro w x1 x2 zx zw h
    cases h
  | succ n0 ih =>
    intro w x1 x2 zx zw h
    rw [fX12_read_L68] at h
    refine ap_iload_n dX12_read_68 2 rfl rfl ?_
    refine ap_bipush (v := 65) dX12_read_69 (by decide) ?_
    refine ap_icmp_ge (tgt := 92) dX12_read_71 (by decide) (fun hc12 => ?_) (fun hc12 => ?_)
    · rw [if_pos hc12] at h
      refine ap_iload_n dX12_read_92 1 rfl rfl ?_
      obtain ⟨rfl, rfl⟩ := Prod.mk.inj (Option.some.inj h)
      exact ap_iret rfl dX12_read_93
    · rw [if_neg hc12] at h
      refine ap_aload_n dX12_read_74 0 rfl rfl ?_
      refine ap_get (v := .ref (K.1 78)) fl_X12_7 ly_77 rfl rfl dX12_read_75 ?_
      refine ap_iload_n dX12_read_78 2 rfl rfl ?_
      refine ap_aload_n dX12_read_79 0 rfl rfl ?_
      refine ap_get (v := .ref (K.1 90)) fl_X12_51 ly_77 rfl rfl dX12_read_80 ?_
      refine ap_iload_n dX12_read_83 2 rfl rfl ?_
      obtain ⟨a13, ha13, h⟩ := Option.bind_eq_some_iff.mp h
      refine ap_iald ly_90 ha13 dX12_read_84 ?_
      obtain ⟨m14, hm14, h⟩ := Option.bind_eq_some_iff.mp h
      refine ap_iast ly_78 hm14 dX12_read_85 ?_
      refine ap_iinc (v := x2 + 1) (lv' := [(2, .int (x2 + 1)), (0, .ref (K.1 77)), (1, .int x1)]) dX12_read_86 2 rfl rfl (by decide) rfl ?_
      refine ap_goto (tgt := 68) dX12_read_89 (by decide) ?_
      refine ap_sub [1, 2, 0] rfl ?_
      exact ih _ _ _ h
def fX12_read_L26 (N : Nat) : Nat → Mm → Int32 → Option (Int32 × Mm)
  | 0, _, _ => none
  | n0 + 1, w, x1 => if (w.1 77 19) = (0 : Int32) then (
fX12_read_L68 N N w x1 (0 : Int32))
else (
ob2 (fX12_takesItem N w) fun a7 m8 =>
if a7 = (0 : Int32) then (
some (((-10 : Int32) - (m8.1 77 17)), m8))
else (
if (m8.1 77 19) = (3 : Int32) then (
Option.bind (fX12_goBehind N m8) fun m11 =>
(fX12_read_L26 N n0) m11 (x1 + 1))
else (
some (((-10 : Int32) - (m8.1 77 17)), m8))))
set_option maxRecDepth 100000 in
set_option maxHeartbeats 4000000 in
theorem AX12_read_L26 {l : Launch} {K : Kt} {N : Nat}   : ∀ (n0 : Nat) (w : Mm) (x1 : Int32) {zx : Int32} {zw : Mm}, fX12_read_L26 N n0 w x1 = some (zx, zw) → AW l K cX12_read RX12 3 (some .int) rmX12_read 0 0 ap_E (ap_F K (some (.int zx)) zw) w 26 [(0, .ref (K.1 77)), (1, .int x1)] [] := by
  intro n0
  induction n0 with
  | zero =>
    intro w x1 zx zw h
    cases h
  | succ n0 ih =>
    intro w x1 zx zw h
    rw [fX12_read_L26] at h
    refine ap_aload_n dX12_read_26 0 rfl rfl ?_
    refine ap_get (v := .int (w.1 77 19)) fl_X12_249 ly_77 rfl rfl dX12_read_27 ?_
    refine ap_if_eq (tgt := 66) dX12_read_30 (by decide) (fun hc6 => ?_) (fun hc6 => ?_)
    · rw [if_pos hc6] at h
      refine ap_iconst (v := 0) dX12_read_66 (by decide) ?_
      refine ap_istore_n (i := 2) (lv' := [(2, .int (0 : Int32)), (0, .ref (K.1 77)), (1, .int x1)]) dX12_read_67 rfl (by decide) rfl ?_
      refine ap_sub [1, 2, 0] rfl ?_
      exact AX12_read_L68  N _ _ _ h
    · rw [if_neg hc6] at h
      refine ap_aload_n dX12_read_33 0 rfl rfl ?_
      obtain ⟨a7, m8, ha7, h⟩ := ob2_iff h
      refine ap_callV (k := 77) (As := []) (st := []) (st1 := [.int a7]) (mcX12_takesItem  ha7) cv_X12_285 rfl ly_77 ⟨rfl, rfl, by decide, by decide⟩ rfl (Nat.le_of_ble_eq_true rfl) ⟨Nat.zero_le _, Nat.zero_le _⟩ dX12_read_34 rfl rfl ?_
      refine ap_if_eq (tgt := 48) dX12_read_37 (by decide) (fun hc9 => ?_) (fun hc9 => ?_)
      · rw [if_pos hc9] at h
        refine ap_bipush (v := -10) dX12_read_48 (by decide) ?_
        refine ap_aload_n dX12_read_50 0 rfl rfl ?_
        refine ap_get (v := .int (m8.1 77 17)) fl_X12_243 ly_77 rfl rfl dX12_read_51 ?_
        refine ap_isub dX12_read_54 ?_
        obtain ⟨rfl, rfl⟩ := Prod.mk.inj (Option.some.inj h)
        exact ap_iret rfl dX12_read_55
      · rw [if_neg hc9] at h
        refine ap_aload_n dX12_read_40 0 rfl rfl ?_
        refine ap_get (v := .int (m8.1 77 19)) fl_X12_249 ly_77 rfl rfl dX12_read_41 ?_
        refine ap_iconst (v := 3) dX12_read_44 (by decide) ?_
        refine ap_icmp_eq (tgt := 56) dX12_read_45 (by decide) (fun hc10 => ?_) (fun hc10 => ?_)
        · rw [if_pos hc10] at h
          refine ap_aload_n dX12_read_56 0 rfl rfl ?_
          obtain ⟨m11, hm11, h⟩ := Option.bind_eq_some_iff.mp h
          refine ap_callV (k := 77) (As := []) (st := []) (st1 := []) (mcX12_goBehind  hm11) cv_X12_265 rfl ly_77 ⟨rfl, rfl, by decide, by decide⟩ rfl (Nat.le_of_ble_eq_true rfl) ⟨Nat.zero_le _, Nat.zero_le _⟩ dX12_read_57 rfl rfl ?_
          refine ap_iinc (v := x1 + 1) (lv' := [(1, .int (x1 + 1)), (0, .ref (K.1 77))]) dX12_read_60 1 rfl rfl (by decide) rfl ?_
          refine ap_goto (tgt := 26) dX12_read_63 (by decide) ?_
          refine ap_sub [1, 0] rfl ?_
          exact ih _ _ h
        · rw [if_neg hc10] at h
          refine ap_bipush (v := -10) dX12_read_48 (by decide) ?_
          refine ap_aload_n dX12_read_50 0 rfl rfl ?_
          refine ap_get (v := .int (m8.1 77 17)) fl_X12_243 ly_77 rfl rfl dX12_read_51 ?_
          refine ap_isub dX12_read_54 ?_
          obtain ⟨rfl, rfl⟩ := Prod.mk.inj (Option.some.inj h)
          exact ap_iret rfl dX12_read_55
def fX12_read (N : Nat) (w : Mm) : Option (Int32 × Mm) :=
Option.bind (fX12_lookAt N w (0 : Int32)) fun m1 =>
ob2 (fX12_takesFirst N m1) fun a2 m3 =>
if a2 = (0 : Int32) then (
some (((-10 : Int32) - (m3.1 77 17)), m3))
else (
Option.bind (fX12_goBehind N m3) fun m5 =>
fX12_read_L26 N N m5 (1 : Int32))
set_option maxRecDepth 100000 in
set_option maxHeartbeats 4000000 in
theorem AX12_read {l : Launch} {K : Kt} {N : Nat}  {w : Mm} {zx : Int32} {zw : Mm} (h : fX12_read N w = some (zx, zw)) : AW l K cX12_read RX12 3 (some .int) rmX12_read 0 0 ap_E (ap_F K (some (.int zx)) zw) w 0 [(0, .ref (K.1 77))] [] := by
  unfold fX12_read at h
  refine ap_aload_n dX12_read_0 0 rfl rfl ?_
  refine ap_iconst (v := 0) dX12_read_1 (by decide) ?_
  obtain ⟨m1, hm1, h⟩ := Option.bind_eq_some_iff.mp h
  refine ap_callV (k := 77) (As := [.int (0 : Int32)]) (st := []) (st1 := []) (mcX12_lookAt  hm1) cv_X12_261 rfl ly_77 ⟨rfl, rfl, by decide, by decide⟩ rfl (Nat.le_of_ble_eq_true rfl) ⟨Nat.zero_le _, Nat.zero_le _⟩ dX12_read_2 rfl rfl ?_
  refine ap_aload_n dX12_read_5 0 rfl rfl ?_
  obtain ⟨a2, m3, ha2, h⟩ := ob2_iff h
  refine ap_callV (k := 77) (As := []) (st := []) (st1 := [.int a2]) (mcX12_takesFirst  ha2) cv_X12_282 rfl ly_77 ⟨rfl, rfl, by decide, by decide⟩ rfl (Nat.le_of_ble_eq_true rfl) ⟨Nat.zero_le _, Nat.zero_le _⟩ dX12_read_6 rfl rfl ?_
  refine ap_if_ne (tgt := 20) dX12_read_9 (by decide) (fun hc4 => ?_) (fun hc4 => ?_)
  · rw [if_neg hc4] at h
    refine ap_aload_n dX12_read_20 0 rfl rfl ?_
    obtain ⟨m5, hm5, h⟩ := Option.bind_eq_some_iff.mp h
    refine ap_callV (k := 77) (As := []) (st := []) (st1 := []) (mcX12_goBehind  hm5) cv_X12_265 rfl ly_77 ⟨rfl, rfl, by decide, by decide⟩ rfl (Nat.le_of_ble_eq_true rfl) ⟨Nat.zero_le _, Nat.zero_le _⟩ dX12_read_21 rfl rfl ?_
    refine ap_iconst (v := 1) dX12_read_24 (by decide) ?_
    refine ap_istore_n (i := 1) (lv' := [(1, .int (1 : Int32)), (0, .ref (K.1 77))]) dX12_read_25 rfl (by decide) rfl ?_
    refine ap_sub [1, 0] rfl ?_
    exact AX12_read_L26  N _ _ h
  · rw [if_pos hc4] at h
    refine ap_bipush (v := -10) dX12_read_12 (by decide) ?_
    refine ap_aload_n dX12_read_14 0 rfl rfl ?_
    refine ap_get (v := .int (m3.1 77 17)) fl_X12_243 ly_77 rfl rfl dX12_read_15 ?_
    refine ap_isub dX12_read_18 ?_
    obtain ⟨rfl, rfl⟩ := Prod.mk.inj (Option.some.inj h)
    exact ap_iret rfl dX12_read_19
theorem mcX12_read {l : Launch} {K : Kt} {N : Nat}  {w : Mm} {zx : Int32} {zw : Mm} (h : fX12_read N w = some (zx, zw)) : MC l K yX12_read cX12_read 3 (some .int) rmX12_read w [.ref (K.1 77)] (some (.int zx)) zw :=
  MC.of (by decide) (Nat.le_of_ble_eq_true rfl) rfl (AX12_read  h)
def fX12_part (w : Mm) (x1 : Int32) : (Int64 × Mm) :=
if x1 = (0 : Int32) then (
((w.2 77 4), w))
else (
if x1 = (1 : Int32) then (
((w.2 77 5), w))
else (
(((fX12_bad w (-2 : Int32)).1).toInt64, (fX12_bad w (-2 : Int32)).2)))
set_option maxRecDepth 100000 in
set_option maxHeartbeats 4000000 in
theorem AX12_part {l : Launch} {K : Kt}  {w : Mm} {x1 : Int32} {zx : Int64} {zw : Mm} (h : fX12_part w x1 = (zx, zw)) : AW l K cX12_part RX12 2 (some .long) rmX12_part 0 0 ap_E (ap_F K (some (.long zx)) zw) w 0 [(0, .ref (K.1 77)), (1, .int x1)] [] := by
  unfold fX12_part at h
  refine ap_iload_n dX12_part_0 1 rfl rfl ?_
  refine ap_if_ne (tgt := 11) dX12_part_1 (by decide) (fun hc1 => ?_) (fun hc1 => ?_)
  · rw [if_neg hc1] at h
    refine ap_iload_n dX12_part_11 1 rfl rfl ?_
    refine ap_iconst (v := 1) dX12_part_12 (by decide) ?_
    refine ap_icmp_ne (tgt := 23) dX12_part_13 (by decide) (fun hc2 => ?_) (fun hc2 => ?_)
    · rw [if_neg hc2] at h
      refine ap_aload_n dX12_part_23 0 rfl rfl ?_
      refine ap_bipush (v := -2) dX12_part_24 (by decide) ?_
      refine ap_callV (k := 77) (As := [.int (-2 : Int32)]) (st := []) (st1 := [.int ((fX12_bad w (-2 : Int32)).1)]) (mcX12_bad  (zx := (fX12_bad w (-2 : Int32)).1) (zw := (fX12_bad w (-2 : Int32)).2) rfl) cv_X12_75 rfl ly_77 ⟨rfl, rfl, by decide, by decide⟩ rfl (Nat.le_of_ble_eq_true rfl) ⟨Nat.zero_le _, Nat.zero_le _⟩ dX12_part_26 rfl rfl ?_
      refine ap_i2l (v := ((fX12_bad w (-2 : Int32)).1).toInt64) dX12_part_29 rfl ?_
      obtain ⟨rfl, rfl⟩ := Prod.mk.inj h
      exact ap_lret rfl dX12_part_30
    · rw [if_pos hc2] at h
      refine ap_aload_n dX12_part_16 0 rfl rfl ?_
      refine ap_get (v := .long (w.2 77 5)) fl_X12_23 ly_77 rfl rfl dX12_part_17 ?_
      refine ap_goto (tgt := 30) dX12_part_20 (by decide) ?_
      obtain ⟨rfl, rfl⟩ := Prod.mk.inj h
      exact ap_lret rfl dX12_part_30
  · rw [if_pos hc1] at h
    refine ap_aload_n dX12_part_4 0 rfl rfl ?_
    refine ap_get (v := .long (w.2 77 4)) fl_X12_207 ly_77 rfl rfl dX12_part_5 ?_
    refine ap_goto (tgt := 30) dX12_part_8 (by decide) ?_
    obtain ⟨rfl, rfl⟩ := Prod.mk.inj h
    exact ap_lret rfl dX12_part_30
theorem mcX12_part {l : Launch} {K : Kt}  {w : Mm} {x1 : Int32} {zx : Int64} {zw : Mm} (h : fX12_part w x1 = (zx, zw)) : MC l K yX12_part cX12_part 2 (some .long) rmX12_part w [.ref (K.1 77), .int x1] (some (.long zx)) zw :=
  MC.of (by decide) (Nat.le_of_ble_eq_true rfl) rfl (AX12_part  h)
def fX12_image_L19 (N : Nat) : Nat → Mm → Int32 → Int32 → Option (Int32 × Mm)
  | 0, _, _, _ => none
  | n0 + 1, w, x1, x2 => if (129 : Int32) ≤ x2 then (
Option.bind (wrA w 80 2 x1 (vp_nar .boolean (1 : Int32))) fun m5 =>
some ((1 : Int32), m5))
else (
Option.bind (rdA w 78 129 x2) fun a6 =>
Option.bind (wrA w 79 258 (((129 : Int32) * x1) + x2) a6) fun m7 =>
(fX12_image_L19 N n0) m7 x1 (x2 + 1))
set_option maxRecDepth 100000 in
set_option maxHeartbeats 4000000 in
theorem AX12_image_L19 {l : Launch} {K : Kt} {N : Nat}   : ∀ (n0 : Nat) (w : Mm) (x1 : Int32) (x2 : Int32) {zx : Int32} {zw : Mm}, fX12_image_L19 N n0 w x1 x2 = some (zx, zw) → AW l K cX12_image RX12 3 (some .int) rmX12_image 0 0 ap_E (ap_F K (some (.int zx)) zw) w 19 [(0, .ref (K.1 77)), (1, .int x1), (2, .int x2)] [] := by
  intro n0
  induction n0 with
  | zero =>
    intro w x1 x2 zx zw h
    cases h
  | succ n0 ih =>
    intro w x1 x2 zx zw h
    rw [fX12_image_L19] at h
    refine ap_iload_n dX12_image_19 2 rfl rfl ?_
    refine ap_sipush (v := 129) dX12_image_20 (by decide) ?_
    refine ap_icmp_ge (tgt := 50) dX12_image_23 (by decide) (fun hc4 => ?_) (fun hc4 => ?_)
    · rw [if_pos hc4] at h
      refine ap_aload_n dX12_image_50 0 rfl rfl ?_
      refine ap_get (v := .ref (K.1 80)) fl_X12_16 ly_77 rfl rfl dX12_image_51 ?_
      refine ap_iload_n dX12_image_54 1 rfl rfl ?_
      refine ap_iconst (v := 1) dX12_image_55 (by decide) ?_
      obtain ⟨m5, hm5, h⟩ := Option.bind_eq_some_iff.mp h
      refine ap_zast ly_80 hm5 dX12_image_56 ?_
      refine ap_iconst (v := 1) dX12_image_57 (by decide) ?_
      obtain ⟨rfl, rfl⟩ := Prod.mk.inj (Option.some.inj h)
      exact ap_iret rfl dX12_image_58
    · rw [if_neg hc4] at h
      refine ap_aload_n dX12_image_26 0 rfl rfl ?_
      refine ap_get (v := .ref (K.1 79)) fl_X12_13 ly_77 rfl rfl dX12_image_27 ?_
      refine ap_sipush (v := 129) dX12_image_30 (by decide) ?_
      refine ap_iload_n dX12_image_33 1 rfl rfl ?_
      refine ap_imul dX12_image_34 ?_
      refine ap_iload_n dX12_image_35 2 rfl rfl ?_
      refine ap_iadd dX12_image_36 ?_
      refine ap_aload_n dX12_image_37 0 rfl rfl ?_
      refine ap_get (v := .ref (K.1 78)) fl_X12_7 ly_77 rfl rfl dX12_image_38 ?_
      refine ap_iload_n dX12_image_41 2 rfl rfl ?_
      obtain ⟨a6, ha6, h⟩ := Option.bind_eq_some_iff.mp h
      refine ap_iald ly_78 ha6 dX12_image_42 ?_
      obtain ⟨m7, hm7, h⟩ := Option.bind_eq_some_iff.mp h
      refine ap_iast ly_79 hm7 dX12_image_43 ?_
      refine ap_iinc (v := x2 + 1) (lv' := [(2, .int (x2 + 1)), (0, .ref (K.1 77)), (1, .int x1)]) dX12_image_44 2 rfl rfl (by decide) rfl ?_
      refine ap_goto (tgt := 19) dX12_image_47 (by decide) ?_
      refine ap_sub [1, 2, 0] rfl ?_
      exact ih _ _ _ h
def fX12_image (N : Nat) (w : Mm) (x1 : Int32) : Option (Int32 × Mm) :=
if (fX12_in x1.toInt64 (0 : Int64) (1 : Int64)) = (0 : Int32) then (
ob2 (some (fX12_bad w (-2 : Int32))) fun a2 m3 =>
some (a2, m3))
else (
fX12_image_L19 N N w x1 (0 : Int32))
set_option maxRecDepth 100000 in
set_option maxHeartbeats 4000000 in
theorem AX12_image {l : Launch} {K : Kt} {N : Nat}  {w : Mm} {x1 : Int32} {zx : Int32} {zw : Mm} (h : fX12_image N w x1 = some (zx, zw)) : AW l K cX12_image RX12 3 (some .int) rmX12_image 0 0 ap_E (ap_F K (some (.int zx)) zw) w 0 [(0, .ref (K.1 77)), (1, .int x1)] [] := by
  unfold fX12_image at h
  refine ap_iload_n dX12_image_0 1 rfl rfl ?_
  refine ap_i2l (v := x1.toInt64) dX12_image_1 rfl ?_
  refine ap_lconst (v := 0) dX12_image_2 (by decide) ?_
  refine ap_lconst (v := 1) dX12_image_3 (by decide) ?_
  refine ap_callS (As := [.long x1.toInt64, .long (0 : Int64), .long (1 : Int64)]) (st := []) (st1 := [.int (fX12_in x1.toInt64 (0 : Int64) (1 : Int64))]) (mcX12_in  (w := w) (zx := fX12_in x1.toInt64 (0 : Int64) (1 : Int64)) rfl) cs_X12_61 ⟨rfl, rfl, by decide, by decide⟩ rfl (Nat.le_of_ble_eq_true rfl) ⟨Nat.zero_le _, Nat.zero_le _⟩ dX12_image_4 rfl rfl ?_
  refine ap_if_ne (tgt := 17) dX12_image_7 (by decide) (fun hc1 => ?_) (fun hc1 => ?_)
  · rw [if_neg hc1] at h
    refine ap_iconst (v := 0) dX12_image_17 (by decide) ?_
    refine ap_istore_n (i := 2) (lv' := [(2, .int (0 : Int32)), (0, .ref (K.1 77)), (1, .int x1)]) dX12_image_18 rfl (by decide) rfl ?_
    refine ap_sub [1, 2, 0] rfl ?_
    exact AX12_image_L19  N _ _ _ h
  · rw [if_pos hc1] at h
    refine ap_aload_n dX12_image_10 0 rfl rfl ?_
    refine ap_bipush (v := -2) dX12_image_11 (by decide) ?_
    obtain ⟨a2, m3, ha2, h⟩ := ob2_iff h
    refine ap_callV (k := 77) (As := [.int (-2 : Int32)]) (st := []) (st1 := [.int a2]) (mcX12_bad  (Option.some.inj ha2)) cv_X12_75 rfl ly_77 ⟨rfl, rfl, by decide, by decide⟩ rfl (Nat.le_of_ble_eq_true rfl) ⟨Nat.zero_le _, Nat.zero_le _⟩ dX12_image_13 rfl rfl ?_
    obtain ⟨rfl, rfl⟩ := Prod.mk.inj (Option.some.inj h)
    exact ap_iret rfl dX12_image_16
theorem mcX12_image {l : Launch} {K : Kt} {N : Nat}  {w : Mm} {x1 : Int32} {zx : Int32} {zw : Mm} (h : fX12_image N w x1 = some (zx, zw)) : MC l K yX12_image cX12_image 3 (some .int) rmX12_image w [.ref (K.1 77), .int x1] (some (.int zx)) zw :=
  MC.of (by decide) (Nat.le_of_ble_eq_true rfl) rfl (AX12_image  h)
def fX12_from_L33 (N : Nat) : Nat → Mm → Int32 → Int32 → Option (Int32 × Mm)
  | 0, _, _, _ => none
  | n0 + 1, w, x1, x2 => if (129 : Int32) ≤ x2 then (
some ((1 : Int32), w))
else (
Option.bind (rdA w 79 258 (((129 : Int32) * x1) + x2)) fun a9 =>
Option.bind (wrA w 78 129 x2 a9) fun m10 =>
(fX12_from_L33 N n0) m10 x1 (x2 + 1))
set_option maxRecDepth 100000 in
set_option maxHeartbeats 4000000 in
theorem AX12_from_L33 {l : Launch} {K : Kt} {N : Nat}   : ∀ (n0 : Nat) (w : Mm) (x1 : Int32) (x2 : Int32) {zx : Int32} {zw : Mm}, fX12_from_L33 N n0 w x1 x2 = some (zx, zw) → AW l K cX12_from RX12 3 (some .int) rmX12_from 0 0 ap_E (ap_F K (some (.int zx)) zw) w 33 [(0, .ref (K.1 77)), (1, .int x1), (2, .int x2)] [] := by
  intro n0
  induction n0 with
  | zero =>
    intro w x1 x2 zx zw h
    cases h
  | succ n0 ih =>
    intro w x1 x2 zx zw h
    rw [fX12_from_L33] at h
    refine ap_iload_n dX12_from_33 2 rfl rfl ?_
    refine ap_sipush (v := 129) dX12_from_34 (by decide) ?_
    refine ap_icmp_ge (tgt := 64) dX12_from_37 (by decide) (fun hc8 => ?_) (fun hc8 => ?_)
    · rw [if_pos hc8] at h
      refine ap_iconst (v := 1) dX12_from_64 (by decide) ?_
      obtain ⟨rfl, rfl⟩ := Prod.mk.inj (Option.some.inj h)
      exact ap_iret rfl dX12_from_65
    · rw [if_neg hc8] at h
      refine ap_aload_n dX12_from_40 0 rfl rfl ?_
      refine ap_get (v := .ref (K.1 78)) fl_X12_7 ly_77 rfl rfl dX12_from_41 ?_
      refine ap_iload_n dX12_from_44 2 rfl rfl ?_
      refine ap_aload_n dX12_from_45 0 rfl rfl ?_
      refine ap_get (v := .ref (K.1 79)) fl_X12_13 ly_77 rfl rfl dX12_from_46 ?_
      refine ap_sipush (v := 129) dX12_from_49 (by decide) ?_
      refine ap_iload_n dX12_from_52 1 rfl rfl ?_
      refine ap_imul dX12_from_53 ?_
      refine ap_iload_n dX12_from_54 2 rfl rfl ?_
      refine ap_iadd dX12_from_55 ?_
      obtain ⟨a9, ha9, h⟩ := Option.bind_eq_some_iff.mp h
      refine ap_iald ly_79 ha9 dX12_from_56 ?_
      obtain ⟨m10, hm10, h⟩ := Option.bind_eq_some_iff.mp h
      refine ap_iast ly_78 hm10 dX12_from_57 ?_
      refine ap_iinc (v := x2 + 1) (lv' := [(2, .int (x2 + 1)), (0, .ref (K.1 77)), (1, .int x1)]) dX12_from_58 2 rfl rfl (by decide) rfl ?_
      refine ap_goto (tgt := 33) dX12_from_61 (by decide) ?_
      refine ap_sub [1, 2, 0] rfl ?_
      exact ih _ _ _ h
def fX12_from (N : Nat) (w : Mm) (x1 : Int32) : Option (Int32 × Mm) :=
if (fX12_in x1.toInt64 (0 : Int64) (1 : Int64)) = (0 : Int32) then (
ob2 (some (fX12_bad w (-2 : Int32))) fun a6 m7 =>
some (a6, m7))
else (
Option.bind (rdA w 80 2 x1) fun a2 =>
if a2 = (0 : Int32) then (
ob2 (some (fX12_no w)) fun a4 m5 =>
some (a4, m5))
else (
fX12_from_L33 N N w x1 (0 : Int32)))
set_option maxRecDepth 100000 in
set_option maxHeartbeats 4000000 in
theorem AX12_from {l : Launch} {K : Kt} {N : Nat}  {w : Mm} {x1 : Int32} {zx : Int32} {zw : Mm} (h : fX12_from N w x1 = some (zx, zw)) : AW l K cX12_from RX12 3 (some .int) rmX12_from 0 0 ap_E (ap_F K (some (.int zx)) zw) w 0 [(0, .ref (K.1 77)), (1, .int x1)] [] := by
  unfold fX12_from at h
  refine ap_iload_n dX12_from_0 1 rfl rfl ?_
  refine ap_i2l (v := x1.toInt64) dX12_from_1 rfl ?_
  refine ap_lconst (v := 0) dX12_from_2 (by decide) ?_
  refine ap_lconst (v := 1) dX12_from_3 (by decide) ?_
  refine ap_callS (As := [.long x1.toInt64, .long (0 : Int64), .long (1 : Int64)]) (st := []) (st1 := [.int (fX12_in x1.toInt64 (0 : Int64) (1 : Int64))]) (mcX12_in  (w := w) (zx := fX12_in x1.toInt64 (0 : Int64) (1 : Int64)) rfl) cs_X12_61 ⟨rfl, rfl, by decide, by decide⟩ rfl (Nat.le_of_ble_eq_true rfl) ⟨Nat.zero_le _, Nat.zero_le _⟩ dX12_from_4 rfl rfl ?_
  refine ap_if_ne (tgt := 17) dX12_from_7 (by decide) (fun hc1 => ?_) (fun hc1 => ?_)
  · rw [if_neg hc1] at h
    refine ap_aload_n dX12_from_17 0 rfl rfl ?_
    refine ap_get (v := .ref (K.1 80)) fl_X12_16 ly_77 rfl rfl dX12_from_18 ?_
    refine ap_iload_n dX12_from_21 1 rfl rfl ?_
    obtain ⟨a2, ha2, h⟩ := Option.bind_eq_some_iff.mp h
    refine ap_zald ly_80 ha2 dX12_from_22 ?_
    refine ap_if_ne (tgt := 31) dX12_from_23 (by decide) (fun hc3 => ?_) (fun hc3 => ?_)
    · rw [if_neg hc3] at h
      refine ap_iconst (v := 0) dX12_from_31 (by decide) ?_
      refine ap_istore_n (i := 2) (lv' := [(2, .int (0 : Int32)), (0, .ref (K.1 77)), (1, .int x1)]) dX12_from_32 rfl (by decide) rfl ?_
      refine ap_sub [1, 2, 0] rfl ?_
      exact AX12_from_L33  N _ _ _ h
    · rw [if_pos hc3] at h
      refine ap_aload_n dX12_from_26 0 rfl rfl ?_
      obtain ⟨a4, m5, ha4, h⟩ := ob2_iff h
      refine ap_callV (k := 77) (As := []) (st := []) (st1 := [.int a4]) (mcX12_no  (Option.some.inj ha4)) cv_X12_114 rfl ly_77 ⟨rfl, rfl, by decide, by decide⟩ rfl (Nat.le_of_ble_eq_true rfl) ⟨Nat.zero_le _, Nat.zero_le _⟩ dX12_from_27 rfl rfl ?_
      obtain ⟨rfl, rfl⟩ := Prod.mk.inj (Option.some.inj h)
      exact ap_iret rfl dX12_from_30
  · rw [if_pos hc1] at h
    refine ap_aload_n dX12_from_10 0 rfl rfl ?_
    refine ap_bipush (v := -2) dX12_from_11 (by decide) ?_
    obtain ⟨a6, m7, ha6, h⟩ := ob2_iff h
    refine ap_callV (k := 77) (As := [.int (-2 : Int32)]) (st := []) (st1 := [.int a6]) (mcX12_bad  (Option.some.inj ha6)) cv_X12_75 rfl ly_77 ⟨rfl, rfl, by decide, by decide⟩ rfl (Nat.le_of_ble_eq_true rfl) ⟨Nat.zero_le _, Nat.zero_le _⟩ dX12_from_13 rfl rfl ?_
    obtain ⟨rfl, rfl⟩ := Prod.mk.inj (Option.some.inj h)
    exact ap_iret rfl dX12_from_16
theorem mcX12_from {l : Launch} {K : Kt} {N : Nat}  {w : Mm} {x1 : Int32} {zx : Int32} {zw : Mm} (h : fX12_from N w x1 = some (zx, zw)) : MC l K yX12_from cX12_from 3 (some .int) rmX12_from w [.ref (K.1 77), .int x1] (some (.int zx)) zw :=
  MC.of (by decide) (Nat.le_of_ble_eq_true rfl) rfl (AX12_from  h)
def fX12_status (w : Mm) (x1 : Int32) : Option (Int32 × Mm) :=
if (fX12_in x1.toInt64 (0 : Int64) (2 : Int64)) = (0 : Int32) then (
ob2 (some (fX12_bad w (-1 : Int32))) fun a2 m3 =>
some (a2, m3))
else (
Option.bind (rdA w 81 3 x1) fun a4 =>
some (a4, w))
set_option maxRecDepth 100000 in
set_option maxHeartbeats 4000000 in
theorem AX12_status {l : Launch} {K : Kt}  {w : Mm} {x1 : Int32} {zx : Int32} {zw : Mm} (h : fX12_status w x1 = some (zx, zw)) : AW l K cX12_status RX12 2 (some .int) rmX12_status 0 0 ap_E (ap_F K (some (.int zx)) zw) w 0 [(0, .ref (K.1 77)), (1, .int x1)] [] := by
  unfold fX12_status at h
  refine ap_iload_n dX12_status_0 1 rfl rfl ?_
  refine ap_i2l (v := x1.toInt64) dX12_status_1 rfl ?_
  refine ap_lconst (v := 0) dX12_status_2 (by decide) ?_
  refine ap_ldc2 (v := 2) wd_1097 dX12_status_3 ?_
  refine ap_callS (As := [.long x1.toInt64, .long (0 : Int64), .long (2 : Int64)]) (st := []) (st1 := [.int (fX12_in x1.toInt64 (0 : Int64) (2 : Int64))]) (mcX12_in  (w := w) (zx := fX12_in x1.toInt64 (0 : Int64) (2 : Int64)) rfl) cs_X12_61 ⟨rfl, rfl, by decide, by decide⟩ rfl (Nat.le_of_ble_eq_true rfl) ⟨Nat.zero_le _, Nat.zero_le _⟩ dX12_status_6 rfl rfl ?_
  refine ap_if_eq (tgt := 21) dX12_status_9 (by decide) (fun hc1 => ?_) (fun hc1 => ?_)
  · rw [if_pos hc1] at h
    refine ap_aload_n dX12_status_21 0 rfl rfl ?_
    refine ap_iconst (v := -1) dX12_status_22 (by decide) ?_
    obtain ⟨a2, m3, ha2, h⟩ := ob2_iff h
    refine ap_callV (k := 77) (As := [.int (-1 : Int32)]) (st := []) (st1 := [.int a2]) (mcX12_bad  (Option.some.inj ha2)) cv_X12_75 rfl ly_77 ⟨rfl, rfl, by decide, by decide⟩ rfl (Nat.le_of_ble_eq_true rfl) ⟨Nat.zero_le _, Nat.zero_le _⟩ dX12_status_23 rfl rfl ?_
    obtain ⟨rfl, rfl⟩ := Prod.mk.inj (Option.some.inj h)
    exact ap_iret rfl dX12_status_26
  · rw [if_neg hc1] at h
    refine ap_aload_n dX12_status_12 0 rfl rfl ?_
    refine ap_get (v := .ref (K.1 81)) fl_X12_20 ly_77 rfl rfl dX12_status_13 ?_
    refine ap_iload_n dX12_status_16 1 rfl rfl ?_
    obtain ⟨a4, ha4, h⟩ := Option.bind_eq_some_iff.mp h
    refine ap_iald ly_81 ha4 dX12_status_17 ?_
    refine ap_goto (tgt := 26) dX12_status_18 (by decide) ?_
    obtain ⟨rfl, rfl⟩ := Prod.mk.inj (Option.some.inj h)
    exact ap_iret rfl dX12_status_26
theorem mcX12_status {l : Launch} {K : Kt}  {w : Mm} {x1 : Int32} {zx : Int32} {zw : Mm} (h : fX12_status w x1 = some (zx, zw)) : MC l K yX12_status cX12_status 2 (some .int) rmX12_status w [.ref (K.1 77), .int x1] (some (.int zx)) zw :=
  MC.of (by decide) (Nat.le_of_ble_eq_true rfl) rfl (AX12_status  h)
def fX12_counted (w : Mm) (x1 : Int32) : Option Int32 :=
if (6 : Int32) ≤ x1 then (
some (w.1 77 16))
else (
Option.bind (rdA w 78 129 x1) fun a2 =>
some a2)
set_option maxRecDepth 100000 in
set_option maxHeartbeats 4000000 in
theorem AX12_counted {l : Launch} {K : Kt} {w : Mm}  {x1 : Int32} {zx : Int32} (h : fX12_counted w x1 = some zx) : AW l K cX12_counted RX12 2 (some .int) rmX12_counted 0 0 ap_E (ap_F K (some (.int zx)) w) w 0 [(0, .ref (K.1 77)), (1, .int x1)] [] := by
  unfold fX12_counted at h
  refine ap_iload_n dX12_counted_0 1 rfl rfl ?_
  refine ap_bipush (v := 6) dX12_counted_1 (by decide) ?_
  refine ap_icmp_ge (tgt := 15) dX12_counted_3 (by decide) (fun hc1 => ?_) (fun hc1 => ?_)
  · rw [if_pos hc1] at h
    refine ap_aload_n dX12_counted_15 0 rfl rfl ?_
    refine ap_get (v := .int (w.1 77 16)) fl_X12_232 ly_77 rfl rfl dX12_counted_16 ?_
    obtain rfl := Option.some.inj h
    exact ap_iret rfl dX12_counted_19
  · rw [if_neg hc1] at h
    refine ap_aload_n dX12_counted_6 0 rfl rfl ?_
    refine ap_get (v := .ref (K.1 78)) fl_X12_7 ly_77 rfl rfl dX12_counted_7 ?_
    refine ap_iload_n dX12_counted_10 1 rfl rfl ?_
    obtain ⟨a2, ha2, h⟩ := Option.bind_eq_some_iff.mp h
    refine ap_iald ly_78 ha2 dX12_counted_11 ?_
    refine ap_goto (tgt := 19) dX12_counted_12 (by decide) ?_
    obtain rfl := Option.some.inj h
    exact ap_iret rfl dX12_counted_19
theorem mcX12_counted {l : Launch} {K : Kt} {w : Mm}  {x1 : Int32} {zx : Int32} (h : fX12_counted w x1 = some zx) : MC l K yX12_counted cX12_counted 2 (some .int) rmX12_counted w [.ref (K.1 77), .int x1] (some (.int zx)) w :=
  MC.of (by decide) (Nat.le_of_ble_eq_true rfl) rfl (AX12_counted  h)
def fX12_count (w : Mm) (x1 : Int32) : Option (Int32 × Mm) :=
if (fX12_in x1.toInt64 (0 : Int64) (6 : Int64)) = (0 : Int32) then (
ob2 (some (fX12_bad w (-2 : Int32))) fun a2 m3 =>
some (a2, m3))
else (
Option.bind (fX12_counted w x1) fun a4 =>
some (a4, w))
set_option maxRecDepth 100000 in
set_option maxHeartbeats 4000000 in
theorem AX12_count {l : Launch} {K : Kt}  {w : Mm} {x1 : Int32} {zx : Int32} {zw : Mm} (h : fX12_count w x1 = some (zx, zw)) : AW l K cX12_count RX12 2 (some .int) rmX12_count 0 0 ap_E (ap_F K (some (.int zx)) zw) w 0 [(0, .ref (K.1 77)), (1, .int x1)] [] := by
  unfold fX12_count at h
  refine ap_iload_n dX12_count_0 1 rfl rfl ?_
  refine ap_i2l (v := x1.toInt64) dX12_count_1 rfl ?_
  refine ap_lconst (v := 0) dX12_count_2 (by decide) ?_
  refine ap_ldc2 (v := 6) wd_1058 dX12_count_3 ?_
  refine ap_callS (As := [.long x1.toInt64, .long (0 : Int64), .long (6 : Int64)]) (st := []) (st1 := [.int (fX12_in x1.toInt64 (0 : Int64) (6 : Int64))]) (mcX12_in  (w := w) (zx := fX12_in x1.toInt64 (0 : Int64) (6 : Int64)) rfl) cs_X12_61 ⟨rfl, rfl, by decide, by decide⟩ rfl (Nat.le_of_ble_eq_true rfl) ⟨Nat.zero_le _, Nat.zero_le _⟩ dX12_count_6 rfl rfl ?_
  refine ap_if_eq (tgt := 20) dX12_count_9 (by decide) (fun hc1 => ?_) (fun hc1 => ?_)
  · rw [if_pos hc1] at h
    refine ap_aload_n dX12_count_20 0 rfl rfl ?_
    refine ap_bipush (v := -2) dX12_count_21 (by decide) ?_
    obtain ⟨a2, m3, ha2, h⟩ := ob2_iff h
    refine ap_callV (k := 77) (As := [.int (-2 : Int32)]) (st := []) (st1 := [.int a2]) (mcX12_bad  (Option.some.inj ha2)) cv_X12_75 rfl ly_77 ⟨rfl, rfl, by decide, by decide⟩ rfl (Nat.le_of_ble_eq_true rfl) ⟨Nat.zero_le _, Nat.zero_le _⟩ dX12_count_23 rfl rfl ?_
    obtain ⟨rfl, rfl⟩ := Prod.mk.inj (Option.some.inj h)
    exact ap_iret rfl dX12_count_26
  · rw [if_neg hc1] at h
    refine ap_aload_n dX12_count_12 0 rfl rfl ?_
    refine ap_iload_n dX12_count_13 1 rfl rfl ?_
    obtain ⟨a4, ha4, h⟩ := Option.bind_eq_some_iff.mp h
    refine ap_callV (k := 77) (As := [.int x1]) (st := []) (st1 := [.int a4]) (mcX12_counted  (w := w) ha4) cv_X12_288 rfl ly_77 ⟨rfl, rfl, by decide, by decide⟩ rfl (Nat.le_of_ble_eq_true rfl) ⟨Nat.zero_le _, Nat.zero_le _⟩ dX12_count_14 rfl rfl ?_
    refine ap_goto (tgt := 26) dX12_count_17 (by decide) ?_
    obtain ⟨rfl, rfl⟩ := Prod.mk.inj (Option.some.inj h)
    exact ap_iret rfl dX12_count_26
theorem mcX12_count {l : Launch} {K : Kt}  {w : Mm} {x1 : Int32} {zx : Int32} {zw : Mm} (h : fX12_count w x1 = some (zx, zw)) : MC l K yX12_count cX12_count 2 (some .int) rmX12_count w [.ref (K.1 77), .int x1] (some (.int zx)) zw :=
  MC.of (by decide) (Nat.le_of_ble_eq_true rfl) rfl (AX12_count  h)
def fX12_sums_L6 (N : Nat) (w : Mm) : Nat → Int32 → Int32 → Int64 → Int32 → Option Int64
  | 0, _, _, _, _ => none
  | n0 + 1, x3, x4, x5, x7 => if x4 ≤ x7 then (
some x5)
else (
Option.bind (rdA w 78 129 (x3 + x7)) fun a2 =>
(fX12_sums_L6 N w n0) x3 x4 (((31 : Int64) * x5) + a2.toInt64) (x7 + 1))
set_option maxRecDepth 100000 in
set_option maxHeartbeats 4000000 in
theorem AX12_sums_L6 {l : Launch} {K : Kt} {N : Nat} {w : Mm}   : ∀ (n0 : Nat) (x3 : Int32) (x4 : Int32) (x5 : Int64) (x7 : Int32) {zx : Int64}, fX12_sums_L6 N w n0 x3 x4 x5 x7 = some zx → AW l K cX12_sums RX12 8 (some .long) rmX12_sums 0 0 ap_E (ap_F K (some (.long zx)) w) w 6 [(0, .ref (K.1 77)), (3, .int x3), (4, .int x4), (5, .long x5), (7, .int x7)] [] := by
  intro n0
  induction n0 with
  | zero =>
    intro x3 x4 x5 x7 zx h
    cases h
  | succ n0 ih =>
    intro x3 x4 x5 x7 zx h
    rw [fX12_sums_L6] at h
    refine ap_iload dX12_sums_6 4 rfl ?_
    refine ap_iload dX12_sums_8 2 rfl ?_
    refine ap_icmp_ge (tgt := 38) dX12_sums_10 (by decide) (fun hc1 => ?_) (fun hc1 => ?_)
    · rw [if_pos hc1] at h
      refine ap_lload dX12_sums_38 3 rfl ?_
      obtain rfl := Option.some.inj h
      exact ap_lret rfl dX12_sums_40
    · rw [if_neg hc1] at h
      refine ap_ldc2 (v := 31) wd_1320 dX12_sums_13 ?_
      refine ap_lload dX12_sums_16 3 rfl ?_
      refine ap_lmul dX12_sums_18 ?_
      refine ap_aload_n dX12_sums_19 0 rfl rfl ?_
      refine ap_get (v := .ref (K.1 78)) fl_X12_7 ly_77 rfl rfl dX12_sums_20 ?_
      refine ap_iload_n dX12_sums_23 1 rfl rfl ?_
      refine ap_iload dX12_sums_24 4 rfl ?_
      refine ap_iadd dX12_sums_26 ?_
      obtain ⟨a2, ha2, h⟩ := Option.bind_eq_some_iff.mp h
      refine ap_iald ly_78 ha2 dX12_sums_27 ?_
      refine ap_i2l (v := a2.toInt64) dX12_sums_28 rfl ?_
      refine ap_ladd dX12_sums_29 ?_
      refine ap_lstore (i := 5) (lv' := [(5, .long (((31 : Int64) * x5) + a2.toInt64)), (0, .ref (K.1 77)), (3, .int x3), (4, .int x4), (7, .int x7)]) dX12_sums_30 (by decide) rfl ?_
      refine ap_iinc (v := x7 + 1) (lv' := [(7, .int (x7 + 1)), (5, .long (((31 : Int64) * x5) + a2.toInt64)), (0, .ref (K.1 77)), (3, .int x3), (4, .int x4)]) dX12_sums_32 4 rfl rfl (by decide) rfl ?_
      refine ap_goto (tgt := 6) dX12_sums_35 (by decide) ?_
      refine ap_sub [2, 3, 4, 1, 0] rfl ?_
      exact ih _ _ _ _ h
def fX12_sums (N : Nat) (w : Mm) (x1 : Int64) (x3 : Int32) (x4 : Int32) : Option Int64 :=
fX12_sums_L6 N w N x3 x4 x1 (0 : Int32)
set_option maxRecDepth 100000 in
set_option maxHeartbeats 4000000 in
theorem AX12_sums {l : Launch} {K : Kt} {N : Nat} {w : Mm}  {x1 : Int64} {x3 : Int32} {x4 : Int32} {zx : Int64} (h : fX12_sums N w x1 x3 x4 = some zx) : AW l K cX12_sums RX12 8 (some .long) rmX12_sums 0 0 ap_E (ap_F K (some (.long zx)) w) w 0 [(0, .ref (K.1 77)), (1, .long x1), (3, .int x3), (4, .int x4)] [] := by
  unfold fX12_sums at h
  refine ap_lload_n dX12_sums_0 1 rfl rfl ?_
  refine ap_lstore (i := 5) (lv' := [(5, .long x1), (0, .ref (K.1 77)), (1, .long x1), (3, .int x3), (4, .int x4)]) dX12_sums_1 (by decide) rfl ?_
  refine ap_iconst (v := 0) dX12_sums_3 (by decide) ?_
  refine ap_istore (i := 7) (lv' := [(7, .int (0 : Int32)), (5, .long x1), (0, .ref (K.1 77)), (1, .long x1), (3, .int x3), (4, .int x4)]) dX12_sums_4 (by decide) rfl ?_
  refine ap_sub [2, 4, 5, 1, 0] rfl ?_
  exact AX12_sums_L6  N _ _ _ _ h
theorem mcX12_sums {l : Launch} {K : Kt} {N : Nat} {w : Mm}  {x1 : Int64} {x3 : Int32} {x4 : Int32} {zx : Int64} (h : fX12_sums N w x1 x3 x4 = some zx) : MC l K yX12_sums cX12_sums 8 (some .long) rmX12_sums w [.ref (K.1 77), .long x1, .int x3, .int x4] (some (.long zx)) w :=
  MC.of (by decide) (Nat.le_of_ble_eq_true rfl) rfl (AX12_sums  h)
def fX12_digest_L6 (N : Nat) (w : Mm) : Nat → Int64 → Int32 → Option Int64
  | 0, _, _ => none
  | n0 + 1, x1, x3 => if (7 : Int32) ≤ x3 then (
Option.bind (fX12_sums N w x1 (6 : Int32) ((5 : Int32) * (fX12_candles w))) fun a2 =>
Option.bind (fX12_sums N w a2 (41 : Int32) (w.1 78 3)) fun a3 =>
Option.bind (fX12_sums N w a3 (47 : Int32) ((3 : Int32) * (w.1 78 4))) fun a4 =>
some (((31 : Int64) * (((31 : Int64) * a4) + (w.2 77 4))) + (w.2 77 5)))
else (
Option.bind (fX12_counted w x3) fun a5 =>
(fX12_digest_L6 N w n0) (((31 : Int64) * x1) + a5.toInt64) (x3 + 1))
set_option maxRecDepth 100000 in
set_option maxHeartbeats 4000000 in
theorem AX12_digest_L6 {l : Launch} {K : Kt} {N : Nat} {w : Mm}   : ∀ (n0 : Nat) (x1 : Int64) (x3 : Int32) {zx : Int64}, fX12_digest_L6 N w n0 x1 x3 = some zx → AW l K cX12_digest RX12 4 (some .long) rmX12_digest 0 0 ap_E (ap_F K (some (.long zx)) w) w 6 [(0, .ref (K.1 77)), (1, .long x1), (3, .int x3)] [] := by
  intro n0
  induction n0 with
  | zero =>
    intro x1 x3 zx h
    cases h
  | succ n0 ih =>
    intro x1 x3 zx h
    rw [fX12_digest_L6] at h
    refine ap_iload_n dX12_digest_6 2 rfl rfl ?_
    refine ap_bipush (v := 7) dX12_digest_7 (by decide) ?_
    refine ap_icmp_ge (tgt := 31) dX12_digest_9 (by decide) (fun hc1 => ?_) (fun hc1 => ?_)
    · rw [if_pos hc1] at h
      refine ap_aload_n dX12_digest_31 0 rfl rfl ?_
      refine ap_lload_n dX12_digest_32 1 rfl rfl ?_
      refine ap_bipush (v := 6) dX12_digest_33 (by decide) ?_
      refine ap_iconst (v := 5) dX12_digest_35 (by decide) ?_
      refine ap_aload_n dX12_digest_36 0 rfl rfl ?_
      refine ap_callV (k := 77) (As := []) (st := [.int (5 : Int32), .int (6 : Int32), .long x1, .ref (K.1 77)]) (st1 := [.int (fX12_candles w), .int (5 : Int32), .int (6 : Int32), .long x1, .ref (K.1 77)]) (mcX12_candles  (w := w) (zx := fX12_candles w) rfl) cv_X12_57 rfl ly_77 ⟨rfl, rfl, by decide, by decide⟩ rfl (Nat.le_of_ble_eq_true rfl) ⟨Nat.zero_le _, Nat.zero_le _⟩ dX12_digest_37 rfl rfl ?_
      refine ap_imul dX12_digest_40 ?_
      obtain ⟨a2, ha2, h⟩ := Option.bind_eq_some_iff.mp h
      refine ap_callV (k := 77) (As := [.long x1, .int (6 : Int32), .int ((5 : Int32) * (fX12_candles w))]) (st := []) (st1 := [.long a2]) (mcX12_sums  (w := w) ha2) cv_X12_295 rfl ly_77 ⟨rfl, rfl, by decide, by decide⟩ rfl (Nat.le_of_ble_eq_true rfl) ⟨Nat.zero_le _, Nat.zero_le _⟩ dX12_digest_41 rfl rfl ?_
      refine ap_lstore_n (i := 1) (lv' := [(1, .long a2), (0, .ref (K.1 77)), (3, .int x3)]) dX12_digest_44 rfl (by decide) rfl ?_
      refine ap_aload_n dX12_digest_45 1 rfl rfl ?_
      refine ap_lload_n dX12_digest_46 0 rfl rfl ?_
      refine ap_bipush (v := 41) dX12_digest_47 (by decide) ?_
      refine ap_aload_n dX12_digest_49 1 rfl rfl ?_
      refine ap_get (v := .ref (K.1 78)) fl_X12_7 ly_77 rfl rfl dX12_digest_50 ?_
      refine ap_iconst (v := 3) dX12_digest_53 (by decide) ?_
      refine ap_iald (x := (w.1 78 3)) ly_78 (rdA_c (by decide) (by decide)) dX12_digest_54 ?_
      obtain ⟨a3, ha3, h⟩ := Option.bind_eq_some_iff.mp h
      refine ap_callV (k := 77) (As := [.long a2, .int (41 : Int32), .int (w.1 78 3)]) (st := []) (st1 := [.long a3]) (mcX12_sums  (w := w) ha3) cv_X12_295 rfl ly_77 ⟨rfl, rfl, by decide, by decide⟩ rfl (Nat.le_of_ble_eq_true rfl) ⟨Nat.zero_le _, Nat.zero_le _⟩ dX12_digest_55 rfl rfl ?_
      refine ap_lstore_n (i := 1) (lv' := [(1, .long a3), (0, .ref (K.1 77)), (3, .int x3)]) dX12_digest_58 rfl (by decide) rfl ?_
      refine ap_aload_n dX12_digest_59 1 rfl rfl ?_
      refine ap_lload_n dX12_digest_60 0 rfl rfl ?_
      refine ap_bipush (v := 47) dX12_digest_61 (by decide) ?_
      refine ap_iconst (v := 3) dX12_digest_63 (by decide) ?_
      refine ap_aload_n dX12_digest_64 1 rfl rfl ?_
      refine ap_get (v := .ref (K.1 78)) fl_X12_7 ly_77 rfl rfl dX12_digest_65 ?_
      refine ap_iconst (v := 4) dX12_digest_68 (by decide) ?_
      refine ap_iald (x := (w.1 78 4)) ly_78 (rdA_c (by decide) (by decide)) dX12_digest_69 ?_
      refine ap_imul dX12_digest_70 ?_
      obtain ⟨a4, ha4, h⟩ := Option.bind_eq_some_iff.mp h
      refine ap_callV (k := 77) (As := [.long a3, .int (47 : Int32), .int ((3 : Int32) * (w.1 78 4))]) (st := []) (st1 := [.long a4]) (mcX12_sums  (w := w) ha4) cv_X12_295 rfl ly_77 ⟨rfl, rfl, by decide, by decide⟩ rfl (Nat.le_of_ble_eq_true rfl) ⟨Nat.zero_le _, Nat.zero_le _⟩ dX12_digest_71 rfl rfl ?_
      refine ap_lstore_n (i := 1) (lv' := [(1, .long a4), (0, .ref (K.1 77)), (3, .int x3)]) dX12_digest_74 rfl (by decide) rfl ?_
      refine ap_ldc2 (v := 31) wd_1320 dX12_digest_75 ?_
      refine ap_ldc2 (v := 31) wd_1320 dX12_digest_78 ?_
      refine ap_lload_n dX12_digest_81 0 rfl rfl ?_
      refine ap_lmul dX12_digest_82 ?_
      refine ap_aload_n dX12_digest_83 1 rfl rfl ?_
      refine ap_get (v := .long (w.2 77 4)) fl_X12_207 ly_77 rfl rfl dX12_digest_84 ?_
      refine ap_ladd dX12_digest_87 ?_
      refine ap_lmul dX12_digest_88 ?_
      refine ap_aload_n dX12_digest_89 1 rfl rfl ?_
      refine ap_get (v := .long (w.2 77 5)) fl_X12_23 ly_77 rfl rfl dX12_digest_90 ?_
      refine ap_ladd dX12_digest_93 ?_
      obtain rfl := Option.some.inj h
      exact ap_lret rfl dX12_digest_94
    · rw [if_neg hc1] at h
      refine ap_ldc2 (v := 31) wd_1320 dX12_digest_12 ?_
      refine ap_lload_n dX12_digest_15 1 rfl rfl ?_
      refine ap_lmul dX12_digest_16 ?_
      refine ap_aload_n dX12_digest_17 0 rfl rfl ?_
      refine ap_iload_n dX12_digest_18 2 rfl rfl ?_
      obtain ⟨a5, ha5, h⟩ := Option.bind_eq_some_iff.mp h
      refine ap_callV (k := 77) (As := [.int x3]) (st := [.long ((31 : Int64) * x1)]) (st1 := [.int a5, .long ((31 : Int64) * x1)]) (mcX12_counted  (w := w) ha5) cv_X12_288 rfl ly_77 ⟨rfl, rfl, by decide, by decide⟩ rfl (Nat.le_of_ble_eq_true rfl) ⟨Nat.zero_le _, Nat.zero_le _⟩ dX12_digest_19 rfl rfl ?_
      refine ap_i2l (v := a5.toInt64) dX12_digest_22 rfl ?_
      refine ap_ladd dX12_digest_23 ?_
      refine ap_lstore_n (i := 1) (lv' := [(1, .long (((31 : Int64) * x1) + a5.toInt64)), (0, .ref (K.1 77)), (3, .int x3)]) dX12_digest_24 rfl (by decide) rfl ?_
      refine ap_iinc (v := x3 + 1) (lv' := [(3, .int (x3 + 1)), (1, .long (((31 : Int64) * x1) + a5.toInt64)), (0, .ref (K.1 77))]) dX12_digest_25 2 rfl rfl (by decide) rfl ?_
      refine ap_goto (tgt := 6) dX12_digest_28 (by decide) ?_
      refine ap_sub [2, 1, 0] rfl ?_
      exact ih _ _ h
def fX12_digest (N : Nat) (w : Mm) : Option Int64 :=
fX12_digest_L6 N w N (991 : Int64) (0 : Int32)
set_option maxRecDepth 100000 in
set_option maxHeartbeats 4000000 in
theorem AX12_digest {l : Launch} {K : Kt} {N : Nat} {w : Mm}  {zx : Int64} (h : fX12_digest N w = some zx) : AW l K cX12_digest RX12 4 (some .long) rmX12_digest 0 0 ap_E (ap_F K (some (.long zx)) w) w 0 [(0, .ref (K.1 77))] [] := by
  unfold fX12_digest at h
  refine ap_ldc2 (v := 991) wd_1319 dX12_digest_0 ?_
  refine ap_lstore_n (i := 1) (lv' := [(1, .long (991 : Int64)), (0, .ref (K.1 77))]) dX12_digest_3 rfl (by decide) rfl ?_
  refine ap_iconst (v := 0) dX12_digest_4 (by decide) ?_
  refine ap_istore_n (i := 3) (lv' := [(3, .int (0 : Int32)), (1, .long (991 : Int64)), (0, .ref (K.1 77))]) dX12_digest_5 rfl (by decide) rfl ?_
  refine ap_sub [2, 1, 0] rfl ?_
  exact AX12_digest_L6  N _ _ h
theorem mcX12_digest {l : Launch} {K : Kt} {N : Nat} {w : Mm}  {zx : Int64} (h : fX12_digest N w = some zx) : MC l K yX12_digest cX12_digest 4 (some .long) rmX12_digest w [.ref (K.1 77)] (some (.long zx)) w :=
  MC.of (by decide) (Nat.le_of_ble_eq_true rfl) rfl (AX12_digest  h)

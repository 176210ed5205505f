def fX12_layCandle (a : Nat) (n : Nat) (w : Mm) (x1 : Int32) (x2 : Int32) (x3 : Int32) (x4 : Int32) (x5 : Int32) : Option Mm :=
Option.bind (rdA w a n (0 : Int32)) fun a1 =>
Option.bind (wrA w a n (((6 : Int32) + ((5 : Int32) * a1)) + (0 : Int32)) x1) fun m2 =>
Option.bind (wrA m2 a n (((6 : Int32) + ((5 : Int32) * a1)) + (1 : Int32)) x2) fun m3 =>
Option.bind (wrA m3 a n (((6 : Int32) + ((5 : Int32) * a1)) + (2 : Int32)) x3) fun m4 =>
Option.bind (wrA m4 a n (((6 : Int32) + ((5 : Int32) * a1)) + (3 : Int32)) x4) fun m5 =>
Option.bind (wrA m5 a n (((6 : Int32) + ((5 : Int32) * a1)) + (4 : Int32)) x5) fun m6 =>
Option.bind (rdA m6 a n (2 : Int32)) fun a7 =>
Option.bind (rdA m6 a n (0 : Int32)) fun a8 =>
Option.bind (wrA m6 a n (2 : Int32) (a7 ||| ((1 : Int32) <<< (a8 &&& 31)))) fun m9 =>
Option.bind (rdA m9 a n (0 : Int32)) fun a10 =>
Option.bind (wrA m9 a n (0 : Int32) (a10 + (1 : Int32))) fun m11 =>
some m11
set_option maxRecDepth 100000 in
set_option maxHeartbeats 4000000 in
theorem AX12_layCandle {l : Launch} {K : Kt} {a : Nat} {n : Nat} (ha : LAY[a]? = some (.inr (.inl (0, n)))) {w : Mm} {x1 : Int32} {x2 : Int32} {x3 : Int32} {x4 : Int32} {x5 : Int32} {zw : Mm} (h : fX12_layCandle a n w x1 x2 x3 x4 x5 = some zw) : AW l K cX12_layCandle RX12 7 none rmX12_layCandle 0 0 ap_E (ap_F K none zw) w 0 [(0, .ref (K.1 a)), (1, .int x1), (2, .int x2), (3, .int x3), (4, .int x4), (5, .int x5)] [] := by
  unfold fX12_layCandle at h
  refine ap_bipush (v := 6) dX12_layCandle_0 (by decide) ?_
  refine ap_iconst (v := 5) dX12_layCandle_2 (by decide) ?_
  refine ap_aload_n dX12_layCandle_3 0 rfl rfl ?_
  refine ap_iconst (v := 0) dX12_layCandle_4 (by decide) ?_
  obtain ⟨a1, ha1, h⟩ := Option.bind_eq_some_iff.mp h
  refine ap_iald ha ha1 dX12_layCandle_5 ?_
  refine ap_imul dX12_layCandle_6 ?_
  refine ap_iadd dX12_layCandle_7 ?_
  refine ap_istore (i := 6) (lv' := [(6, .int ((6 : Int32) + ((5 : Int32) * a1))), (0, .ref (K.1 a)), (1, .int x1), (2, .int x2), (3, .int x3), (4, .int x4), (5, .int x5)]) dX12_layCandle_8 (by decide) rfl ?_
  refine ap_aload_n dX12_layCandle_10 1 rfl rfl ?_
  refine ap_iload dX12_layCandle_11 0 rfl ?_
  refine ap_iconst (v := 0) dX12_layCandle_13 (by decide) ?_
  refine ap_iadd dX12_layCandle_14 ?_
  refine ap_iload_n dX12_layCandle_15 2 rfl rfl ?_
  obtain ⟨m2, hm2, h⟩ := Option.bind_eq_some_iff.mp h
  refine ap_iast ha hm2 dX12_layCandle_16 ?_
  refine ap_aload_n dX12_layCandle_17 1 rfl rfl ?_
  refine ap_iload dX12_layCandle_18 0 rfl ?_
  refine ap_iconst (v := 1) dX12_layCandle_20 (by decide) ?_
  refine ap_iadd dX12_layCandle_21 ?_
  refine ap_iload_n dX12_layCandle_22 3 rfl rfl ?_
  obtain ⟨m3, hm3, h⟩ := Option.bind_eq_some_iff.mp h
  refine ap_iast ha hm3 dX12_layCandle_23 ?_
  refine ap_aload_n dX12_layCandle_24 1 rfl rfl ?_
  refine ap_iload dX12_layCandle_25 0 rfl ?_
  refine ap_iconst (v := 2) dX12_layCandle_27 (by decide) ?_
  refine ap_iadd dX12_layCandle_28 ?_
  refine ap_iload_n dX12_layCandle_29 4 rfl rfl ?_
  obtain ⟨m4, hm4, h⟩ := Option.bind_eq_some_iff.mp h
  refine ap_iast ha hm4 dX12_layCandle_30 ?_
  refine ap_aload_n dX12_layCandle_31 1 rfl rfl ?_
  refine ap_iload dX12_layCandle_32 0 rfl ?_
  refine ap_iconst (v := 3) dX12_layCandle_34 (by decide) ?_
  refine ap_iadd dX12_layCandle_35 ?_
  refine ap_iload dX12_layCandle_36 5 rfl ?_
  obtain ⟨m5, hm5, h⟩ := Option.bind_eq_some_iff.mp h
  refine ap_iast ha hm5 dX12_layCandle_38 ?_
  refine ap_aload_n dX12_layCandle_39 1 rfl rfl ?_
  refine ap_iload dX12_layCandle_40 0 rfl ?_
  refine ap_iconst (v := 4) dX12_layCandle_42 (by decide) ?_
  refine ap_iadd dX12_layCandle_43 ?_
  refine ap_iload dX12_layCandle_44 6 rfl ?_
  obtain ⟨m6, hm6, h⟩ := Option.bind_eq_some_iff.mp h
  refine ap_iast ha hm6 dX12_layCandle_46 ?_
  refine ap_aload_n dX12_layCandle_47 1 rfl rfl ?_
  refine ap_iconst (v := 2) dX12_layCandle_48 (by decide) ?_
  refine ap_dup2 dX12_layCandle_49 rfl rfl ?_
  obtain ⟨a7, ha7, h⟩ := Option.bind_eq_some_iff.mp h
  refine ap_iald ha ha7 dX12_layCandle_50 ?_
  refine ap_iconst (v := 1) dX12_layCandle_51 (by decide) ?_
  refine ap_aload_n dX12_layCandle_52 1 rfl rfl ?_
  refine ap_iconst (v := 0) dX12_layCandle_53 (by decide) ?_
  obtain ⟨a8, ha8, h⟩ := Option.bind_eq_some_iff.mp h
  refine ap_iald ha ha8 dX12_layCandle_54 ?_
  refine ap_ishl dX12_layCandle_55 ?_
  refine ap_ior dX12_layCandle_56 ?_
  obtain ⟨m9, hm9, h⟩ := Option.bind_eq_some_iff.mp h
  refine ap_iast ha hm9 dX12_layCandle_57 ?_
  refine ap_aload_n dX12_layCandle_58 1 rfl rfl ?_
  refine ap_iconst (v := 0) dX12_layCandle_59 (by decide) ?_
  refine ap_dup2 dX12_layCandle_60 rfl rfl ?_
  obtain ⟨a10, ha10, h⟩ := Option.bind_eq_some_iff.mp h
  refine ap_iald ha ha10 dX12_layCandle_61 ?_
  refine ap_iconst (v := 1) dX12_layCandle_62 (by decide) ?_
  refine ap_iadd dX12_layCandle_63 ?_
  obtain ⟨m11, hm11, h⟩ := Option.bind_eq_some_iff.mp h
  refine ap_iast ha hm11 dX12_layCandle_64 ?_
  obtain rfl := Option.some.inj h
  exact ap_vret rfl dX12_layCandle_65
theorem mcX12_layCandle {l : Launch} {K : Kt} {a : Nat} {n : Nat} (ha : LAY[a]? = some (.inr (.inl (0, n)))) {w : Mm} {x1 : Int32} {x2 : Int32} {x3 : Int32} {x4 : Int32} {x5 : Int32} {zw : Mm} (h : fX12_layCandle a n w x1 x2 x3 x4 x5 = some zw) : MC l K yX12_layCandle cX12_layCandle 7 none rmX12_layCandle w [.ref (K.1 a), .int x1, .int x2, .int x3, .int x4, .int x5] none zw :=
  MC.of (by decide) (Nat.le_of_ble_eq_true rfl) rfl (AX12_layCandle ha h)
def fX12_candle_L47 (w : Mm) : Option (Int32 × Mm) :=
ob2 (some (fX12_bad w (-2 : Int32))) fun a11 m12 =>
some (a11, m12)
set_option maxRecDepth 100000 in
set_option maxHeartbeats 4000000 in
theorem AX12_candle_L47 {l : Launch} {K : Kt}   {w : Mm} {zx : Int32} {zw : Mm} (h : fX12_candle_L47 w = some (zx, zw)) : AW l K cX12_candle RX12 6 (some .int) rmX12_candle 0 0 ap_E (ap_F K (some (.int zx)) zw) w 47 [(0, .ref (K.1 77))] [] := by
  unfold fX12_candle_L47 at h
  refine ap_aload_n dX12_candle_47 0 rfl rfl ?_
  refine ap_bipush (v := -2) dX12_candle_48 (by decide) ?_
  obtain ⟨a11, m12, ha11, h⟩ := ob2_iff h
  refine ap_callV (k := 77) (As := [.int (-2 : Int32)]) (st := []) (st1 := [.int a11]) (mcX12_bad  (Option.some.inj ha11)) cv_X12_75 rfl ly_77 ⟨rfl, rfl, by decide, by decide⟩ rfl (Nat.le_of_ble_eq_true rfl) ⟨Nat.zero_le _, Nat.zero_le _⟩ dX12_candle_50 rfl rfl ?_
  obtain ⟨rfl, rfl⟩ := Prod.mk.inj (Option.some.inj h)
  exact ap_iret rfl dX12_candle_53
def fX12_candle (w : Mm) (x1 : Int32) (x2 : Int32) (x3 : Int32) (x4 : Int32) (x5 : Int32) : Option (Int32 × Mm) :=
if (fX12_in x1.toInt64 (0 : Int64) (5 : Int64)) = (0 : Int32) then (
fX12_candle_L47 w)
else (
if (fX12_isCell x2) = (0 : Int32) then (
fX12_candle_L47 w)
else (
if (fX12_isLight x3) = (0 : Int32) then (
fX12_candle_L47 w)
else (
if (fX12_isOwner x4) = (0 : Int32) then (
fX12_candle_L47 w)
else (
if (fX12_in x5.toInt64 (0 : Int64) (12 : Int64)) = (0 : Int32) then (
fX12_candle_L47 w)
else (
if (fX12_candles w) = (7 : Int32) then (
ob2 (some (fX12_full w)) fun a9 m10 =>
some (a9, m10))
else (
Option.bind (fX12_layCandle 78 129 w x1 x2 x3 x4 x5) fun m7 =>
Option.bind (some (sI m7 78 5 (0 : Int32))) fun m8 =>
some (((fX12_candles m8) - (1 : Int32)), m8)))))))
set_option maxRecDepth 100000 in
set_option maxHeartbeats 4000000 in
theorem AX12_candle {l : Launch} {K : Kt}  {w : Mm} {x1 : Int32} {x2 : Int32} {x3 : Int32} {x4 : Int32} {x5 : Int32} {zx : Int32} {zw : Mm} (h : fX12_candle w x1 x2 x3 x4 x5 = some (zx, zw)) : AW l K cX12_candle RX12 6 (some .int) rmX12_candle 0 0 ap_E (ap_F K (some (.int zx)) zw) w 0 [(0, .ref (K.1 77)), (1, .int x1), (2, .int x2), (3, .int x3), (4, .int x4), (5, .int x5)] [] := by
  unfold fX12_candle at h
  refine ap_iload_n dX12_candle_0 1 rfl rfl ?_
  refine ap_i2l (v := x1.toInt64) dX12_candle_1 rfl ?_
  refine ap_lconst (v := 0) dX12_candle_2 (by decide) ?_
  refine ap_ldc2 (v := 5) wd_1005 dX12_candle_3 ?_
  refine ap_callS (As := [.long x1.toInt64, .long (0 : Int64), .long (5 : Int64)]) (st := []) (st1 := [.int (fX12_in x1.toInt64 (0 : Int64) (5 : Int64))]) (mcX12_in  (w := w) (zx := fX12_in x1.toInt64 (0 : Int64) (5 : Int64)) rfl) cs_X12_61 ⟨rfl, rfl, by decide, by decide⟩ rfl (Nat.le_of_ble_eq_true rfl) ⟨Nat.zero_le _, Nat.zero_le _⟩ dX12_candle_6 rfl rfl ?_
  refine ap_if_eq (tgt := 47) dX12_candle_9 (by decide) (fun hc1 => ?_) (fun hc1 => ?_)
  · rw [if_pos hc1] at h
    refine ap_sub [0] rfl ?_
    exact AX12_candle_L47   h
  · rw [if_neg hc1] at h
    refine ap_iload_n dX12_candle_12 2 rfl rfl ?_
    refine ap_callS (As := [.int x2]) (st := []) (st1 := [.int (fX12_isCell x2)]) (mcX12_isCell  (w := w) (zx := fX12_isCell x2) rfl) cs_X12_85 ⟨rfl, rfl, by decide, by decide⟩ rfl (Nat.le_of_ble_eq_true rfl) ⟨Nat.zero_le _, Nat.zero_le _⟩ dX12_candle_13 rfl rfl ?_
    refine ap_if_eq (tgt := 47) dX12_candle_16 (by decide) (fun hc2 => ?_) (fun hc2 => ?_)
    · rw [if_pos hc2] at h
      refine ap_sub [0] rfl ?_
      exact AX12_candle_L47   h
    · rw [if_neg hc2] at h
      refine ap_iload_n dX12_candle_19 3 rfl rfl ?_
      refine ap_callS (As := [.int x3]) (st := []) (st1 := [.int (fX12_isLight x3)]) (mcX12_isLight  (w := w) (zx := fX12_isLight x3) rfl) cs_X12_89 ⟨rfl, rfl, by decide, by decide⟩ rfl (Nat.le_of_ble_eq_true rfl) ⟨Nat.zero_le _, Nat.zero_le _⟩ dX12_candle_20 rfl rfl ?_
      refine ap_if_eq (tgt := 47) dX12_candle_23 (by decide) (fun hc3 => ?_) (fun hc3 => ?_)
      · rw [if_pos hc3] at h
        refine ap_sub [0] rfl ?_
        exact AX12_candle_L47   h
      · rw [if_neg hc3] at h
        refine ap_iload dX12_candle_26 4 rfl ?_
        refine ap_callS (As := [.int x4]) (st := []) (st1 := [.int (fX12_isOwner x4)]) (mcX12_isOwner  (w := w) (zx := fX12_isOwner x4) rfl) cs_X12_92 ⟨rfl, rfl, by decide, by decide⟩ rfl (Nat.le_of_ble_eq_true rfl) ⟨Nat.zero_le _, Nat.zero_le _⟩ dX12_candle_28 rfl rfl ?_
        refine ap_if_eq (tgt := 47) dX12_candle_31 (by decide) (fun hc4 => ?_) (fun hc4 => ?_)
        · rw [if_pos hc4] at h
          refine ap_sub [0] rfl ?_
          exact AX12_candle_L47   h
        · rw [if_neg hc4] at h
          refine ap_iload dX12_candle_34 5 rfl ?_
          refine ap_i2l (v := x5.toInt64) dX12_candle_36 rfl ?_
          refine ap_lconst (v := 0) dX12_candle_37 (by decide) ?_
          refine ap_ldc2 (v := 12) wd_1018 dX12_candle_38 ?_
          refine ap_callS (As := [.long x5.toInt64, .long (0 : Int64), .long (12 : Int64)]) (st := []) (st1 := [.int (fX12_in x5.toInt64 (0 : Int64) (12 : Int64))]) (mcX12_in  (w := w) (zx := fX12_in x5.toInt64 (0 : Int64) (12 : Int64)) rfl) cs_X12_61 ⟨rfl, rfl, by decide, by decide⟩ rfl (Nat.le_of_ble_eq_true rfl) ⟨Nat.zero_le _, Nat.zero_le _⟩ dX12_candle_41 rfl rfl ?_
          refine ap_if_ne (tgt := 54) dX12_candle_44 (by decide) (fun hc5 => ?_) (fun hc5 => ?_)
          · rw [if_neg hc5] at h
            refine ap_aload_n dX12_candle_54 0 rfl rfl ?_
            refine ap_callV (k := 77) (As := []) (st := []) (st1 := [.int (fX12_candles w)]) (mcX12_candles  (w := w) (zx := fX12_candles w) rfl) cv_X12_57 rfl ly_77 ⟨rfl, rfl, by decide, by decide⟩ rfl (Nat.le_of_ble_eq_true rfl) ⟨Nat.zero_le _, Nat.zero_le _⟩ dX12_candle_55 rfl rfl ?_
            refine ap_bipush (v := 7) dX12_candle_58 (by decide) ?_
            refine ap_icmp_ne (tgt := 68) dX12_candle_60 (by decide) (fun hc6 => ?_) (fun hc6 => ?_)
            · rw [if_neg hc6] at h
              refine ap_aload_n dX12_candle_68 0 rfl rfl ?_
              refine ap_get (v := .ref (K.1 78)) fl_X12_7 ly_77 rfl rfl dX12_candle_69 ?_
              refine ap_iload_n dX12_candle_72 1 rfl rfl ?_
              refine ap_iload_n dX12_candle_73 2 rfl rfl ?_
              refine ap_iload_n dX12_candle_74 3 rfl rfl ?_
              refine ap_iload dX12_candle_75 4 rfl ?_
              refine ap_iload dX12_candle_77 5 rfl ?_
              obtain ⟨m7, hm7, h⟩ := Option.bind_eq_some_iff.mp h
              refine ap_callS (As := [.ref (K.1 78), .int x1, .int x2, .int x3, .int x4, .int x5]) (st := []) (st1 := []) (mcX12_layCandle ly_78 hm7) cs_X12_100 ⟨rfl, rfl, by decide, by decide⟩ rfl (Nat.le_of_ble_eq_true rfl) ⟨Nat.zero_le _, Nat.zero_le _⟩ dX12_candle_79 rfl rfl ?_
              refine ap_aload_n dX12_candle_82 0 rfl rfl ?_
              refine ap_get (v := .ref (K.1 78)) fl_X12_7 ly_77 rfl rfl dX12_candle_83 ?_
              refine ap_iconst (v := 5) dX12_candle_86 (by decide) ?_
              refine ap_iconst (v := 0) dX12_candle_87 (by decide) ?_
              obtain ⟨m8, hm8, h⟩ := Option.bind_eq_some_iff.mp h
              refine ap_iast ly_78 ((wrA_c (by decide) (by decide)).trans hm8) dX12_candle_88 ?_
              refine ap_aload_n dX12_candle_89 0 rfl rfl ?_
              refine ap_callV (k := 77) (As := []) (st := []) (st1 := [.int (fX12_candles m8)]) (mcX12_candles  (w := m8) (zx := fX12_candles m8) rfl) cv_X12_57 rfl ly_77 ⟨rfl, rfl, by decide, by decide⟩ rfl (Nat.le_of_ble_eq_true rfl) ⟨Nat.zero_le _, Nat.zero_le _⟩ dX12_candle_90 rfl rfl ?_
              refine ap_iconst (v := 1) dX12_candle_93 (by decide) ?_
              refine ap_isub dX12_candle_94 ?_
              obtain ⟨rfl, rfl⟩ := Prod.mk.inj (Option.some.inj h)
              exact ap_iret rfl dX12_candle_95
            · rw [if_pos hc6] at h
              refine ap_aload_n dX12_candle_63 0 rfl rfl ?_
              obtain ⟨a9, m10, ha9, h⟩ := ob2_iff h
              refine ap_callV (k := 77) (As := []) (st := []) (st1 := [.int a9]) (mcX12_full  (Option.some.inj ha9)) cv_X12_97 rfl ly_77 ⟨rfl, rfl, by decide, by decide⟩ rfl (Nat.le_of_ble_eq_true rfl) ⟨Nat.zero_le _, Nat.zero_le _⟩ dX12_candle_64 rfl rfl ?_
              obtain ⟨rfl, rfl⟩ := Prod.mk.inj (Option.some.inj h)
              exact ap_iret rfl dX12_candle_67
          · rw [if_pos hc5] at h
            refine ap_sub [0] rfl ?_
            exact AX12_candle_L47   h
theorem mcX12_candle {l : Launch} {K : Kt}  {w : Mm} {x1 : Int32} {x2 : Int32} {x3 : Int32} {x4 : Int32} {x5 : Int32} {zx : Int32} {zw : Mm} (h : fX12_candle w x1 x2 x3 x4 x5 = some (zx, zw)) : MC l K yX12_candle cX12_candle 6 (some .int) rmX12_candle w [.ref (K.1 77), .int x1, .int x2, .int x3, .int x4, .int x5] (some (.int zx)) zw :=
  MC.of (by decide) (Nat.le_of_ble_eq_true rfl) rfl (AX12_candle  h)
def fX12_keep_L66 (N : Nat) : Nat → Mm → Int32 → Int32 → Option Mm
  | 0, _, _, _ => none
  | n0 + 1, w, x1, x2 => if (7 : Int32) ≤ x2 then (
Option.bind (wrA w 78 129 (x1 + (7 : Int32)) (w.1 78 2)) fun m7 =>
Option.bind (some (sI m7 78 5 ((m7.1 78 5) + (1 : Int32)))) fun m8 =>
some m8)
else (
Option.bind (fX12_get w x2 (1 : Int32)) fun a9 =>
Option.bind (wrA w 78 129 (x1 + x2) a9) fun m10 =>
(fX12_keep_L66 N n0) m10 x1 (x2 + 1))
set_option maxRecDepth 100000 in
set_option maxHeartbeats 4000000 in
theorem AX12_keep_L66 {l : Launch} {K : Kt} {N : Nat}   : ∀ (n0 : Nat) (w : Mm) (x1 : Int32) (x2 : Int32) {zw : Mm}, fX12_keep_L66 N n0 w x1 x2 = some zw → AW l K cX12_keep RX12 3 none rmX12_keep 0 0 ap_E (ap_F K none zw) w 66 [(0, .ref (K.1 77)), (1, .int x1), (2, .int x2)] [] := by
  intro n0
  induction n0 with
  | zero =>
    intro w x1 x2 zw h
    cases h
  | succ n0 ih =>
    intro w x1 x2 zw h
    rw [fX12_keep_L66] at h
    refine ap_iload_n dX12_keep_66 2 rfl rfl ?_
    refine ap_bipush (v := 7) dX12_keep_67 (by decide) ?_
    refine ap_icmp_ge (tgt := 92) dX12_keep_69 (by decide) (fun hc6 => ?_) (fun hc6 => ?_)
    · rw [if_pos hc6] at h
      refine ap_aload_n dX12_keep_92 0 rfl rfl ?_
      refine ap_get (v := .ref (K.1 78)) fl_X12_7 ly_77 rfl rfl dX12_keep_93 ?_
      refine ap_iload_n dX12_keep_96 1 rfl rfl ?_
      refine ap_bipush (v := 7) dX12_keep_97 (by decide) ?_
      refine ap_iadd dX12_keep_99 ?_
      refine ap_aload_n dX12_keep_100 0 rfl rfl ?_
      refine ap_get (v := .ref (K.1 78)) fl_X12_7 ly_77 rfl rfl dX12_keep_101 ?_
      refine ap_iconst (v := 2) dX12_keep_104 (by decide) ?_
      refine ap_iald (x := (w.1 78 2)) ly_78 (rdA_c (by decide) (by decide)) dX12_keep_105 ?_
      obtain ⟨m7, hm7, h⟩ := Option.bind_eq_some_iff.mp h
      refine ap_iast ly_78 hm7 dX12_keep_106 ?_
      refine ap_aload_n dX12_keep_107 0 rfl rfl ?_
      refine ap_get (v := .ref (K.1 78)) fl_X12_7 ly_77 rfl rfl dX12_keep_108 ?_
      refine ap_iconst (v := 5) dX12_keep_111 (by decide) ?_
      refine ap_dup2 dX12_keep_112 rfl rfl ?_
      refine ap_iald (x := (m7.1 78 5)) ly_78 (rdA_c (by decide) (by decide)) dX12_keep_113 ?_
      refine ap_iconst (v := 1) dX12_keep_114 (by decide) ?_
      refine ap_iadd dX12_keep_115 ?_
      obtain ⟨m8, hm8, h⟩ := Option.bind_eq_some_iff.mp h
      refine ap_iast ly_78 ((wrA_c (by decide) (by decide)).trans hm8) dX12_keep_116 ?_
      obtain rfl := Option.some.inj h
      exact ap_vret rfl dX12_keep_117
    · rw [if_neg hc6] at h
      refine ap_aload_n dX12_keep_72 0 rfl rfl ?_
      refine ap_get (v := .ref (K.1 78)) fl_X12_7 ly_77 rfl rfl dX12_keep_73 ?_
      refine ap_iload_n dX12_keep_76 1 rfl rfl ?_
      refine ap_iload_n dX12_keep_77 2 rfl rfl ?_
      refine ap_iadd dX12_keep_78 ?_
      refine ap_aload_n dX12_keep_79 0 rfl rfl ?_
      refine ap_iload_n dX12_keep_80 2 rfl rfl ?_
      refine ap_iconst (v := 1) dX12_keep_81 (by decide) ?_
      obtain ⟨a9, ha9, h⟩ := Option.bind_eq_some_iff.mp h
      refine ap_callV (k := 77) (As := [.int x2, .int (1 : Int32)]) (st := [.int (x1 + x2), .ref (K.1 78)]) (st1 := [.int a9, .int (x1 + x2), .ref (K.1 78)]) (mcX12_get  (w := w) ha9) cv_X12_104 rfl ly_77 ⟨rfl, rfl, by decide, by decide⟩ rfl (Nat.le_of_ble_eq_true rfl) ⟨Nat.zero_le _, Nat.zero_le _⟩ dX12_keep_82 rfl rfl ?_
      obtain ⟨m10, hm10, h⟩ := Option.bind_eq_some_iff.mp h
      refine ap_iast ly_78 hm10 dX12_keep_85 ?_
      refine ap_iinc (v := x2 + 1) (lv' := [(2, .int (x2 + 1)), (0, .ref (K.1 77)), (1, .int x1)]) dX12_keep_86 2 rfl rfl (by decide) rfl ?_
      refine ap_goto (tgt := 66) dX12_keep_89 (by decide) ?_
      refine ap_sub [1, 2, 0] rfl ?_
      exact ih _ _ _ h
def fX12_keep_L51 (N : Nat) (w : Mm) : Option Mm :=
fX12_keep_L66 N N w ((65 : Int32) + ((8 : Int32) * (w.1 78 5))) (0 : Int32)
set_option maxRecDepth 100000 in
set_option maxHeartbeats 4000000 in
theorem AX12_keep_L51 {l : Launch} {K : Kt} {N : Nat}   {w : Mm} {zw : Mm} (h : fX12_keep_L51 N w = some zw) : AW l K cX12_keep RX12 3 none rmX12_keep 0 0 ap_E (ap_F K none zw) w 51 [(0, .ref (K.1 77))] [] := by
  unfold fX12_keep_L51 at h
  refine ap_bipush (v := 65) dX12_keep_51 (by decide) ?_
  refine ap_bipush (v := 8) dX12_keep_53 (by decide) ?_
  refine ap_aload_n dX12_keep_55 0 rfl rfl ?_
  refine ap_get (v := .ref (K.1 78)) fl_X12_7 ly_77 rfl rfl dX12_keep_56 ?_
  refine ap_iconst (v := 5) dX12_keep_59 (by decide) ?_
  refine ap_iald (x := (w.1 78 5)) ly_78 (rdA_c (by decide) (by decide)) dX12_keep_60 ?_
  refine ap_imul dX12_keep_61 ?_
  refine ap_iadd dX12_keep_62 ?_
  refine ap_istore_n (i := 1) (lv' := [(1, .int ((65 : Int32) + ((8 : Int32) * (w.1 78 5)))), (0, .ref (K.1 77))]) dX12_keep_63 rfl (by decide) rfl ?_
  refine ap_iconst (v := 0) dX12_keep_64 (by decide) ?_
  refine ap_istore_n (i := 2) (lv' := [(2, .int (0 : Int32)), (1, .int ((65 : Int32) + ((8 : Int32) * (w.1 78 5)))), (0, .ref (K.1 77))]) dX12_keep_65 rfl (by decide) rfl ?_
  refine ap_sub [2, 1, 0] rfl ?_
  exact AX12_keep_L66  N _ _ _ h
def fX12_keep_L13 (N : Nat) : Nat → Mm → Int32 → Option Mm
  | 0, _, _ => none
  | n0 + 1, w, x1 => if (56 : Int32) ≤ x1 then (
Option.bind (some (sI w 78 5 (7 : Int32))) fun m3 =>
fX12_keep_L51 N m3)
else (
Option.bind (rdA w 78 129 ((73 : Int32) + x1)) fun a4 =>
Option.bind (wrA w 78 129 ((65 : Int32) + x1) a4) fun m5 =>
(fX12_keep_L13 N n0) m5 (x1 + 1))
set_option maxRecDepth 100000 in
set_option maxHeartbeats 4000000 in
theorem AX12_keep_L13 {l : Launch} {K : Kt} {N : Nat}   : ∀ (n0 : Nat) (w : Mm) (x1 : Int32) {zw : Mm}, fX12_keep_L13 N n0 w x1 = some zw → AW l K cX12_keep RX12 3 none rmX12_keep 0 0 ap_E (ap_F K none zw) w 13 [(0, .ref (K.1 77)), (1, .int x1)] [] := by
  intro n0
  induction n0 with
  | zero =>
    intro w x1 zw h
    cases h
  | succ n0 ih =>
    intro w x1 zw h
    rw [fX12_keep_L13] at h
    refine ap_iload_n dX12_keep_13 1 rfl rfl ?_
    refine ap_bipush (v := 56) dX12_keep_14 (by decide) ?_
    refine ap_icmp_ge (tgt := 43) dX12_keep_16 (by decide) (fun hc2 => ?_) (fun hc2 => ?_)
    · rw [if_pos hc2] at h
      refine ap_aload_n dX12_keep_43 0 rfl rfl ?_
      refine ap_get (v := .ref (K.1 78)) fl_X12_7 ly_77 rfl rfl dX12_keep_44 ?_
      refine ap_iconst (v := 5) dX12_keep_47 (by decide) ?_
      refine ap_bipush (v := 7) dX12_keep_48 (by decide) ?_
      obtain ⟨m3, hm3, h⟩ := Option.bind_eq_some_iff.mp h
      refine ap_iast ly_78 ((wrA_c (by decide) (by decide)).trans hm3) dX12_keep_50 ?_
      refine ap_sub [0] rfl ?_
      exact AX12_keep_L51   h
    · rw [if_neg hc2] at h
      refine ap_aload_n dX12_keep_19 0 rfl rfl ?_
      refine ap_get (v := .ref (K.1 78)) fl_X12_7 ly_77 rfl rfl dX12_keep_20 ?_
      refine ap_bipush (v := 65) dX12_keep_23 (by decide) ?_
      refine ap_iload_n dX12_keep_25 1 rfl rfl ?_
      refine ap_iadd dX12_keep_26 ?_
      refine ap_aload_n dX12_keep_27 0 rfl rfl ?_
      refine ap_get (v := .ref (K.1 78)) fl_X12_7 ly_77 rfl rfl dX12_keep_28 ?_
      refine ap_bipush (v := 73) dX12_keep_31 (by decide) ?_
      refine ap_iload_n dX12_keep_33 1 rfl rfl ?_
      refine ap_iadd dX12_keep_34 ?_
      obtain ⟨a4, ha4, h⟩ := Option.bind_eq_some_iff.mp h
      refine ap_iald ly_78 ha4 dX12_keep_35 ?_
      obtain ⟨m5, hm5, h⟩ := Option.bind_eq_some_iff.mp h
      refine ap_iast ly_78 hm5 dX12_keep_36 ?_
      refine ap_iinc (v := x1 + 1) (lv' := [(1, .int (x1 + 1)), (0, .ref (K.1 77))]) dX12_keep_37 1 rfl rfl (by decide) rfl ?_
      refine ap_goto (tgt := 13) dX12_keep_40 (by decide) ?_
      refine ap_sub [1, 0] rfl ?_
      exact ih _ _ h
def fX12_keep (N : Nat) (w : Mm) : Option Mm :=
if (w.1 78 5) = (8 : Int32) then (
fX12_keep_L13 N N w (0 : Int32))
else (
fX12_keep_L51 N w)
set_option maxRecDepth 100000 in
set_option maxHeartbeats 4000000 in
theorem AX12_keep {l : Launch} {K : Kt} {N : Nat}  {w : Mm} {zw : Mm} (h : fX12_keep N w = some zw) : AW l K cX12_keep RX12 3 none rmX12_keep 0 0 ap_E (ap_F K none zw) w 0 [(0, .ref (K.1 77))] [] := by
  unfold fX12_keep at h
  refine ap_aload_n dX12_keep_0 0 rfl rfl ?_
  refine ap_get (v := .ref (K.1 78)) fl_X12_7 ly_77 rfl rfl dX12_keep_1 ?_
  refine ap_iconst (v := 5) dX12_keep_4 (by decide) ?_
  refine ap_iald (x := (w.1 78 5)) ly_78 (rdA_c (by decide) (by decide)) dX12_keep_5 ?_
  refine ap_bipush (v := 8) dX12_keep_6 (by decide) ?_
  refine ap_icmp_ne (tgt := 51) dX12_keep_8 (by decide) (fun hc1 => ?_) (fun hc1 => ?_)
  · rw [if_neg hc1] at h
    exact AX12_keep_L51   h
  · rw [if_pos hc1] at h
    refine ap_iconst (v := 0) dX12_keep_11 (by decide) ?_
    refine ap_istore_n (i := 1) (lv' := [(1, .int (0 : Int32)), (0, .ref (K.1 77))]) dX12_keep_12 rfl (by decide) rfl ?_
    refine ap_sub [1, 0] rfl ?_
    exact AX12_keep_L13  N _ _ h
theorem mcX12_keep {l : Launch} {K : Kt} {N : Nat}  {w : Mm} {zw : Mm} (h : fX12_keep N w = some zw) : MC l K yX12_keep cX12_keep 3 none rmX12_keep w [.ref (K.1 77)] none zw :=
  MC.of (by decide) (Nat.le_of_ble_eq_true rfl) rfl (AX12_keep  h)
def fX12_move_L15 (N : Nat) (w : Mm) : Option (Int32 × Mm) :=
ob2 (some (fX12_bad w (-2 : Int32))) fun a6 m7 =>
some (a6, m7)
set_option maxRecDepth 100000 in
set_option maxHeartbeats 4000000 in
theorem AX12_move_L15 {l : Launch} {K : Kt} {N : Nat}   {w : Mm} {zx : Int32} {zw : Mm} (h : fX12_move_L15 N w = some (zx, zw)) : AW l K cX12_move RX12 4 (some .int) rmX12_move 0 0 ap_E (ap_F K (some (.int zx)) zw) w 15 [(0, .ref (K.1 77))] [] := by
  unfold fX12_move_L15 at h
  refine ap_aload_n dX12_move_15 0 rfl rfl ?_
  refine ap_bipush (v := -2) dX12_move_16 (by decide) ?_
  obtain ⟨a6, m7, ha6, h⟩ := ob2_iff h
  refine ap_callV (k := 77) (As := [.int (-2 : Int32)]) (st := []) (st1 := [.int a6]) (mcX12_bad  (Option.some.inj ha6)) cv_X12_75 rfl ly_77 ⟨rfl, rfl, by decide, by decide⟩ rfl (Nat.le_of_ble_eq_true rfl) ⟨Nat.zero_le _, Nat.zero_le _⟩ dX12_move_18 rfl rfl ?_
  obtain ⟨rfl, rfl⟩ := Prod.mk.inj (Option.some.inj h)
  exact ap_iret rfl dX12_move_21
def fX12_move (N : Nat) (w : Mm) (x1 : Int32) (x2 : Int32) : Option (Int32 × Mm) :=
if (fX12_isCandle w x1) = (0 : Int32) then (
fX12_move_L15 N w)
else (
if (fX12_isCell x2) = (0 : Int32) then (
fX12_move_L15 N w)
else (
Option.bind (fX12_get w x1 (1 : Int32)) fun a3 =>
Option.bind (fX12_keep N w) fun m4 =>
Option.bind (wrA m4 78 129 (((6 : Int32) + ((5 : Int32) * x1)) + (1 : Int32)) x2) fun m5 =>
some (a3, m5)))
set_option maxRecDepth 100000 in
set_option maxHeartbeats 4000000 in
theorem AX12_move {l : Launch} {K : Kt} {N : Nat}  {w : Mm} {x1 : Int32} {x2 : Int32} {zx : Int32} {zw : Mm} (h : fX12_move N w x1 x2 = some (zx, zw)) : AW l K cX12_move RX12 4 (some .int) rmX12_move 0 0 ap_E (ap_F K (some (.int zx)) zw) w 0 [(0, .ref (K.1 77)), (1, .int x1), (2, .int x2)] [] := by
  unfold fX12_move at h
  refine ap_aload_n dX12_move_0 0 rfl rfl ?_
  refine ap_iload_n dX12_move_1 1 rfl rfl ?_
  refine ap_callV (k := 77) (As := [.int x1]) (st := []) (st1 := [.int (fX12_isCandle w x1)]) (mcX12_isCandle  (w := w) (zx := fX12_isCandle w x1) rfl) cv_X12_108 rfl ly_77 ⟨rfl, rfl, by decide, by decide⟩ rfl (Nat.le_of_ble_eq_true rfl) ⟨Nat.zero_le _, Nat.zero_le _⟩ dX12_move_2 rfl rfl ?_
  refine ap_if_eq (tgt := 15) dX12_move_5 (by decide) (fun hc1 => ?_) (fun hc1 => ?_)
  · rw [if_pos hc1] at h
    refine ap_sub [0] rfl ?_
    exact AX12_move_L15   h
  · rw [if_neg hc1] at h
    refine ap_iload_n dX12_move_8 2 rfl rfl ?_
    refine ap_callS (As := [.int x2]) (st := []) (st1 := [.int (fX12_isCell x2)]) (mcX12_isCell  (w := w) (zx := fX12_isCell x2) rfl) cs_X12_85 ⟨rfl, rfl, by decide, by decide⟩ rfl (Nat.le_of_ble_eq_true rfl) ⟨Nat.zero_le _, Nat.zero_le _⟩ dX12_move_9 rfl rfl ?_
    refine ap_if_ne (tgt := 22) dX12_move_12 (by decide) (fun hc2 => ?_) (fun hc2 => ?_)
    · rw [if_neg hc2] at h
      refine ap_aload_n dX12_move_22 0 rfl rfl ?_
      refine ap_iload_n dX12_move_23 1 rfl rfl ?_
      refine ap_iconst (v := 1) dX12_move_24 (by decide) ?_
      obtain ⟨a3, ha3, h⟩ := Option.bind_eq_some_iff.mp h
      refine ap_callV (k := 77) (As := [.int x1, .int (1 : Int32)]) (st := []) (st1 := [.int a3]) (mcX12_get  (w := w) ha3) cv_X12_104 rfl ly_77 ⟨rfl, rfl, by decide, by decide⟩ rfl (Nat.le_of_ble_eq_true rfl) ⟨Nat.zero_le _, Nat.zero_le _⟩ dX12_move_25 rfl rfl ?_
      refine ap_istore_n (i := 3) (lv' := [(3, .int a3), (0, .ref (K.1 77)), (1, .int x1), (2, .int x2)]) dX12_move_28 rfl (by decide) rfl ?_
      refine ap_aload_n dX12_move_29 1 rfl rfl ?_
      obtain ⟨m4, hm4, h⟩ := Option.bind_eq_some_iff.mp h
      refine ap_callV (k := 77) (As := []) (st := []) (st1 := []) (mcX12_keep  hm4) cv_X12_111 rfl ly_77 ⟨rfl, rfl, by decide, by decide⟩ rfl (Nat.le_of_ble_eq_true rfl) ⟨Nat.zero_le _, Nat.zero_le _⟩ dX12_move_30 rfl rfl ?_
      refine ap_aload_n dX12_move_33 1 rfl rfl ?_
      refine ap_get (v := .ref (K.1 78)) fl_X12_7 ly_77 rfl rfl dX12_move_34 ?_
      refine ap_bipush (v := 6) dX12_move_37 (by decide) ?_
      refine ap_iconst (v := 5) dX12_move_39 (by decide) ?_
      refine ap_iload_n dX12_move_40 2 rfl rfl ?_
      refine ap_imul dX12_move_41 ?_
      refine ap_iadd dX12_move_42 ?_
      refine ap_iconst (v := 1) dX12_move_43 (by decide) ?_
      refine ap_iadd dX12_move_44 ?_
      refine ap_iload_n dX12_move_45 3 rfl rfl ?_
      obtain ⟨m5, hm5, h⟩ := Option.bind_eq_some_iff.mp h
      refine ap_iast ly_78 hm5 dX12_move_46 ?_
      refine ap_iload_n dX12_move_47 0 rfl rfl ?_
      obtain ⟨rfl, rfl⟩ := Prod.mk.inj (Option.some.inj h)
      exact ap_iret rfl dX12_move_48
    · rw [if_pos hc2] at h
      refine ap_sub [0] rfl ?_
      exact AX12_move_L15   h
theorem mcX12_move {l : Launch} {K : Kt} {N : Nat}  {w : Mm} {x1 : Int32} {x2 : Int32} {zx : Int32} {zw : Mm} (h : fX12_move N w x1 x2 = some (zx, zw)) : MC l K yX12_move cX12_move 4 (some .int) rmX12_move w [.ref (K.1 77), .int x1, .int x2] (some (.int zx)) zw :=
  MC.of (by decide) (Nat.le_of_ble_eq_true rfl) rfl (AX12_move  h)
def fX12_light_L18 (N : Nat) (w : Mm) : Option (Int32 × Mm) :=
ob2 (some (fX12_bad w (-2 : Int32))) fun a8 m9 =>
some (a8, m9)
set_option maxRecDepth 100000 in
set_option maxHeartbeats 4000000 in
theorem AX12_light_L18 {l : Launch} {K : Kt} {N : Nat}   {w : Mm} {zx : Int32} {zw : Mm} (h : fX12_light_L18 N w = some (zx, zw)) : AW l K cX12_light RX12 3 (some .int) rmX12_light 0 0 ap_E (ap_F K (some (.int zx)) zw) w 18 [(0, .ref (K.1 77))] [] := by
  unfold fX12_light_L18 at h
  refine ap_aload_n dX12_light_18 0 rfl rfl ?_
  refine ap_bipush (v := -2) dX12_light_19 (by decide) ?_
  obtain ⟨a8, m9, ha8, h⟩ := ob2_iff h
  refine ap_callV (k := 77) (As := [.int (-2 : Int32)]) (st := []) (st1 := [.int a8]) (mcX12_bad  (Option.some.inj ha8)) cv_X12_75 rfl ly_77 ⟨rfl, rfl, by decide, by decide⟩ rfl (Nat.le_of_ble_eq_true rfl) ⟨Nat.zero_le _, Nat.zero_le _⟩ dX12_light_21 rfl rfl ?_
  obtain ⟨rfl, rfl⟩ := Prod.mk.inj (Option.some.inj h)
  exact ap_iret rfl dX12_light_24
def fX12_light (N : Nat) (w : Mm) (x1 : Int32) (x2 : Int32) : Option (Int32 × Mm) :=
if (fX12_isCandle w x1) = (0 : Int32) then (
fX12_light_L18 N w)
else (
if (fX12_in x2.toInt64 (0 : Int64) (1 : Int64)) = (0 : Int32) then (
fX12_light_L18 N w)
else (
if (((w.1 78 2) >>> (x1 &&& 31)) &&& (1 : Int32)) = x2 then (
ob2 (some (fX12_no w)) fun a6 m7 =>
some (a6, m7))
else (
Option.bind (fX12_keep N w) fun m4 =>
Option.bind (some (sI m4 78 2 ((m4.1 78 2) ^^^ ((1 : Int32) <<< (x1 &&& 31))))) fun m5 =>
some ((1 : Int32), m5))))
set_option maxRecDepth 100000 in
set_option maxHeartbeats 4000000 in
theorem AX12_light {l : Launch} {K : Kt} {N : Nat}  {w : Mm} {x1 : Int32} {x2 : Int32} {zx : Int32} {zw : Mm} (h : fX12_light N w x1 x2 = some (zx, zw)) : AW l K cX12_light RX12 3 (some .int) rmX12_light 0 0 ap_E (ap_F K (some (.int zx)) zw) w 0 [(0, .ref (K.1 77)), (1, .int x1), (2, .int x2)] [] := by
  unfold fX12_light at h
  refine ap_aload_n dX12_light_0 0 rfl rfl ?_
  refine ap_iload_n dX12_light_1 1 rfl rfl ?_
  refine ap_callV (k := 77) (As := [.int x1]) (st := []) (st1 := [.int (fX12_isCandle w x1)]) (mcX12_isCandle  (w := w) (zx := fX12_isCandle w x1) rfl) cv_X12_108 rfl ly_77 ⟨rfl, rfl, by decide, by decide⟩ rfl (Nat.le_of_ble_eq_true rfl) ⟨Nat.zero_le _, Nat.zero_le _⟩ dX12_light_2 rfl rfl ?_
  refine ap_if_eq (tgt := 18) dX12_light_5 (by decide) (fun hc1 => ?_) (fun hc1 => ?_)
  · rw [if_pos hc1] at h
    refine ap_sub [0] rfl ?_
    exact AX12_light_L18   h
  · rw [if_neg hc1] at h
    refine ap_iload_n dX12_light_8 2 rfl rfl ?_
    refine ap_i2l (v := x2.toInt64) dX12_light_9 rfl ?_
    refine ap_lconst (v := 0) dX12_light_10 (by decide) ?_
    refine ap_lconst (v := 1) dX12_light_11 (by decide) ?_
    refine ap_callS (As := [.long x2.toInt64, .long (0 : Int64), .long (1 : Int64)]) (st := []) (st1 := [.int (fX12_in x2.toInt64 (0 : Int64) (1 : Int64))]) (mcX12_in  (w := w) (zx := fX12_in x2.toInt64 (0 : Int64) (1 : Int64)) rfl) cs_X12_61 ⟨rfl, rfl, by decide, by decide⟩ rfl (Nat.le_of_ble_eq_true rfl) ⟨Nat.zero_le _, Nat.zero_le _⟩ dX12_light_12 rfl rfl ?_
    refine ap_if_ne (tgt := 25) dX12_light_15 (by decide) (fun hc2 => ?_) (fun hc2 => ?_)
    · rw [if_neg hc2] at h
      refine ap_aload_n dX12_light_25 0 rfl rfl ?_
      refine ap_get (v := .ref (K.1 78)) fl_X12_7 ly_77 rfl rfl dX12_light_26 ?_
      refine ap_iconst (v := 2) dX12_light_29 (by decide) ?_
      refine ap_iald (x := (w.1 78 2)) ly_78 (rdA_c (by decide) (by decide)) dX12_light_30 ?_
      refine ap_iload_n dX12_light_31 1 rfl rfl ?_
      refine ap_ishr dX12_light_32 ?_
      refine ap_iconst (v := 1) dX12_light_33 (by decide) ?_
      refine ap_iand dX12_light_34 ?_
      refine ap_iload_n dX12_light_35 2 rfl rfl ?_
      refine ap_icmp_ne (tgt := 44) dX12_light_36 (by decide) (fun hc3 => ?_) (fun hc3 => ?_)
      · rw [if_neg hc3] at h
        refine ap_aload_n dX12_light_44 0 rfl rfl ?_
        obtain ⟨m4, hm4, h⟩ := Option.bind_eq_some_iff.mp h
        refine ap_callV (k := 77) (As := []) (st := []) (st1 := []) (mcX12_keep  hm4) cv_X12_111 rfl ly_77 ⟨rfl, rfl, by decide, by decide⟩ rfl (Nat.le_of_ble_eq_true rfl) ⟨Nat.zero_le _, Nat.zero_le _⟩ dX12_light_45 rfl rfl ?_
        refine ap_aload_n dX12_light_48 0 rfl rfl ?_
        refine ap_get (v := .ref (K.1 78)) fl_X12_7 ly_77 rfl rfl dX12_light_49 ?_
        refine ap_iconst (v := 2) dX12_light_52 (by decide) ?_
        refine ap_dup2 dX12_light_53 rfl rfl ?_
        refine ap_iald (x := (m4.1 78 2)) ly_78 (rdA_c (by decide) (by decide)) dX12_light_54 ?_
        refine ap_iconst (v := 1) dX12_light_55 (by decide) ?_
        refine ap_iload_n dX12_light_56 1 rfl rfl ?_
        refine ap_ishl dX12_light_57 ?_
        refine ap_ixor dX12_light_58 ?_
        obtain ⟨m5, hm5, h⟩ := Option.bind_eq_some_iff.mp h
        refine ap_iast ly_78 ((wrA_c (by decide) (by decide)).trans hm5) dX12_light_59 ?_
        refine ap_iconst (v := 1) dX12_light_60 (by decide) ?_
        obtain ⟨rfl, rfl⟩ := Prod.mk.inj (Option.some.inj h)
        exact ap_iret rfl dX12_light_61
      · rw [if_pos hc3] at h
        refine ap_aload_n dX12_light_39 0 rfl rfl ?_
        obtain ⟨a6, m7, ha6, h⟩ := ob2_iff h
        refine ap_callV (k := 77) (As := []) (st := []) (st1 := [.int a6]) (mcX12_no  (Option.some.inj ha6)) cv_X12_114 rfl ly_77 ⟨rfl, rfl, by decide, by decide⟩ rfl (Nat.le_of_ble_eq_true rfl) ⟨Nat.zero_le _, Nat.zero_le _⟩ dX12_light_40 rfl rfl ?_
        obtain ⟨rfl, rfl⟩ := Prod.mk.inj (Option.some.inj h)
        exact ap_iret rfl dX12_light_43
    · rw [if_pos hc2] at h
      refine ap_sub [0] rfl ?_
      exact AX12_light_L18   h
theorem mcX12_light {l : Launch} {K : Kt} {N : Nat}  {w : Mm} {x1 : Int32} {x2 : Int32} {zx : Int32} {zw : Mm} (h : fX12_light N w x1 x2 = some (zx, zw)) : MC l K yX12_light cX12_light 3 (some .int) rmX12_light w [.ref (K.1 77), .int x1, .int x2] (some (.int zx)) zw :=
  MC.of (by decide) (Nat.le_of_ble_eq_true rfl) rfl (AX12_light  h)
def fX12_undo_L39 (N : Nat) : Nat → Mm → Int32 → Int32 → Option (Int32 × Mm)
  | 0, _, _, _ => none
  | n0 + 1, w, x1, x2 => if (7 : Int32) ≤ x2 then (
Option.bind (rdA w 78 129 (x1 + (7 : Int32))) fun a6 =>
Option.bind (some (sI w 78 2 a6)) fun m7 =>
some ((m7.1 78 2), m7))
else (
Option.bind (rdA w 78 129 (x1 + x2)) fun a8 =>
Option.bind (wrA w 78 129 (((6 : Int32) + ((5 : Int32) * x2)) + (1 : Int32)) a8) fun m9 =>
(fX12_undo_L39 N n0) m9 x1 (x2 + 1))
set_option maxRecDepth 100000 in
set_option maxHeartbeats 4000000 in
theorem AX12_undo_L39 {l : Launch} {K : Kt} {N : Nat}   : ∀ (n0 : Nat) (w : Mm) (x1 : Int32) (x2 : Int32) {zx : Int32} {zw : Mm}, fX12_undo_L39 N n0 w x1 x2 = some (zx, zw) → AW l K cX12_undo RX12 3 (some .int) rmX12_undo 0 0 ap_E (ap_F K (some (.int zx)) zw) w 39 [(0, .ref (K.1 77)), (1, .int x1), (2, .int x2)] [] := by
  intro n0
  induction n0 with
  | zero =>
    intro w x1 x2 zx zw h
    cases h
  | succ n0 ih =>
    intro w x1 x2 zx zw h
    rw [fX12_undo_L39] at h
    refine ap_iload_n dX12_undo_39 2 rfl rfl ?_
    refine ap_bipush (v := 7) dX12_undo_40 (by decide) ?_
    refine ap_icmp_ge (tgt := 72) dX12_undo_42 (by decide) (fun hc5 => ?_) (fun hc5 => ?_)
    · rw [if_pos hc5] at h
      refine ap_aload_n dX12_undo_72 0 rfl rfl ?_
      refine ap_get (v := .ref (K.1 78)) fl_X12_7 ly_77 rfl rfl dX12_undo_73 ?_
      refine ap_iconst (v := 2) dX12_undo_76 (by decide) ?_
      refine ap_aload_n dX12_undo_77 0 rfl rfl ?_
      refine ap_get (v := .ref (K.1 78)) fl_X12_7 ly_77 rfl rfl dX12_undo_78 ?_
      refine ap_iload_n dX12_undo_81 1 rfl rfl ?_
      refine ap_bipush (v := 7) dX12_undo_82 (by decide) ?_
      refine ap_iadd dX12_undo_84 ?_
      obtain ⟨a6, ha6, h⟩ := Option.bind_eq_some_iff.mp h
      refine ap_iald ly_78 ha6 dX12_undo_85 ?_
      obtain ⟨m7, hm7, h⟩ := Option.bind_eq_some_iff.mp h
      refine ap_iast ly_78 ((wrA_c (by decide) (by decide)).trans hm7) dX12_undo_86 ?_
      refine ap_aload_n dX12_undo_87 0 rfl rfl ?_
      refine ap_get (v := .ref (K.1 78)) fl_X12_7 ly_77 rfl rfl dX12_undo_88 ?_
      refine ap_iconst (v := 2) dX12_undo_91 (by decide) ?_
      refine ap_iald (x := (m7.1 78 2)) ly_78 (rdA_c (by decide) (by decide)) dX12_undo_92 ?_
      obtain ⟨rfl, rfl⟩ := Prod.mk.inj (Option.some.inj h)
      exact ap_iret rfl dX12_undo_93
    · rw [if_neg hc5] at h
      refine ap_aload_n dX12_undo_45 0 rfl rfl ?_
      refine ap_get (v := .ref (K.1 78)) fl_X12_7 ly_77 rfl rfl dX12_undo_46 ?_
      refine ap_bipush (v := 6) dX12_undo_49 (by decide) ?_
      refine ap_iconst (v := 5) dX12_undo_51 (by decide) ?_
      refine ap_iload_n dX12_undo_52 2 rfl rfl ?_
      refine ap_imul dX12_undo_53 ?_
      refine ap_iadd dX12_undo_54 ?_
      refine ap_iconst (v := 1) dX12_undo_55 (by decide) ?_
      refine ap_iadd dX12_undo_56 ?_
      refine ap_aload_n dX12_undo_57 0 rfl rfl ?_
      refine ap_get (v := .ref (K.1 78)) fl_X12_7 ly_77 rfl rfl dX12_undo_58 ?_
      refine ap_iload_n dX12_undo_61 1 rfl rfl ?_
      refine ap_iload_n dX12_undo_62 2 rfl rfl ?_
      refine ap_iadd dX12_undo_63 ?_
      obtain ⟨a8, ha8, h⟩ := Option.bind_eq_some_iff.mp h
      refine ap_iald ly_78 ha8 dX12_undo_64 ?_
      obtain ⟨m9, hm9, h⟩ := Option.bind_eq_some_iff.mp h
      refine ap_iast ly_78 hm9 dX12_undo_65 ?_
      refine ap_iinc (v := x2 + 1) (lv' := [(2, .int (x2 + 1)), (0, .ref (K.1 77)), (1, .int x1)]) dX12_undo_66 2 rfl rfl (by decide) rfl ?_
      refine ap_goto (tgt := 39) dX12_undo_69 (by decide) ?_
      refine ap_sub [1, 2, 0] rfl ?_
      exact ih _ _ _ h
def fX12_undo (N : Nat) (w : Mm) : Option (Int32 × Mm) :=
if (w.1 78 5) = (0 : Int32) then (
ob2 (some (fX12_no w)) fun a3 m4 =>
some (a3, m4))
else (
Option.bind (some (sI w 78 5 ((w.1 78 5) - (1 : Int32)))) fun m2 =>
fX12_undo_L39 N N m2 ((65 : Int32) + ((8 : Int32) * (m2.1 78 5))) (0 : Int32))
set_option maxRecDepth 100000 in
set_option maxHeartbeats 4000000 in
theorem AX12_undo {l : Launch} {K : Kt} {N : Nat}  {w : Mm} {zx : Int32} {zw : Mm} (h : fX12_undo N w = some (zx, zw)) : AW l K cX12_undo RX12 3 (some .int) rmX12_undo 0 0 ap_E (ap_F K (some (.int zx)) zw) w 0 [(0, .ref (K.1 77))] [] := by
  unfold fX12_undo at h
  refine ap_aload_n dX12_undo_0 0 rfl rfl ?_
  refine ap_get (v := .ref (K.1 78)) fl_X12_7 ly_77 rfl rfl dX12_undo_1 ?_
  refine ap_iconst (v := 5) dX12_undo_4 (by decide) ?_
  refine ap_iald (x := (w.1 78 5)) ly_78 (rdA_c (by decide) (by decide)) dX12_undo_5 ?_
  refine ap_if_ne (tgt := 14) dX12_undo_6 (by decide) (fun hc1 => ?_) (fun hc1 => ?_)
  · rw [if_neg hc1] at h
    refine ap_aload_n dX12_undo_14 0 rfl rfl ?_
    refine ap_get (v := .ref (K.1 78)) fl_X12_7 ly_77 rfl rfl dX12_undo_15 ?_
    refine ap_iconst (v := 5) dX12_undo_18 (by decide) ?_
    refine ap_dup2 dX12_undo_19 rfl rfl ?_
    refine ap_iald (x := (w.1 78 5)) ly_78 (rdA_c (by decide) (by decide)) dX12_undo_20 ?_
    refine ap_iconst (v := 1) dX12_undo_21 (by decide) ?_
    refine ap_isub dX12_undo_22 ?_
    obtain ⟨m2, hm2, h⟩ := Option.bind_eq_some_iff.mp h
    refine ap_iast ly_78 ((wrA_c (by decide) (by decide)).trans hm2) dX12_undo_23 ?_
    refine ap_bipush (v := 65) dX12_undo_24 (by decide) ?_
    refine ap_bipush (v := 8) dX12_undo_26 (by decide) ?_
    refine ap_aload_n dX12_undo_28 0 rfl rfl ?_
    refine ap_get (v := .ref (K.1 78)) fl_X12_7 ly_77 rfl rfl dX12_undo_29 ?_
    refine ap_iconst (v := 5) dX12_undo_32 (by decide) ?_
    refine ap_iald (x := (m2.1 78 5)) ly_78 (rdA_c (by decide) (by decide)) dX12_undo_33 ?_
    refine ap_imul dX12_undo_34 ?_
    refine ap_iadd dX12_undo_35 ?_
    refine ap_istore_n (i := 1) (lv' := [(1, .int ((65 : Int32) + ((8 : Int32) * (m2.1 78 5)))), (0, .ref (K.1 77))]) dX12_undo_36 rfl (by decide) rfl ?_
    refine ap_iconst (v := 0) dX12_undo_37 (by decide) ?_
    refine ap_istore_n (i := 2) (lv' := [(2, .int (0 : Int32)), (1, .int ((65 : Int32) + ((8 : Int32) * (m2.1 78 5)))), (0, .ref (K.1 77))]) dX12_undo_38 rfl (by decide) rfl ?_
    refine ap_sub [2, 1, 0] rfl ?_
    exact AX12_undo_L39  N _ _ _ h
  · rw [if_pos hc1] at h
    refine ap_aload_n dX12_undo_9 0 rfl rfl ?_
    obtain ⟨a3, m4, ha3, h⟩ := ob2_iff h
    refine ap_callV (k := 77) (As := []) (st := []) (st1 := [.int a3]) (mcX12_no  (Option.some.inj ha3)) cv_X12_114 rfl ly_77 ⟨rfl, rfl, by decide, by decide⟩ rfl (Nat.le_of_ble_eq_true rfl) ⟨Nat.zero_le _, Nat.zero_le _⟩ dX12_undo_10 rfl rfl ?_
    obtain ⟨rfl, rfl⟩ := Prod.mk.inj (Option.some.inj h)
    exact ap_iret rfl dX12_undo_13
theorem mcX12_undo {l : Launch} {K : Kt} {N : Nat}  {w : Mm} {zx : Int32} {zw : Mm} (h : fX12_undo N w = some (zx, zw)) : MC l K yX12_undo cX12_undo 3 (some .int) rmX12_undo w [.ref (K.1 77)] (some (.int zx)) zw :=
  MC.of (by decide) (Nat.le_of_ble_eq_true rfl) rfl (AX12_undo  h)
def fX12_plain (x0 : Int32) (x1 : Int32) : Int32 :=
if x0 ≤ x1 then (
(0 : Int32))
else (
(x0 - x1))
set_option maxRecDepth 100000 in
set_option maxHeartbeats 4000000 in
theorem AX12_plain {l : Launch} {K : Kt} {w : Mm}  {x0 : Int32} {x1 : Int32} {zx : Int32} (h : fX12_plain x0 x1 = zx) : AW l K cX12_plain RX12 2 (some .int) rmX12_plain 0 0 ap_E (ap_F K (some (.int zx)) w) w 0 [(0, .int x0), (1, .int x1)] [] := by
  unfold fX12_plain at h
  refine ap_iload_n dX12_plain_0 0 rfl rfl ?_
  refine ap_iload_n dX12_plain_1 1 rfl rfl ?_
  refine ap_icmp_le (tgt := 11) dX12_plain_2 (by decide) (fun hc1 => ?_) (fun hc1 => ?_)
  · rw [if_pos hc1] at h
    refine ap_iconst (v := 0) dX12_plain_11 (by decide) ?_
    subst h
    exact ap_iret rfl dX12_plain_12
  · rw [if_neg hc1] at h
    refine ap_iload_n dX12_plain_5 0 rfl rfl ?_
    refine ap_iload_n dX12_plain_6 1 rfl rfl ?_
    refine ap_isub dX12_plain_7 ?_
    refine ap_goto (tgt := 12) dX12_plain_8 (by decide) ?_
    subst h
    exact ap_iret rfl dX12_plain_12
theorem mcX12_plain {l : Launch} {K : Kt} {w : Mm}  {x0 : Int32} {x1 : Int32} {zx : Int32} (h : fX12_plain x0 x1 = zx) : MC l K yX12_plain cX12_plain 2 (some .int) rmX12_plain w [.int x0, .int x1] (some (.int zx)) w :=
  MC.of (by decide) (Nat.le_of_ble_eq_true rfl) rfl (AX12_plain  h)
def fX12_wick (x0 : Int32) (x1 : Int32) : Int32 :=
if x0 ≤ x1 then (
(0 : Int32))
else (
((x0 - x1) + (3 : Int32)))
set_option maxRecDepth 100000 in
set_option maxHeartbeats 4000000 in
theorem AX12_wick {l : Launch} {K : Kt} {w : Mm}  {x0 : Int32} {x1 : Int32} {zx : Int32} (h : fX12_wick x0 x1 = zx) : AW l K cX12_wick RX12 2 (some .int) rmX12_wick 0 0 ap_E (ap_F K (some (.int zx)) w) w 0 [(0, .int x0), (1, .int x1)] [] := by
  unfold fX12_wick at h
  refine ap_iload_n dX12_wick_0 0 rfl rfl ?_
  refine ap_iload_n dX12_wick_1 1 rfl rfl ?_
  refine ap_icmp_le (tgt := 13) dX12_wick_2 (by decide) (fun hc1 => ?_) (fun hc1 => ?_)
  · rw [if_pos hc1] at h
    refine ap_iconst (v := 0) dX12_wick_13 (by decide) ?_
    subst h
    exact ap_iret rfl dX12_wick_14
  · rw [if_neg hc1] at h
    refine ap_iload_n dX12_wick_5 0 rfl rfl ?_
    refine ap_iload_n dX12_wick_6 1 rfl rfl ?_
    refine ap_isub dX12_wick_7 ?_
    refine ap_iconst (v := 3) dX12_wick_8 (by decide) ?_
    refine ap_iadd dX12_wick_9 ?_
    refine ap_goto (tgt := 14) dX12_wick_10 (by decide) ?_
    subst h
    exact ap_iret rfl dX12_wick_14
theorem mcX12_wick {l : Launch} {K : Kt} {w : Mm}  {x0 : Int32} {x1 : Int32} {zx : Int32} (h : fX12_wick x0 x1 = zx) : MC l K yX12_wick cX12_wick 2 (some .int) rmX12_wick w [.int x0, .int x1] (some (.int zx)) w :=
  MC.of (by decide) (Nat.le_of_ble_eq_true rfl) rfl (AX12_wick  h)
def fX12_strength_L55 (t0 : Int32) (t1 : Int32) : Int32 :=
(fX12_plain t1 t0)
set_option maxRecDepth 100000 in
set_option maxHeartbeats 4000000 in
theorem AX12_strength_L55 {l : Launch} {K : Kt} {w : Mm}   {t0 : Int32} {t1 : Int32} {zx : Int32} (h : fX12_strength_L55 t0 t1 = zx) : AW l K cX12_strength RX12 3 (some .int) rmX12_strength 0 0 ap_E (ap_F K (some (.int zx)) w) w 55 [] [.int t0, .int t1] := by
  unfold fX12_strength_L55 at h
  refine ap_callS (As := [.int t1, .int t0]) (st := []) (st1 := [.int (fX12_plain t1 t0)]) (mcX12_plain  (w := w) (zx := fX12_plain t1 t0) rfl) cs_X12_120 ⟨rfl, rfl, by decide, by decide⟩ rfl (Nat.le_of_ble_eq_true rfl) ⟨Nat.zero_le _, Nat.zero_le _⟩ dX12_strength_55 rfl rfl ?_
  subst h
  exact ap_iret rfl dX12_strength_58
def fX12_strength_L42 (x1 : Int32) (x2 : Int32) : Int32 :=
if x2 ≤ (2 : Int32) then (
fX12_strength_L55 (0 : Int32) x1)
else (
fX12_strength_L55 (x2 - (2 : Int32)) x1)
set_option maxRecDepth 100000 in
set_option maxHeartbeats 4000000 in
theorem AX12_strength_L42 {l : Launch} {K : Kt} {w : Mm}   {x1 : Int32} {x2 : Int32} {zx : Int32} (h : fX12_strength_L42 x1 x2 = zx) : AW l K cX12_strength RX12 3 (some .int) rmX12_strength 0 0 ap_E (ap_F K (some (.int zx)) w) w 42 [(1, .int x1), (2, .int x2)] [] := by
  unfold fX12_strength_L42 at h
  refine ap_iload_n dX12_strength_42 0 rfl rfl ?_
  refine ap_iload_n dX12_strength_43 1 rfl rfl ?_
  refine ap_iconst (v := 2) dX12_strength_44 (by decide) ?_
  refine ap_icmp_le (tgt := 54) dX12_strength_45 (by decide) (fun hc7 => ?_) (fun hc7 => ?_)
  · rw [if_pos hc7] at h
    refine ap_iconst (v := 0) dX12_strength_54 (by decide) ?_
    refine ap_sub [] rfl ?_
    exact AX12_strength_L55   h
  · rw [if_neg hc7] at h
    refine ap_iload_n dX12_strength_48 1 rfl rfl ?_
    refine ap_iconst (v := 2) dX12_strength_49 (by decide) ?_
    refine ap_isub dX12_strength_50 ?_
    refine ap_goto (tgt := 55) dX12_strength_51 (by decide) ?_
    refine ap_sub [] rfl ?_
    exact AX12_strength_L55   h
def fX12_strength (x0 : Int32) (x1 : Int32) (x2 : Int32) : Int32 :=
if x0 = (1 : Int32) then (
(fX12_wick x1 x2))
else if x0 = (2 : Int32) then (
fX12_strength_L42 x1 x2)
else if x0 = (3 : Int32) then (
fX12_strength_L42 x1 x2)
else if x0 = (4 : Int32) then (
((fX12_wick x1 x2) / (2 : Int32)))
else if x0 = (5 : Int32) then (
if x1 ≤ x2 then (
(0 : Int32))
else (
(1 : Int32)))
else (
(fX12_plain x1 x2))
set_option maxRecDepth 100000 in
set_option maxHeartbeats 4000000 in
theorem AX12_strength {l : Launch} {K : Kt} {w : Mm}  {x0 : Int32} {x1 : Int32} {x2 : Int32} {zx : Int32} (h : fX12_strength x0 x1 x2 = zx) : AW l K cX12_strength RX12 3 (some .int) rmX12_strength 0 0 ap_E (ap_F K (some (.int zx)) w) w 0 [(0, .int x0), (1, .int x1), (2, .int x2)] [] := by
  unfold fX12_strength at h
  refine ap_iload_n dX12_strength_0 0 rfl rfl ?_
  by_cases hc1 : x0 = (1 : Int32)
  · rw [if_pos hc1] at h
    refine ap_tabIn (off := 35) (tgt := 36) dX12_strength_1 (by rw [hc1]; decide) (by rw [hc1]; decide) (by rw [hc1]; rfl) (by decide) ?_
    refine ap_iload_n dX12_strength_36 1 rfl rfl ?_
    refine ap_iload_n dX12_strength_37 2 rfl rfl ?_
    refine ap_callS (As := [.int x1, .int x2]) (st := []) (st1 := [.int (fX12_wick x1 x2)]) (mcX12_wick  (w := w) (zx := fX12_wick x1 x2) rfl) cs_X12_117 ⟨rfl, rfl, by decide, by decide⟩ rfl (Nat.le_of_ble_eq_true rfl) ⟨Nat.zero_le _, Nat.zero_le _⟩ dX12_strength_38 rfl rfl ?_
    subst h
    exact ap_iret rfl dX12_strength_41
  rw [if_neg hc1] at h
  by_cases hc2 : x0 = (2 : Int32)
  · rw [if_pos hc2] at h
    refine ap_tabIn (off := 41) (tgt := 42) dX12_strength_1 (by rw [hc2]; decide) (by rw [hc2]; decide) (by rw [hc2]; rfl) (by decide) ?_
    refine ap_sub [1, 2] rfl ?_
    exact AX12_strength_L42   h
  rw [if_neg hc2] at h
  by_cases hc3 : x0 = (3 : Int32)
  · rw [if_pos hc3] at h
    refine ap_tabIn (off := 41) (tgt := 42) dX12_strength_1 (by rw [hc3]; decide) (by rw [hc3]; decide) (by rw [hc3]; rfl) (by decide) ?_
    refine ap_sub [1, 2] rfl ?_
    exact AX12_strength_L42   h
  rw [if_neg hc3] at h
  by_cases hc4 : x0 = (4 : Int32)
  · rw [if_pos hc4] at h
    refine ap_tabIn (off := 58) (tgt := 59) dX12_strength_1 (by rw [hc4]; decide) (by rw [hc4]; decide) (by rw [hc4]; rfl) (by decide) ?_
    refine ap_iload_n dX12_strength_59 1 rfl rfl ?_
    refine ap_iload_n dX12_strength_60 2 rfl rfl ?_
    refine ap_callS (As := [.int x1, .int x2]) (st := []) (st1 := [.int (fX12_wick x1 x2)]) (mcX12_wick  (w := w) (zx := fX12_wick x1 x2) rfl) cs_X12_117 ⟨rfl, rfl, by decide, by decide⟩ rfl (Nat.le_of_ble_eq_true rfl) ⟨Nat.zero_le _, Nat.zero_le _⟩ dX12_strength_61 rfl rfl ?_
    refine ap_iconst (v := 2) dX12_strength_64 (by decide) ?_
    refine ap_idiv dX12_strength_65 (by decide) ?_
    subst h
    exact ap_iret rfl dX12_strength_66
  rw [if_neg hc4] at h
  by_cases hc5 : x0 = (5 : Int32)
  · rw [if_pos hc5] at h
    refine ap_tabIn (off := 66) (tgt := 67) dX12_strength_1 (by rw [hc5]; decide) (by rw [hc5]; decide) (by rw [hc5]; rfl) (by decide) ?_
    refine ap_iload_n dX12_strength_67 1 rfl rfl ?_
    refine ap_iload_n dX12_strength_68 2 rfl rfl ?_
    refine ap_icmp_le (tgt := 76) dX12_strength_69 (by decide) (fun hc6 => ?_) (fun hc6 => ?_)
    · rw [if_pos hc6] at h
      refine ap_iconst (v := 0) dX12_strength_76 (by decide) ?_
      subst h
      exact ap_iret rfl dX12_strength_77
    · rw [if_neg hc6] at h
      refine ap_iconst (v := 1) dX12_strength_72 (by decide) ?_
      refine ap_goto (tgt := 77) dX12_strength_73 (by decide) ?_
      subst h
      exact ap_iret rfl dX12_strength_77
  rw [if_neg hc5] at h
  refine ap_tabOut (tgt := 78) dX12_strength_1 (ap_out (fun z h1 h2 => by
    have h3 : z = 1 ∨ z = 2 ∨ z = 3 ∨ z = 4 ∨ z = 5 := by omega
    rcases h3 with rfl | rfl | rfl | rfl | rfl
    · exact fun e => hc1 (e.trans (by decide))
    · exact fun e => hc2 (e.trans (by decide))
    · exact fun e => hc3 (e.trans (by decide))
    · exact fun e => hc4 (e.trans (by decide))
    · exact fun e => hc5 (e.trans (by decide)))) (by decide) ?_
  refine ap_iload_n dX12_strength_78 1 rfl rfl ?_
  refine ap_iload_n dX12_strength_79 2 rfl rfl ?_
  refine ap_callS (As := [.int x1, .int x2]) (st := []) (st1 := [.int (fX12_plain x1 x2)]) (mcX12_plain  (w := w) (zx := fX12_plain x1 x2) rfl) cs_X12_120 ⟨rfl, rfl, by decide, by decide⟩ rfl (Nat.le_of_ble_eq_true rfl) ⟨Nat.zero_le _, Nat.zero_le _⟩ dX12_strength_80 rfl rfl ?_
  subst h
  exact ap_iret rfl dX12_strength_83
theorem mcX12_strength {l : Launch} {K : Kt} {w : Mm}  {x0 : Int32} {x1 : Int32} {x2 : Int32} {zx : Int32} (h : fX12_strength x0 x1 x2 = zx) : MC l K yX12_strength cX12_strength 3 (some .int) rmX12_strength w [.int x0, .int x1, .int x2] (some (.int zx)) w :=
  MC.of (by decide) (Nat.le_of_ble_eq_true rfl) rfl (AX12_strength  h)
def fX12_burnsFor (x0 : Int32) (x1 : Int32) : Int32 :=
if x0 = (1 : Int32) then (
(x1 / (2 : Int32)))
else (
if x0 = (3 : Int32) then (
((2 : Int32) * x1))
else (
if x0 = (4 : Int32) then (
((x1 / (2 : Int32)) + (2 : Int32)))
else (
if x0 = (5 : Int32) then (
(12 : Int32))
else (
x1))))
set_option maxRecDepth 100000 in
set_option maxHeartbeats 4000000 in
theorem AX12_burnsFor {l : Launch} {K : Kt} {w : Mm}  {x0 : Int32} {x1 : Int32} {zx : Int32} (h : fX12_burnsFor x0 x1 = zx) : AW l K cX12_burnsFor RX12 2 (some .int) rmX12_burnsFor 0 0 ap_E (ap_F K (some (.int zx)) w) w 0 [(0, .int x0), (1, .int x1)] [] := by
  unfold fX12_burnsFor at h
  refine ap_iload_n dX12_burnsFor_0 0 rfl rfl ?_
  refine ap_iconst (v := 1) dX12_burnsFor_1 (by decide) ?_
  refine ap_icmp_ne (tgt := 11) dX12_burnsFor_2 (by decide) (fun hc1 => ?_) (fun hc1 => ?_)
  · rw [if_neg hc1] at h
    refine ap_iload_n dX12_burnsFor_11 0 rfl rfl ?_
    refine ap_iconst (v := 3) dX12_burnsFor_12 (by decide) ?_
    refine ap_icmp_ne (tgt := 22) dX12_burnsFor_13 (by decide) (fun hc2 => ?_) (fun hc2 => ?_)
    · rw [if_neg hc2] at h
      refine ap_iload_n dX12_burnsFor_22 0 rfl rfl ?_
      refine ap_iconst (v := 4) dX12_burnsFor_23 (by decide) ?_
      refine ap_icmp_ne (tgt := 35) dX12_burnsFor_24 (by decide) (fun hc3 => ?_) (fun hc3 => ?_)
      · rw [if_neg hc3] at h
        refine ap_iload_n dX12_burnsFor_35 0 rfl rfl ?_
        refine ap_iconst (v := 5) dX12_burnsFor_36 (by decide) ?_
        refine ap_icmp_ne (tgt := 45) dX12_burnsFor_37 (by decide) (fun hc4 => ?_) (fun hc4 => ?_)
        · rw [if_neg hc4] at h
          refine ap_iload_n dX12_burnsFor_45 1 rfl rfl ?_
          subst h
          exact ap_iret rfl dX12_burnsFor_46
        · rw [if_pos hc4] at h
          refine ap_bipush (v := 12) dX12_burnsFor_40 (by decide) ?_
          refine ap_goto (tgt := 46) dX12_burnsFor_42 (by decide) ?_
          subst h
          exact ap_iret rfl dX12_burnsFor_46
      · rw [if_pos hc3] at h
        refine ap_iload_n dX12_burnsFor_27 1 rfl rfl ?_
        refine ap_iconst (v := 2) dX12_burnsFor_28 (by decide) ?_
        refine ap_idiv dX12_burnsFor_29 (by decide) ?_
        refine ap_iconst (v := 2) dX12_burnsFor_30 (by decide) ?_
        refine ap_iadd dX12_burnsFor_31 ?_
        refine ap_goto (tgt := 46) dX12_burnsFor_32 (by decide) ?_
        subst h
        exact ap_iret rfl dX12_burnsFor_46
    · rw [if_pos hc2] at h
      refine ap_iconst (v := 2) dX12_burnsFor_16 (by decide) ?_
      refine ap_iload_n dX12_burnsFor_17 1 rfl rfl ?_
      refine ap_imul dX12_burnsFor_18 ?_
      refine ap_goto (tgt := 46) dX12_burnsFor_19 (by decide) ?_
      subst h
      exact ap_iret rfl dX12_burnsFor_46
  · rw [if_pos hc1] at h
    refine ap_iload_n dX12_burnsFor_5 1 rfl rfl ?_
    refine ap_iconst (v := 2) dX12_burnsFor_6 (by decide) ?_
    refine ap_idiv dX12_burnsFor_7 (by decide) ?_
    refine ap_goto (tgt := 46) dX12_burnsFor_8 (by decide) ?_
    subst h
    exact ap_iret rfl dX12_burnsFor_46
theorem mcX12_burnsFor {l : Launch} {K : Kt} {w : Mm}  {x0 : Int32} {x1 : Int32} {zx : Int32} (h : fX12_burnsFor x0 x1 = zx) : MC l K yX12_burnsFor cX12_burnsFor 2 (some .int) rmX12_burnsFor w [.int x0, .int x1] (some (.int zx)) w :=
  MC.of (by decide) (Nat.le_of_ble_eq_true rfl) rfl (AX12_burnsFor  h)
def fX12_apart (x0 : Int32) (x1 : Int32) : Int32 :=
if x0 ≤ x1 then (
(x1 - x0))
else (
(x0 - x1))
set_option maxRecDepth 100000 in
set_option maxHeartbeats 4000000 in
theorem AX12_apart {l : Launch} {K : Kt} {w : Mm}  {x0 : Int32} {x1 : Int32} {zx : Int32} (h : fX12_apart x0 x1 = zx) : AW l K cX12_apart RX12 2 (some .int) rmX12_apart 0 0 ap_E (ap_F K (some (.int zx)) w) w 0 [(0, .int x0), (1, .int x1)] [] := by
  unfold fX12_apart at h
  refine ap_iload_n dX12_apart_0 0 rfl rfl ?_
  refine ap_iload_n dX12_apart_1 1 rfl rfl ?_
  refine ap_icmp_le (tgt := 11) dX12_apart_2 (by decide) (fun hc1 => ?_) (fun hc1 => ?_)
  · rw [if_pos hc1] at h
    refine ap_iload_n dX12_apart_11 1 rfl rfl ?_
    refine ap_iload_n dX12_apart_12 0 rfl rfl ?_
    refine ap_isub dX12_apart_13 ?_
    subst h
    exact ap_iret rfl dX12_apart_14
  · rw [if_neg hc1] at h
    refine ap_iload_n dX12_apart_5 0 rfl rfl ?_
    refine ap_iload_n dX12_apart_6 1 rfl rfl ?_
    refine ap_isub dX12_apart_7 ?_
    refine ap_goto (tgt := 14) dX12_apart_8 (by decide) ?_
    subst h
    exact ap_iret rfl dX12_apart_14
theorem mcX12_apart {l : Launch} {K : Kt} {w : Mm}  {x0 : Int32} {x1 : Int32} {zx : Int32} (h : fX12_apart x0 x1 = zx) : MC l K yX12_apart cX12_apart 2 (some .int) rmX12_apart w [.int x0, .int x1] (some (.int zx)) w :=
  MC.of (by decide) (Nat.le_of_ble_eq_true rfl) rfl (AX12_apart  h)
def fX12_far (x0 : Int32) (x1 : Int32) : Int32 :=
((fX12_apart (x0 - x0 / (8 : Int32) * (8 : Int32)) (x1 - x1 / (8 : Int32) * (8 : Int32))) + (fX12_apart (x0 / (8 : Int32)) (x1 / (8 : Int32))))
set_option maxRecDepth 100000 in
set_option maxHeartbeats 4000000 in
theorem AX12_far {l : Launch} {K : Kt} {w : Mm}  {x0 : Int32} {x1 : Int32} {zx : Int32} (h : fX12_far x0 x1 = zx) : AW l K cX12_far RX12 2 (some .int) rmX12_far 0 0 ap_E (ap_F K (some (.int zx)) w) w 0 [(0, .int x0), (1, .int x1)] [] := by
  unfold fX12_far at h
  refine ap_iload_n dX12_far_0 0 rfl rfl ?_
  refine ap_bipush (v := 8) dX12_far_1 (by decide) ?_
  refine ap_irem dX12_far_3 (by decide) ?_
  refine ap_iload_n dX12_far_4 1 rfl rfl ?_
  refine ap_bipush (v := 8) dX12_far_5 (by decide) ?_
  refine ap_irem dX12_far_7 (by decide) ?_
  refine ap_callS (As := [.int (x0 - x0 / (8 : Int32) * (8 : Int32)), .int (x1 - x1 / (8 : Int32) * (8 : Int32))]) (st := []) (st1 := [.int (fX12_apart (x0 - x0 / (8 : Int32) * (8 : Int32)) (x1 - x1 / (8 : Int32) * (8 : Int32)))]) (mcX12_apart  (w := w) (zx := fX12_apart (x0 - x0 / (8 : Int32) * (8 : Int32)) (x1 - x1 / (8 : Int32) * (8 : Int32))) rfl) cs_X12_123 ⟨rfl, rfl, by decide, by decide⟩ rfl (Nat.le_of_ble_eq_true rfl) ⟨Nat.zero_le _, Nat.zero_le _⟩ dX12_far_8 rfl rfl ?_
  refine ap_iload_n dX12_far_11 0 rfl rfl ?_
  refine ap_bipush (v := 8) dX12_far_12 (by decide) ?_
  refine ap_idiv dX12_far_14 (by decide) ?_
  refine ap_iload_n dX12_far_15 1 rfl rfl ?_
  refine ap_bipush (v := 8) dX12_far_16 (by decide) ?_
  refine ap_idiv dX12_far_18 (by decide) ?_
  refine ap_callS (As := [.int (x0 / (8 : Int32)), .int (x1 / (8 : Int32))]) (st := [.int (fX12_apart (x0 - x0 / (8 : Int32) * (8 : Int32)) (x1 - x1 / (8 : Int32) * (8 : Int32)))]) (st1 := [.int (fX12_apart (x0 / (8 : Int32)) (x1 / (8 : Int32))), .int (fX12_apart (x0 - x0 / (8 : Int32) * (8 : Int32)) (x1 - x1 / (8 : Int32) * (8 : Int32)))]) (mcX12_apart  (w := w) (zx := fX12_apart (x0 / (8 : Int32)) (x1 / (8 : Int32))) rfl) cs_X12_123 ⟨rfl, rfl, by decide, by decide⟩ rfl (Nat.le_of_ble_eq_true rfl) ⟨Nat.zero_le _, Nat.zero_le _⟩ dX12_far_19 rfl rfl ?_
  refine ap_iadd dX12_far_22 ?_
  subst h
  exact ap_iret rfl dX12_far_23
theorem mcX12_far {l : Launch} {K : Kt} {w : Mm}  {x0 : Int32} {x1 : Int32} {zx : Int32} (h : fX12_far x0 x1 = zx) : MC l K yX12_far cX12_far 2 (some .int) rmX12_far w [.int x0, .int x1] (some (.int zx)) w :=
  MC.of (by decide) (Nat.le_of_ble_eq_true rfl) rfl (AX12_far  h)
def fX12_layHand_L12 (N : Nat) : Nat → Mm → Int32 → Option Mm
  | 0, _, _ => none
  | n0 + 1, w, x1 => if (fX12_candles w) ≤ x1 then (
some w)
else (
Option.bind (fX12_get w x1 (1 : Int32)) fun a3 =>
Option.bind (wrA w 82 7 x1 a3) fun m4 =>
Option.bind (fX12_get m4 x1 (3 : Int32)) fun a5 =>
Option.bind (wrA m4 83 7 x1 a5) fun m6 =>
(fX12_layHand_L12 N n0) m6 (x1 + 1))
set_option maxRecDepth 100000 in
set_option maxHeartbeats 4000000 in
theorem AX12_layHand_L12 {l : Launch} {K : Kt} {N : Nat}   : ∀ (n0 : Nat) (w : Mm) (x1 : Int32) {zw : Mm}, fX12_layHand_L12 N n0 w x1 = some zw → AW l K cX12_layHand RX12 2 none rmX12_layHand 0 0 ap_E (ap_F K none zw) w 12 [(0, .ref (K.1 77)), (1, .int x1)] [] := by
  intro n0
  induction n0 with
  | zero =>
    intro w x1 zw h
    cases h
  | succ n0 ih =>
    intro w x1 zw h
    rw [fX12_layHand_L12] at h
    refine ap_iload_n dX12_layHand_12 1 rfl rfl ?_
    refine ap_aload_n dX12_layHand_13 0 rfl rfl ?_
    refine ap_callV (k := 77) (As := []) (st := [.int x1]) (st1 := [.int (fX12_candles w), .int x1]) (mcX12_candles  (w := w) (zx := fX12_candles w) rfl) cv_X12_57 rfl ly_77 ⟨rfl, rfl, by decide, by decide⟩ rfl (Nat.le_of_ble_eq_true rfl) ⟨Nat.zero_le _, Nat.zero_le _⟩ dX12_layHand_14 rfl rfl ?_
    refine ap_icmp_ge (tgt := 50) dX12_layHand_17 (by decide) (fun hc2 => ?_) (fun hc2 => ?_)
    · rw [if_pos hc2] at h
      obtain rfl := Option.some.inj h
      exact ap_vret rfl dX12_layHand_50
    · rw [if_neg hc2] at h
      refine ap_aload_n dX12_layHand_20 0 rfl rfl ?_
      refine ap_get (v := .ref (K.1 82)) fl_X12_27 ly_77 rfl rfl dX12_layHand_21 ?_
      refine ap_iload_n dX12_layHand_24 1 rfl rfl ?_
      refine ap_aload_n dX12_layHand_25 0 rfl rfl ?_
      refine ap_iload_n dX12_layHand_26 1 rfl rfl ?_
      refine ap_iconst (v := 1) dX12_layHand_27 (by decide) ?_
      obtain ⟨a3, ha3, h⟩ := Option.bind_eq_some_iff.mp h
      refine ap_callV (k := 77) (As := [.int x1, .int (1 : Int32)]) (st := [.int x1, .ref (K.1 82)]) (st1 := [.int a3, .int x1, .ref (K.1 82)]) (mcX12_get  (w := w) ha3) cv_X12_104 rfl ly_77 ⟨rfl, rfl, by decide, by decide⟩ rfl (Nat.le_of_ble_eq_true rfl) ⟨Nat.zero_le _, Nat.zero_le _⟩ dX12_layHand_28 rfl rfl ?_
      obtain ⟨m4, hm4, h⟩ := Option.bind_eq_some_iff.mp h
      refine ap_iast ly_82 hm4 dX12_layHand_31 ?_
      refine ap_aload_n dX12_layHand_32 0 rfl rfl ?_
      refine ap_get (v := .ref (K.1 83)) fl_X12_30 ly_77 rfl rfl dX12_layHand_33 ?_
      refine ap_iload_n dX12_layHand_36 1 rfl rfl ?_
      refine ap_aload_n dX12_layHand_37 0 rfl rfl ?_
      refine ap_iload_n dX12_layHand_38 1 rfl rfl ?_
      refine ap_iconst (v := 3) dX12_layHand_39 (by decide) ?_
      obtain ⟨a5, ha5, h⟩ := Option.bind_eq_some_iff.mp h
      refine ap_callV (k := 77) (As := [.int x1, .int (3 : Int32)]) (st := [.int x1, .ref (K.1 83)]) (st1 := [.int a5, .int x1, .ref (K.1 83)]) (mcX12_get  (w := m4) ha5) cv_X12_104 rfl ly_77 ⟨rfl, rfl, by decide, by decide⟩ rfl (Nat.le_of_ble_eq_true rfl) ⟨Nat.zero_le _, Nat.zero_le _⟩ dX12_layHand_40 rfl rfl ?_
      obtain ⟨m6, hm6, h⟩ := Option.bind_eq_some_iff.mp h
      refine ap_iast ly_83 hm6 dX12_layHand_43 ?_
      refine ap_iinc (v := x1 + 1) (lv' := [(1, .int (x1 + 1)), (0, .ref (K.1 77))]) dX12_layHand_44 1 rfl rfl (by decide) rfl ?_
      refine ap_goto (tgt := 12) dX12_layHand_47 (by decide) ?_
      refine ap_sub [1, 0] rfl ?_
      exact ih _ _ h
def fX12_layHand (N : Nat) (w : Mm) : Option Mm :=
Option.bind (some (sI w 77 6 (w.1 78 2))) fun m1 =>
fX12_layHand_L12 N N m1 (0 : Int32)
set_option maxRecDepth 100000 in
set_option maxHeartbeats 4000000 in
theorem AX12_layHand {l : Launch} {K : Kt} {N : Nat}  {w : Mm} {zw : Mm} (h : fX12_layHand N w = some zw) : AW l K cX12_layHand RX12 2 none rmX12_layHand 0 0 ap_E (ap_F K none zw) w 0 [(0, .ref (K.1 77))] [] := by
  unfold fX12_layHand at h
  refine ap_aload_n dX12_layHand_0 0 rfl rfl ?_
  refine ap_aload_n dX12_layHand_1 0 rfl rfl ?_
  refine ap_get (v := .ref (K.1 78)) fl_X12_7 ly_77 rfl rfl dX12_layHand_2 ?_
  refine ap_iconst (v := 2) dX12_layHand_5 (by decide) ?_
  refine ap_iald (x := (w.1 78 2)) ly_78 (rdA_c (by decide) (by decide)) dX12_layHand_6 ?_
  obtain ⟨m1, hm1, h⟩ := Option.bind_eq_some_iff.mp h
  refine ap_putI fp_X12_126 ly_77 rfl (Option.some.inj hm1) dX12_layHand_7 ?_
  refine ap_iconst (v := 0) dX12_layHand_10 (by decide) ?_
  refine ap_istore_n (i := 1) (lv' := [(1, .int (0 : Int32)), (0, .ref (K.1 77))]) dX12_layHand_11 rfl (by decide) rfl ?_
  refine ap_sub [1, 0] rfl ?_
  exact AX12_layHand_L12  N _ _ h
theorem mcX12_layHand {l : Launch} {K : Kt} {N : Nat}  {w : Mm} {zw : Mm} (h : fX12_layHand N w = some zw) : MC l K yX12_layHand cX12_layHand 2 none rmX12_layHand w [.ref (K.1 77)] none zw :=
  MC.of (by decide) (Nat.le_of_ble_eq_true rfl) rfl (AX12_layHand  h)
def fX12_lightOf_L87 (w : Mm) : Option Int32 :=
some (0 : Int32)
set_option maxRecDepth 100000 in
set_option maxHeartbeats 4000000 in
theorem AX12_lightOf_L87 {l : Launch} {K : Kt} {w : Mm}   {zx : Int32} (h : fX12_lightOf_L87 w = some zx) : AW l K cX12_lightOf RX12 7 (some .int) rmX12_lightOf 0 0 ap_E (ap_F K (some (.int zx)) w) w 87 [] [] := by
  unfold fX12_lightOf_L87 at h
  refine ap_iconst (v := 0) dX12_lightOf_87 (by decide) ?_
  obtain rfl := Option.some.inj h
  exact ap_iret rfl dX12_lightOf_88
def fX12_lightOf_L72 (w : Mm) (x5 : Int32) (x6 : Int32) : Option Int32 :=
if x5 = (0 : Int32) then (
fX12_lightOf_L87 w)
else (
if x6 ≤ (0 : Int32) then (
fX12_lightOf_L87 w)
else (
some x6))
set_option maxRecDepth 100000 in
set_option maxHeartbeats 4000000 in
theorem AX12_lightOf_L72 {l : Launch} {K : Kt} {w : Mm}   {x5 : Int32} {x6 : Int32} {zx : Int32} (h : fX12_lightOf_L72 w x5 x6 = some zx) : AW l K cX12_lightOf RX12 7 (some .int) rmX12_lightOf 0 0 ap_E (ap_F K (some (.int zx)) w) w 72 [(5, .int x5), (6, .int x6)] [] := by
  unfold fX12_lightOf_L72 at h
  refine ap_iload dX12_lightOf_72 0 rfl ?_
  refine ap_if_eq (tgt := 87) dX12_lightOf_74 (by decide) (fun hc7 => ?_) (fun hc7 => ?_)
  · rw [if_pos hc7] at h
    refine ap_sub [] rfl ?_
    exact AX12_lightOf_L87   h
  · rw [if_neg hc7] at h
    refine ap_iload dX12_lightOf_77 1 rfl ?_
    refine ap_if_le (tgt := 87) dX12_lightOf_79 (by decide) (fun hc8 => ?_) (fun hc8 => ?_)
    · rw [if_pos hc8] at h
      refine ap_sub [] rfl ?_
      exact AX12_lightOf_L87   h
    · rw [if_neg hc8] at h
      refine ap_iload dX12_lightOf_82 1 rfl ?_
      refine ap_goto (tgt := 88) dX12_lightOf_84 (by decide) ?_
      obtain rfl := Option.some.inj h
      exact ap_iret rfl dX12_lightOf_88
def fX12_lightOf_L40 (w : Mm) (x1 : Int32) (x2 : Int32) (x4 : Int32) (t0 : Int32) : Option Int32 :=
Option.bind (fX12_get w x1 (2 : Int32)) fun a5 =>
Option.bind (rdA w 82 7 x1) fun a6 =>
fX12_lightOf_L72 w t0 ((fX12_strength x4 a5 (fX12_far a6 x2)) - (w.1 78 1))
set_option maxRecDepth 100000 in
set_option maxHeartbeats 4000000 in
theorem AX12_lightOf_L40 {l : Launch} {K : Kt} {w : Mm}   {x1 : Int32} {x2 : Int32} {x4 : Int32} {t0 : Int32} {zx : Int32} (h : fX12_lightOf_L40 w x1 x2 x4 t0 = some zx) : AW l K cX12_lightOf RX12 7 (some .int) rmX12_lightOf 0 0 ap_E (ap_F K (some (.int zx)) w) w 40 [(0, .ref (K.1 77)), (1, .int x1), (2, .int x2), (4, .int x4)] [.int t0] := by
  unfold fX12_lightOf_L40 at h
  refine ap_istore (i := 5) (lv' := [(5, .int t0), (0, .ref (K.1 77)), (1, .int x1), (2, .int x2), (4, .int x4)]) dX12_lightOf_40 (by decide) rfl ?_
  refine ap_iload dX12_lightOf_42 4 rfl ?_
  refine ap_aload_n dX12_lightOf_44 1 rfl rfl ?_
  refine ap_iload_n dX12_lightOf_45 2 rfl rfl ?_
  refine ap_iconst (v := 2) dX12_lightOf_46 (by decide) ?_
  obtain ⟨a5, ha5, h⟩ := Option.bind_eq_some_iff.mp h
  refine ap_callV (k := 77) (As := [.int x1, .int (2 : Int32)]) (st := [.int x4]) (st1 := [.int a5, .int x4]) (mcX12_get  (w := w) ha5) cv_X12_104 rfl ly_77 ⟨rfl, rfl, by decide, by decide⟩ rfl (Nat.le_of_ble_eq_true rfl) ⟨Nat.zero_le _, Nat.zero_le _⟩ dX12_lightOf_47 rfl rfl ?_
  refine ap_aload_n dX12_lightOf_50 1 rfl rfl ?_
  refine ap_get (v := .ref (K.1 82)) fl_X12_27 ly_77 rfl rfl dX12_lightOf_51 ?_
  refine ap_iload_n dX12_lightOf_54 2 rfl rfl ?_
  obtain ⟨a6, ha6, h⟩ := Option.bind_eq_some_iff.mp h
  refine ap_iald ly_82 ha6 dX12_lightOf_55 ?_
  refine ap_iload_n dX12_lightOf_56 3 rfl rfl ?_
  refine ap_callS (As := [.int a6, .int x2]) (st := [.int a5, .int x4]) (st1 := [.int (fX12_far a6 x2), .int a5, .int x4]) (mcX12_far  (w := w) (zx := fX12_far a6 x2) rfl) cs_X12_133 ⟨rfl, rfl, by decide, by decide⟩ rfl (Nat.le_of_ble_eq_true rfl) ⟨Nat.zero_le _, Nat.zero_le _⟩ dX12_lightOf_57 rfl rfl ?_
  refine ap_callS (As := [.int x4, .int a5, .int (fX12_far a6 x2)]) (st := []) (st1 := [.int (fX12_strength x4 a5 (fX12_far a6 x2))]) (mcX12_strength  (w := w) (zx := fX12_strength x4 a5 (fX12_far a6 x2)) rfl) cs_X12_136 ⟨rfl, rfl, by decide, by decide⟩ rfl (Nat.le_of_ble_eq_true rfl) ⟨Nat.zero_le _, Nat.zero_le _⟩ dX12_lightOf_60 rfl rfl ?_
  refine ap_aload_n dX12_lightOf_63 1 rfl rfl ?_
  refine ap_get (v := .ref (K.1 78)) fl_X12_7 ly_77 rfl rfl dX12_lightOf_64 ?_
  refine ap_iconst (v := 1) dX12_lightOf_67 (by decide) ?_
  refine ap_iald (x := (w.1 78 1)) ly_78 (rdA_c (by decide) (by decide)) dX12_lightOf_68 ?_
  refine ap_isub dX12_lightOf_69 ?_
  refine ap_istore (i := 6) (lv' := [(6, .int ((fX12_strength x4 a5 (fX12_far a6 x2)) - (w.1 78 1))), (5, .int t0), (0, .ref (K.1 77)), (1, .int x1), (2, .int x2), (4, .int x4)]) dX12_lightOf_70 (by decide) rfl ?_
  refine ap_sub [1, 0] rfl ?_
  exact AX12_lightOf_L72   h
def fX12_lightOf_L39 (w : Mm) (x1 : Int32) (x2 : Int32) (x4 : Int32) : Option Int32 :=
fX12_lightOf_L40 w x1 x2 x4 (0 : Int32)
set_option maxRecDepth 100000 in
set_option maxHeartbeats 4000000 in
theorem AX12_lightOf_L39 {l : Launch} {K : Kt} {w : Mm}   {x1 : Int32} {x2 : Int32} {x4 : Int32} {zx : Int32} (h : fX12_lightOf_L39 w x1 x2 x4 = some zx) : AW l K cX12_lightOf RX12 7 (some .int) rmX12_lightOf 0 0 ap_E (ap_F K (some (.int zx)) w) w 39 [(0, .ref (K.1 77)), (1, .int x1), (2, .int x2), (4, .int x4)] [] := by
  unfold fX12_lightOf_L39 at h
  refine ap_iconst (v := 0) dX12_lightOf_39 (by decide) ?_
  exact AX12_lightOf_L40   h
def fX12_lightOf (w : Mm) (x1 : Int32) (x2 : Int32) (x3 : Int32) : Option Int32 :=
Option.bind (fX12_get w x1 (0 : Int32)) fun a1 =>
if (((w.1 77 6) >>> (x1 &&& 31)) &&& (1 : Int32)) = (1 : Int32) then (
Option.bind (fX12_get w x1 (4 : Int32)) fun a3 =>
if (fX12_burnsFor a1 a3) ≤ x3 then (
fX12_lightOf_L39 w x1 x2 a1)
else (
fX12_lightOf_L40 w x1 x2 a1 (1 : Int32)))
else (
fX12_lightOf_L39 w x1 x2 a1)
set_option maxRecDepth 100000 in
set_option maxHeartbeats 4000000 in
theorem AX12_lightOf {l : Launch} {K : Kt} {w : Mm}  {x1 : Int32} {x2 : Int32} {x3 : Int32} {zx : Int32} (h : fX12_lightOf w x1 x2 x3 = some zx) : AW l K cX12_lightOf RX12 7 (some .int) rmX12_lightOf 0 0 ap_E (ap_F K (some (.int zx)) w) w 0 [(0, .ref (K.1 77)), (1, .int x1), (2, .int x2), (3, .int x3)] [] := by
  unfold fX12_lightOf at h
  refine ap_aload_n dX12_lightOf_0 0 rfl rfl ?_
  refine ap_iload_n dX12_lightOf_1 1 rfl rfl ?_
  refine ap_iconst (v := 0) dX12_lightOf_2 (by decide) ?_
  obtain ⟨a1, ha1, h⟩ := Option.bind_eq_some_iff.mp h
  refine ap_callV (k := 77) (As := [.int x1, .int (0 : Int32)]) (st := []) (st1 := [.int a1]) (mcX12_get  (w := w) ha1) cv_X12_104 rfl ly_77 ⟨rfl, rfl, by decide, by decide⟩ rfl (Nat.le_of_ble_eq_true rfl) ⟨Nat.zero_le _, Nat.zero_le _⟩ dX12_lightOf_3 rfl rfl ?_
  refine ap_istore (i := 4) (lv' := [(4, .int a1), (0, .ref (K.1 77)), (1, .int x1), (2, .int x2), (3, .int x3)]) dX12_lightOf_6 (by decide) rfl ?_
  refine ap_aload_n dX12_lightOf_8 1 rfl rfl ?_
  refine ap_get (v := .int (w.1 77 6)) fl_X12_126 ly_77 rfl rfl dX12_lightOf_9 ?_
  refine ap_iload_n dX12_lightOf_12 2 rfl rfl ?_
  refine ap_ishr dX12_lightOf_13 ?_
  refine ap_iconst (v := 1) dX12_lightOf_14 (by decide) ?_
  refine ap_iand dX12_lightOf_15 ?_
  refine ap_iconst (v := 1) dX12_lightOf_16 (by decide) ?_
  refine ap_icmp_ne (tgt := 39) dX12_lightOf_17 (by decide) (fun hc2 => ?_) (fun hc2 => ?_)
  · rw [if_neg hc2] at h
    refine ap_sub [1, 2, 3, 0] rfl ?_
    exact AX12_lightOf_L39   h
  · rw [if_pos hc2] at h
    refine ap_iload_n dX12_lightOf_20 4 rfl rfl ?_
    refine ap_iload dX12_lightOf_21 0 rfl ?_
    refine ap_aload_n dX12_lightOf_23 1 rfl rfl ?_
    refine ap_iload_n dX12_lightOf_24 2 rfl rfl ?_
    refine ap_iconst (v := 4) dX12_lightOf_25 (by decide) ?_
    obtain ⟨a3, ha3, h⟩ := Option.bind_eq_some_iff.mp h
    refine ap_callV (k := 77) (As := [.int x1, .int (4 : Int32)]) (st := [.int a1, .int x3]) (st1 := [.int a3, .int a1, .int x3]) (mcX12_get  (w := w) ha3) cv_X12_104 rfl ly_77 ⟨rfl, rfl, by decide, by decide⟩ rfl (Nat.le_of_ble_eq_true rfl) ⟨Nat.zero_le _, Nat.zero_le _⟩ dX12_lightOf_26 rfl rfl ?_
    refine ap_callS (As := [.int a1, .int a3]) (st := [.int x3]) (st1 := [.int (fX12_burnsFor a1 a3), .int x3]) (mcX12_burnsFor  (w := w) (zx := fX12_burnsFor a1 a3) rfl) cs_X12_130 ⟨rfl, rfl, by decide, by decide⟩ rfl (Nat.le_of_ble_eq_true rfl) ⟨Nat.zero_le _, Nat.zero_le _⟩ dX12_lightOf_29 rfl rfl ?_
    refine ap_icmp_ge (tgt := 39) dX12_lightOf_32 (by decide) (fun hc4 => ?_) (fun hc4 => ?_)
    · rw [if_pos hc4] at h
      refine ap_sub [1, 2, 3, 0] rfl ?_
      exact AX12_lightOf_L39   h
    · rw [if_neg hc4] at h
      refine ap_iconst (v := 1) dX12_lightOf_35 (by decide) ?_
      refine ap_goto (tgt := 40) dX12_lightOf_36 (by decide) ?_
      refine ap_sub [1, 2, 3, 0] rfl ?_
      exact AX12_lightOf_L40   h
theorem mcX12_lightOf {l : Launch} {K : Kt} {w : Mm}  {x1 : Int32} {x2 : Int32} {x3 : Int32} {zx : Int32} (h : fX12_lightOf w x1 x2 x3 = some zx) : MC l K yX12_lightOf cX12_lightOf 7 (some .int) rmX12_lightOf w [.ref (K.1 77), .int x1, .int x2, .int x3] (some (.int zx)) w :=
  MC.of (by decide) (Nat.le_of_ble_eq_true rfl) rfl (AX12_lightOf  h)
def fX12_lightIn_L5 (N : Nat) (w : Mm) : Nat → Int32 → Int32 → Int32 → Int32 → Option Int32
  | 0, _, _, _, _ => none
  | n0 + 1, x1, x2, x3, x4 => if (fX12_candles w) ≤ x4 then (
some x3)
else (
Option.bind (fX12_lightOf w x4 x1 x2) fun a2 =>
if a2 ≤ x3 then (
(fX12_lightIn_L5 N w n0) x1 x2 x3 (x4 + 1))
else (
(fX12_lightIn_L5 N w n0) x1 x2 a2 (x4 + 1)))
set_option maxRecDepth 100000 in
set_option maxHeartbeats 4000000 in
theorem AX12_lightIn_L5 {l : Launch} {K : Kt} {N : Nat} {w : Mm}   : ∀ (n0 : Nat) (x1 : Int32) (x2 : Int32) (x3 : Int32) (x4 : Int32) {zx : Int32}, fX12_lightIn_L5 N w n0 x1 x2 x3 x4 = some zx → AW l K cX12_lightIn RX12 6 (some .int) rmX12_lightIn 0 0 ap_E (ap_F K (some (.int zx)) w) w 5 [(0, .ref (K.1 77)), (1, .int x1), (2, .int x2), (3, .int x3), (4, .int x4)] [] := by
  intro n0
  induction n0 with
  | zero =>
    intro x1 x2 x3 x4 zx h
    cases h
  | succ n0 ih =>
    intro x1 x2 x3 x4 zx h
    rw [fX12_lightIn_L5] at h
    refine ap_iload dX12_lightIn_5 4 rfl ?_
    refine ap_aload_n dX12_lightIn_7 0 rfl rfl ?_
    refine ap_callV (k := 77) (As := []) (st := [.int x4]) (st1 := [.int (fX12_candles w), .int x4]) (mcX12_candles  (w := w) (zx := fX12_candles w) rfl) cv_X12_57 rfl ly_77 ⟨rfl, rfl, by decide, by decide⟩ rfl (Nat.le_of_ble_eq_true rfl) ⟨Nat.zero_le _, Nat.zero_le _⟩ dX12_lightIn_8 rfl rfl ?_
    refine ap_icmp_ge (tgt := 43) dX12_lightIn_11 (by decide) (fun hc1 => ?_) (fun hc1 => ?_)
    · rw [if_pos hc1] at h
      refine ap_iload_n dX12_lightIn_43 3 rfl rfl ?_
      obtain rfl := Option.some.inj h
      exact ap_iret rfl dX12_lightIn_44
    · rw [if_neg hc1] at h
      refine ap_aload_n dX12_lightIn_14 0 rfl rfl ?_
      refine ap_iload dX12_lightIn_15 4 rfl ?_
      refine ap_iload_n dX12_lightIn_17 1 rfl rfl ?_
      refine ap_iload_n dX12_lightIn_18 2 rfl rfl ?_
      obtain ⟨a2, ha2, h⟩ := Option.bind_eq_some_iff.mp h
      refine ap_callV (k := 77) (As := [.int x4, .int x1, .int x2]) (st := []) (st1 := [.int a2]) (mcX12_lightOf  (w := w) ha2) cv_X12_140 rfl ly_77 ⟨rfl, rfl, by decide, by decide⟩ rfl (Nat.le_of_ble_eq_true rfl) ⟨Nat.zero_le _, Nat.zero_le _⟩ dX12_lightIn_19 rfl rfl ?_
      refine ap_istore (i := 5) (lv' := [(5, .int a2), (0, .ref (K.1 77)), (1, .int x1), (2, .int x2), (3, .int x3), (4, .int x4)]) dX12_lightIn_22 (by decide) rfl ?_
      refine ap_iload dX12_lightIn_24 0 rfl ?_
      refine ap_iload_n dX12_lightIn_26 4 rfl rfl ?_
      refine ap_icmp_le (tgt := 35) dX12_lightIn_27 (by decide) (fun hc3 => ?_) (fun hc3 => ?_)
      · rw [if_pos hc3] at h
        refine ap_iload_n dX12_lightIn_35 4 rfl rfl ?_
        refine ap_istore_n (i := 3) (lv' := [(3, .int x3), (5, .int a2), (0, .ref (K.1 77)), (1, .int x1), (2, .int x2), (4, .int x4)]) dX12_lightIn_36 rfl (by decide) rfl ?_
        refine ap_iinc (v := x4 + 1) (lv' := [(4, .int (x4 + 1)), (3, .int x3), (5, .int a2), (0, .ref (K.1 77)), (1, .int x1), (2, .int x2)]) dX12_lightIn_37 5 rfl rfl (by decide) rfl ?_
        refine ap_goto (tgt := 5) dX12_lightIn_40 (by decide) ?_
        refine ap_sub [3, 4, 5, 1, 0] rfl ?_
        exact ih _ _ _ _ h
      · rw [if_neg hc3] at h
        refine ap_iload dX12_lightIn_30 0 rfl ?_
        refine ap_goto (tgt := 36) dX12_lightIn_32 (by decide) ?_
        refine ap_istore_n (i := 3) (lv' := [(3, .int a2), (5, .int a2), (0, .ref (K.1 77)), (1, .int x1), (2, .int x2), (4, .int x4)]) dX12_lightIn_36 rfl (by decide) rfl ?_
        refine ap_iinc (v := x4 + 1) (lv' := [(4, .int (x4 + 1)), (3, .int a2), (5, .int a2), (0, .ref (K.1 77)), (1, .int x1), (2, .int x2)]) dX12_lightIn_37 5 rfl rfl (by decide) rfl ?_
        refine ap_goto (tgt := 5) dX12_lightIn_40 (by decide) ?_
        refine ap_sub [3, 4, 5, 1, 0] rfl ?_
        exact ih _ _ _ _ h
def fX12_lightIn (N : Nat) (w : Mm) (x1 : Int32) (x2 : Int32) : Option Int32 :=
fX12_lightIn_L5 N w N x1 x2 (0 : Int32) (0 : Int32)
set_option maxRecDepth 100000 in
set_option maxHeartbeats 4000000 in
theorem AX12_lightIn {l : Launch} {K : Kt} {N : Nat} {w : Mm}  {x1 : Int32} {x2 : Int32} {zx : Int32} (h : fX12_lightIn N w x1 x2 = some zx) : AW l K cX12_lightIn RX12 6 (some .int) rmX12_lightIn 0 0 ap_E (ap_F K (some (.int zx)) w) w 0 [(0, .ref (K.1 77)), (1, .int x1), (2, .int x2)] [] := by
  unfold fX12_lightIn at h
  refine ap_iconst (v := 0) dX12_lightIn_0 (by decide) ?_
  refine ap_istore_n (i := 3) (lv' := [(3, .int (0 : Int32)), (0, .ref (K.1 77)), (1, .int x1), (2, .int x2)]) dX12_lightIn_1 rfl (by decide) rfl ?_
  refine ap_iconst (v := 0) dX12_lightIn_2 (by decide) ?_
  refine ap_istore (i := 4) (lv' := [(4, .int (0 : Int32)), (3, .int (0 : Int32)), (0, .ref (K.1 77)), (1, .int x1), (2, .int x2)]) dX12_lightIn_3 (by decide) rfl ?_
  refine ap_sub [2, 3, 4, 1, 0] rfl ?_
  exact AX12_lightIn_L5  N _ _ _ _ h
theorem mcX12_lightIn {l : Launch} {K : Kt} {N : Nat} {w : Mm}  {x1 : Int32} {x2 : Int32} {zx : Int32} (h : fX12_lightIn N w x1 x2 = some zx) : MC l K yX12_lightIn cX12_lightIn 6 (some .int) rmX12_lightIn w [.ref (K.1 77), .int x1, .int x2] (some (.int zx)) w :=
  MC.of (by decide) (Nat.le_of_ble_eq_true rfl) rfl (AX12_lightIn  h)
def fX12_whose_L43 (N : Nat) (k13 : Int32 → Int32 → Int32 → Int32 → Int32 → Option Int32) (w : Mm) (x1 : Int32) (x2 : Int32) (x3 : Int32) (x4 : Int32) (x5 : Int32) (t0 : Int32) : Option Int32 :=
if t0 = (0 : Int32) then (
k13 x1 x2 x3 x4 (x5 + 1))
else (
Option.bind (rdA w 83 7 x5) fun a7 =>
if x4 = a7 then (
k13 x1 x2 x3 x4 (x5 + 1))
else (
if x4 = (-1 : Int32) then (
Option.bind (rdA w 83 7 x5) fun a10 =>
k13 x1 x2 x3 a10 (x5 + 1))
else (
k13 x1 x2 x3 (-2 : Int32) (x5 + 1))))
set_option maxRecDepth 100000 in
set_option maxHeartbeats 4000000 in
theorem AX12_whose_L43 {l : Launch} {K : Kt} {N : Nat} {w : Mm} {k13 : Int32 → Int32 → Int32 → Int32 → Int32 → Option Int32} (hk13 : ∀ (x1 : Int32) (x2 : Int32) (x3 : Int32) (x4 : Int32) (x5 : Int32) (zx : Int32), k13 x1 x2 x3 x4 x5 = some zx → AW l K cX12_whose RX12 7 (some .int) rmX12_whose 0 0 ap_E (ap_F K (some (.int zx)) w) w 13 [(0, .ref (K.1 77)), (1, .int x1), (2, .int x2), (3, .int x3), (4, .int x4), (5, .int x5)] [])  {x1 : Int32} {x2 : Int32} {x3 : Int32} {x4 : Int32} {x5 : Int32} {t0 : Int32} {zx : Int32} (h : fX12_whose_L43 N k13 w x1 x2 x3 x4 x5 t0 = some zx) : AW l K cX12_whose RX12 7 (some .int) rmX12_whose 0 0 ap_E (ap_F K (some (.int zx)) w) w 43 [(0, .ref (K.1 77)), (1, .int x1), (2, .int x2), (3, .int x3), (4, .int x4), (5, .int x5)] [.int t0] := by
  unfold fX12_whose_L43 at h
  refine ap_istore (i := 6) (lv' := [(6, .int t0), (0, .ref (K.1 77)), (1, .int x1), (2, .int x2), (3, .int x3), (4, .int x4), (5, .int x5)]) dX12_whose_43 (by decide) rfl ?_
  refine ap_iload dX12_whose_45 0 rfl ?_
  refine ap_if_eq (tgt := 62) dX12_whose_47 (by decide) (fun hc6 => ?_) (fun hc6 => ?_)
  · rw [if_pos hc6] at h
    refine ap_iload dX12_whose_62 5 rfl ?_
    refine ap_goto (tgt := 85) dX12_whose_64 (by decide) ?_
    refine ap_istore (i := 4) (lv' := [(4, .int x4), (6, .int t0), (0, .ref (K.1 77)), (1, .int x1), (2, .int x2), (3, .int x3), (5, .int x5)]) dX12_whose_85 (by decide) rfl ?_
    refine ap_iinc (v := x5 + 1) (lv' := [(5, .int (x5 + 1)), (4, .int x4), (6, .int t0), (0, .ref (K.1 77)), (1, .int x1), (2, .int x2), (3, .int x3)]) dX12_whose_87 6 rfl rfl (by decide) rfl ?_
    refine ap_goto (tgt := 13) dX12_whose_90 (by decide) ?_
    refine ap_sub [3, 4, 5, 6, 1, 0] rfl ?_
    exact hk13 _ _ _ _ _ _ h
  · rw [if_neg hc6] at h
    refine ap_iload dX12_whose_50 5 rfl ?_
    refine ap_aload_n dX12_whose_52 1 rfl rfl ?_
    refine ap_get (v := .ref (K.1 83)) fl_X12_30 ly_77 rfl rfl dX12_whose_53 ?_
    refine ap_iload dX12_whose_56 6 rfl ?_
    obtain ⟨a7, ha7, h⟩ := Option.bind_eq_some_iff.mp h
    refine ap_iald ly_83 ha7 dX12_whose_58 ?_
    refine ap_icmp_ne (tgt := 67) dX12_whose_59 (by decide) (fun hc8 => ?_) (fun hc8 => ?_)
    · rw [if_neg hc8] at h
      refine ap_iload dX12_whose_67 5 rfl ?_
      refine ap_iconst (v := -1) dX12_whose_69 (by decide) ?_
      refine ap_icmp_ne (tgt := 83) dX12_whose_70 (by decide) (fun hc9 => ?_) (fun hc9 => ?_)
      · rw [if_neg hc9] at h
        refine ap_bipush (v := -2) dX12_whose_83 (by decide) ?_
        refine ap_istore (i := 4) (lv' := [(4, .int (-2 : Int32)), (6, .int t0), (0, .ref (K.1 77)), (1, .int x1), (2, .int x2), (3, .int x3), (5, .int x5)]) dX12_whose_85 (by decide) rfl ?_
        refine ap_iinc (v := x5 + 1) (lv' := [(5, .int (x5 + 1)), (4, .int (-2 : Int32)), (6, .int t0), (0, .ref (K.1 77)), (1, .int x1), (2, .int x2), (3, .int x3)]) dX12_whose_87 6 rfl rfl (by decide) rfl ?_
        refine ap_goto (tgt := 13) dX12_whose_90 (by decide) ?_
        refine ap_sub [3, 4, 5, 6, 1, 0] rfl ?_
        exact hk13 _ _ _ _ _ _ h
      · rw [if_pos hc9] at h
        refine ap_aload_n dX12_whose_73 1 rfl rfl ?_
        refine ap_get (v := .ref (K.1 83)) fl_X12_30 ly_77 rfl rfl dX12_whose_74 ?_
        refine ap_iload dX12_whose_77 6 rfl ?_
        obtain ⟨a10, ha10, h⟩ := Option.bind_eq_some_iff.mp h
        refine ap_iald ly_83 ha10 dX12_whose_79 ?_
        refine ap_goto (tgt := 85) dX12_whose_80 (by decide) ?_
        refine ap_istore (i := 4) (lv' := [(4, .int a10), (6, .int t0), (0, .ref (K.1 77)), (1, .int x1), (2, .int x2), (3, .int x3), (5, .int x5)]) dX12_whose_85 (by decide) rfl ?_
        refine ap_iinc (v := x5 + 1) (lv' := [(5, .int (x5 + 1)), (4, .int a10), (6, .int t0), (0, .ref (K.1 77)), (1, .int x1), (2, .int x2), (3, .int x3)]) dX12_whose_87 6 rfl rfl (by decide) rfl ?_
        refine ap_goto (tgt := 13) dX12_whose_90 (by decide) ?_
        refine ap_sub [3, 4, 5, 6, 1, 0] rfl ?_
        exact hk13 _ _ _ _ _ _ h
    · rw [if_pos hc8] at h
      refine ap_iload dX12_whose_62 5 rfl ?_
      refine ap_goto (tgt := 85) dX12_whose_64 (by decide) ?_
      refine ap_istore (i := 4) (lv' := [(4, .int x4), (6, .int t0), (0, .ref (K.1 77)), (1, .int x1), (2, .int x2), (3, .int x3), (5, .int x5)]) dX12_whose_85 (by decide) rfl ?_
      refine ap_iinc (v := x5 + 1) (lv' := [(5, .int (x5 + 1)), (4, .int x4), (6, .int t0), (0, .ref (K.1 77)), (1, .int x1), (2, .int x2), (3, .int x3)]) dX12_whose_87 6 rfl rfl (by decide) rfl ?_
      refine ap_goto (tgt := 13) dX12_whose_90 (by decide) ?_
      refine ap_sub [3, 4, 5, 6, 1, 0] rfl ?_
      exact hk13 _ _ _ _ _ _ h
def fX12_whose_L13 (N : Nat) (w : Mm) : Nat → Int32 → Int32 → Int32 → Int32 → Int32 → Option Int32
  | 0, _, _, _, _, _ => none
  | n0 + 1, x1, x2, x3, x4, x5 => if (fX12_candles w) ≤ x5 then (
some x4)
else (
if x3 ≤ (0 : Int32) then (
some x4)
else (
Option.bind (fX12_lightOf w x5 x1 x2) fun a4 =>
if a4 = x3 then (
fX12_whose_L43 N (fX12_whose_L13 N w n0) w x1 x2 x3 x4 x5 (1 : Int32))
else (
fX12_whose_L43 N (fX12_whose_L13 N w n0) w x1 x2 x3 x4 x5 (0 : Int32))))
set_option maxRecDepth 100000 in
set_option maxHeartbeats 4000000 in
theorem AX12_whose_L13 {l : Launch} {K : Kt} {N : Nat} {w : Mm}   : ∀ (n0 : Nat) (x1 : Int32) (x2 : Int32) (x3 : Int32) (x4 : Int32) (x5 : Int32) {zx : Int32}, fX12_whose_L13 N w n0 x1 x2 x3 x4 x5 = some zx → AW l K cX12_whose RX12 7 (some .int) rmX12_whose 0 0 ap_E (ap_F K (some (.int zx)) w) w 13 [(0, .ref (K.1 77)), (1, .int x1), (2, .int x2), (3, .int x3), (4, .int x4), (5, .int x5)] [] := by
  intro n0
  induction n0 with
  | zero =>
    intro x1 x2 x3 x4 x5 zx h
    cases h
  | succ n0 ih =>
    intro x1 x2 x3 x4 x5 zx h
    rw [fX12_whose_L13] at h
    refine ap_iload dX12_whose_13 5 rfl ?_
    refine ap_aload_n dX12_whose_15 0 rfl rfl ?_
    refine ap_callV (k := 77) (As := []) (st := [.int x5]) (st1 := [.int (fX12_candles w), .int x5]) (mcX12_candles  (w := w) (zx := fX12_candles w) rfl) cv_X12_57 rfl ly_77 ⟨rfl, rfl, by decide, by decide⟩ rfl (Nat.le_of_ble_eq_true rfl) ⟨Nat.zero_le _, Nat.zero_le _⟩ dX12_whose_16 rfl rfl ?_
    refine ap_icmp_ge (tgt := 93) dX12_whose_19 (by decide) (fun hc2 => ?_) (fun hc2 => ?_)
    · rw [if_pos hc2] at h
      refine ap_iload dX12_whose_93 4 rfl ?_
      obtain rfl := Option.some.inj h
      exact ap_iret rfl dX12_whose_95
    · rw [if_neg hc2] at h
      refine ap_iload_n dX12_whose_22 3 rfl rfl ?_
      refine ap_if_le (tgt := 93) dX12_whose_23 (by decide) (fun hc3 => ?_) (fun hc3 => ?_)
      · rw [if_pos hc3] at h
        refine ap_iload dX12_whose_93 4 rfl ?_
        obtain rfl := Option.some.inj h
        exact ap_iret rfl dX12_whose_95
      · rw [if_neg hc3] at h
        refine ap_aload_n dX12_whose_26 0 rfl rfl ?_
        refine ap_iload dX12_whose_27 5 rfl ?_
        refine ap_iload_n dX12_whose_29 1 rfl rfl ?_
        refine ap_iload_n dX12_whose_30 2 rfl rfl ?_
        obtain ⟨a4, ha4, h⟩ := Option.bind_eq_some_iff.mp h
        refine ap_callV (k := 77) (As := [.int x5, .int x1, .int x2]) (st := []) (st1 := [.int a4]) (mcX12_lightOf  (w := w) ha4) cv_X12_140 rfl ly_77 ⟨rfl, rfl, by decide, by decide⟩ rfl (Nat.le_of_ble_eq_true rfl) ⟨Nat.zero_le _, Nat.zero_le _⟩ dX12_whose_31 rfl rfl ?_
        refine ap_iload_n dX12_whose_34 3 rfl rfl ?_
        refine ap_icmp_ne (tgt := 42) dX12_whose_35 (by decide) (fun hc5 => ?_) (fun hc5 => ?_)
        · rw [if_neg hc5] at h
          refine ap_iconst (v := 0) dX12_whose_42 (by decide) ?_
          exact AX12_whose_L43 (fun q0 q1 q2 q3 q4 q5 hq => ih q0 q1 q2 q3 q4 hq)  h
        · rw [if_pos hc5] at h
          refine ap_iconst (v := 1) dX12_whose_38 (by decide) ?_
          refine ap_goto (tgt := 43) dX12_whose_39 (by decide) ?_
          exact AX12_whose_L43 (fun q0 q1 q2 q3 q4 q5 hq => ih q0 q1 q2 q3 q4 hq)  h
def fX12_whose (N : Nat) (w : Mm) (x1 : Int32) (x2 : Int32) : Option Int32 :=
Option.bind (fX12_lightIn N w x1 x2) fun a1 =>
fX12_whose_L13 N w N x1 x2 a1 (-1 : Int32) (0 : Int32)
set_option maxRecDepth 100000 in
set_option maxHeartbeats 4000000 in
theorem AX12_whose {l : Launch} {K : Kt} {N : Nat} {w : Mm}  {x1 : Int32} {x2 : Int32} {zx : Int32} (h : fX12_whose N w x1 x2 = some zx) : AW l K cX12_whose RX12 7 (some .int) rmX12_whose 0 0 ap_E (ap_F K (some (.int zx)) w) w 0 [(0, .ref (K.1 77)), (1, .int x1), (2, .int x2)] [] := by
  unfold fX12_whose at h
  refine ap_aload_n dX12_whose_0 0 rfl rfl ?_
  refine ap_iload_n dX12_whose_1 1 rfl rfl ?_
  refine ap_iload_n dX12_whose_2 2 rfl rfl ?_
  obtain ⟨a1, ha1, h⟩ := Option.bind_eq_some_iff.mp h
  refine ap_callV (k := 77) (As := [.int x1, .int x2]) (st := []) (st1 := [.int a1]) (mcX12_lightIn  (w := w) ha1) cv_X12_143 rfl ly_77 ⟨rfl, rfl, by decide, by decide⟩ rfl (Nat.le_of_ble_eq_true rfl) ⟨Nat.zero_le _, Nat.zero_le _⟩ dX12_whose_3 rfl rfl ?_
  refine ap_istore_n (i := 3) (lv' := [(3, .int a1), (0, .ref (K.1 77)), (1, .int x1), (2, .int x2)]) dX12_whose_6 rfl (by decide) rfl ?_
  refine ap_iconst (v := -1) dX12_whose_7 (by decide) ?_
  refine ap_istore (i := 4) (lv' := [(4, .int (-1 : Int32)), (3, .int a1), (0, .ref (K.1 77)), (1, .int x1), (2, .int x2)]) dX12_whose_8 (by decide) rfl ?_
  refine ap_iconst (v := 0) dX12_whose_10 (by decide) ?_
  refine ap_istore (i := 5) (lv' := [(5, .int (0 : Int32)), (4, .int (-1 : Int32)), (3, .int a1), (0, .ref (K.1 77)), (1, .int x1), (2, .int x2)]) dX12_whose_11 (by decide) rfl ?_
  refine ap_sub [3, 4, 5, 2, 1, 0] rfl ?_
  exact AX12_whose_L13  N _ _ _ _ _ h
theorem mcX12_whose {l : Launch} {K : Kt} {N : Nat} {w : Mm}  {x1 : Int32} {x2 : Int32} {zx : Int32} (h : fX12_whose N w x1 x2 = some zx) : MC l K yX12_whose cX12_whose 7 (some .int) rmX12_whose w [.ref (K.1 77), .int x1, .int x2] (some (.int zx)) w :=
  MC.of (by decide) (Nat.le_of_ble_eq_true rfl) rfl (AX12_whose  h)

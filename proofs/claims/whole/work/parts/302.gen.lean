def fX11_within_L14  : Int32 :=
(0 : Int32)
set_option maxRecDepth 100000 in
set_option maxHeartbeats 4000000 in
theorem AX11_within_L14 {l : Launch} {K : Kt} {w : Mm}   {zx : Int32} (h : fX11_within_L14 = zx) : AW l K cX11_within RX11 3 (some .boolean) rmX11_within 0 0 ap_E (ap_F K (some (.int zx)) w) w 14 [] [] := by
  unfold fX11_within_L14 at h
  refine ap_iconst (v := 0) dX11_within_14 (by decide) ?_
  subst h
  exact ap_zret rfl (Or.inl rfl) dX11_within_15
def fX11_within (x0 : Int32) (x1 : Int32) (x2 : Int32) : Int32 :=
if x0 < x1 then (
fX11_within_L14)
else (
if x2 < x0 then (
fX11_within_L14)
else (
(1 : Int32)))
theorem zX11_within {x0 : Int32} {x1 : Int32} {x2 : Int32} : fX11_within x0 x1 x2 = 0 ∨ fX11_within x0 x1 x2 = 1 := by
  unfold fX11_within
  (try simp only [fX11_within, fX11_within_L14])
  repeat (first | exact Or.inl rfl | exact Or.inr rfl | fail | split)
set_option maxRecDepth 100000 in
set_option maxHeartbeats 4000000 in
theorem AX11_within {l : Launch} {K : Kt} {w : Mm}  {x0 : Int32} {x1 : Int32} {x2 : Int32} {zx : Int32} (h : fX11_within x0 x1 x2 = zx) : AW l K cX11_within RX11 3 (some .boolean) rmX11_within 0 0 ap_E (ap_F K (some (.int zx)) w) w 0 [(0, .int x0), (1, .int x1), (2, .int x2)] [] := by
  unfold fX11_within at h
  refine ap_iload_n dX11_within_0 0 rfl rfl ?_
  refine ap_iload_n dX11_within_1 1 rfl rfl ?_
  refine ap_icmp_lt (tgt := 14) dX11_within_2 (by decide) (fun hc1 => ?_) (fun hc1 => ?_)
  · rw [if_pos hc1] at h
    refine ap_sub [] rfl ?_
    exact AX11_within_L14   h
  · rw [if_neg hc1] at h
    refine ap_iload_n dX11_within_5 0 rfl rfl ?_
    refine ap_iload_n dX11_within_6 2 rfl rfl ?_
    refine ap_icmp_gt (tgt := 14) dX11_within_7 (by decide) (fun hc2 => ?_) (fun hc2 => ?_)
    · rw [if_pos hc2] at h
      refine ap_sub [] rfl ?_
      exact AX11_within_L14   h
    · rw [if_neg hc2] at h
      refine ap_iconst (v := 1) dX11_within_10 (by decide) ?_
      refine ap_goto (tgt := 15) dX11_within_11 (by decide) ?_
      subst h
      exact ap_zret rfl (Or.inr rfl) dX11_within_15
theorem mcX11_within {l : Launch} {K : Kt} {w : Mm}  {x0 : Int32} {x1 : Int32} {x2 : Int32} {zx : Int32} (h : fX11_within x0 x1 x2 = zx) : MC l K yX11_within cX11_within 3 (some .boolean) rmX11_within w [.int x0, .int x1, .int x2] (some (.int zx)) w :=
  MC.of (by decide) (Nat.le_of_ble_eq_true rfl) rfl (AX11_within  h)
def fX5_takeNumber_L28 (N : Nat) (w : Mm) : Option (Int32 × Mm) :=
some ((0 : Int32), w)
set_option maxRecDepth 100000 in
set_option maxHeartbeats 4000000 in
theorem AX5_takeNumber_L28 {l : Launch} {K : Kt} {N : Nat}   {w : Mm} {zx : Int32} {zw : Mm} (h : fX5_takeNumber_L28 N w = some (zx, zw)) : AW l K cX5_takeNumber RX5 3 (some .boolean) rmX5_takeNumber 0 0 ap_E (ap_F K (some (.int zx)) zw) w 28 [] [] := by
  unfold fX5_takeNumber_L28 at h
  refine ap_iconst (v := 0) dX5_takeNumber_28 (by decide) ?_
  obtain ⟨rfl, rfl⟩ := Prod.mk.inj (Option.some.inj h)
  exact ap_zret rfl (Or.inl rfl) dX5_takeNumber_29
def fX5_takeNumber (N : Nat) (w : Mm) (x1 : Int32) (x2 : Int32) : Option (Int32 × Mm) :=
Option.bind (fX5_advance N w) fun m1 =>
if (m1.1 51 4) = (2 : Int32) then (
if (fX11_within (m1.1 51 6) x1 x2) = (0 : Int32) then (
fX5_takeNumber_L28 N m1)
else (
some ((1 : Int32), m1)))
else (
fX5_takeNumber_L28 N m1)
set_option maxRecDepth 100000 in
set_option maxHeartbeats 4000000 in
theorem AX5_takeNumber {l : Launch} {K : Kt} {N : Nat}  {w : Mm} {x1 : Int32} {x2 : Int32} {zx : Int32} {zw : Mm} (h : fX5_takeNumber N w x1 x2 = some (zx, zw)) : AW l K cX5_takeNumber RX5 3 (some .boolean) rmX5_takeNumber 0 0 ap_E (ap_F K (some (.int zx)) zw) w 0 [(0, .ref (K.1 51)), (1, .int x1), (2, .int x2)] [] := by
  unfold fX5_takeNumber at h
  refine ap_aload_n dX5_takeNumber_0 0 rfl rfl ?_
  obtain ⟨m1, hm1, h⟩ := Option.bind_eq_some_iff.mp h
  refine ap_callV (k := 51) (As := []) (st := []) (st1 := []) (mcX5_advance  hm1) cv_X5_42 rfl ly_51 ⟨rfl, rfl, by decide, by decide⟩ rfl (Nat.le_of_ble_eq_true rfl) ⟨Nat.zero_le _, Nat.zero_le _⟩ dX5_takeNumber_1 rfl rfl ?_
  refine ap_aload_n dX5_takeNumber_4 0 rfl rfl ?_
  refine ap_get (v := .int (m1.1 51 4)) fl_X5_29 ly_51 rfl rfl dX5_takeNumber_5 ?_
  refine ap_iconst (v := 2) dX5_takeNumber_8 (by decide) ?_
  refine ap_icmp_ne (tgt := 28) dX5_takeNumber_9 (by decide) (fun hc2 => ?_) (fun hc2 => ?_)
  · rw [if_neg hc2] at h
    refine ap_sub [] rfl ?_
    exact AX5_takeNumber_L28   h
  · rw [if_pos hc2] at h
    refine ap_aload_n dX5_takeNumber_12 0 rfl rfl ?_
    refine ap_get (v := .int (m1.1 51 6)) fl_X5_35 ly_51 rfl rfl dX5_takeNumber_13 ?_
    refine ap_iload_n dX5_takeNumber_16 1 rfl rfl ?_
    refine ap_iload_n dX5_takeNumber_17 2 rfl rfl ?_
    refine ap_callN (As := [.int (m1.1 51 6), .int x1, .int x2]) (st := []) (st1 := [.int (fX11_within (m1.1 51 6) x1 x2)]) (mcX11_within  (w := m1) (zx := fX11_within (m1.1 51 6) x1 x2) rfl) cn_X5_89 ⟨rfl, rfl, by decide, by decide⟩ rfl (Nat.le_of_ble_eq_true rfl) ⟨Nat.zero_le _, Nat.zero_le _⟩ dX5_takeNumber_18 rfl rfl ?_
    refine ap_if_eq (tgt := 28) dX5_takeNumber_21 (by decide) (fun hc3 => ?_) (fun hc3 => ?_)
    · rw [if_pos hc3] at h
      refine ap_sub [] rfl ?_
      exact AX5_takeNumber_L28   h
    · rw [if_neg hc3] at h
      refine ap_iconst (v := 1) dX5_takeNumber_24 (by decide) ?_
      refine ap_goto (tgt := 29) dX5_takeNumber_25 (by decide) ?_
      obtain ⟨rfl, rfl⟩ := Prod.mk.inj (Option.some.inj h)
      exact ap_zret rfl (Or.inr rfl) dX5_takeNumber_29
theorem mcX5_takeNumber {l : Launch} {K : Kt} {N : Nat}  {w : Mm} {x1 : Int32} {x2 : Int32} {zx : Int32} {zw : Mm} (h : fX5_takeNumber N w x1 x2 = some (zx, zw)) : MC l K yX5_takeNumber cX5_takeNumber 3 (some .boolean) rmX5_takeNumber w [.ref (K.1 51), .int x1, .int x2] (some (.int zx)) zw :=
  MC.of (by decide) (Nat.le_of_ble_eq_true rfl) rfl (AX5_takeNumber  h)
def fX5_takeStop (N : Nat) (w : Mm) : Option (Int32 × Mm) :=
Option.bind (fX5_advance N w) fun m1 =>
if (m1.1 51 4) = (3 : Int32) then (
some ((1 : Int32), m1))
else (
some ((0 : Int32), m1))
set_option maxRecDepth 100000 in
set_option maxHeartbeats 4000000 in
theorem AX5_takeStop {l : Launch} {K : Kt} {N : Nat}  {w : Mm} {zx : Int32} {zw : Mm} (h : fX5_takeStop N w = some (zx, zw)) : AW l K cX5_takeStop RX5 1 (some .boolean) rmX5_takeStop 0 0 ap_E (ap_F K (some (.int zx)) zw) w 0 [(0, .ref (K.1 51))] [] := by
  unfold fX5_takeStop at h
  refine ap_aload_n dX5_takeStop_0 0 rfl rfl ?_
  obtain ⟨m1, hm1, h⟩ := Option.bind_eq_some_iff.mp h
  refine ap_callV (k := 51) (As := []) (st := []) (st1 := []) (mcX5_advance  hm1) cv_X5_42 rfl ly_51 ⟨rfl, rfl, by decide, by decide⟩ rfl (Nat.le_of_ble_eq_true rfl) ⟨Nat.zero_le _, Nat.zero_le _⟩ dX5_takeStop_1 rfl rfl ?_
  refine ap_aload_n dX5_takeStop_4 0 rfl rfl ?_
  refine ap_get (v := .int (m1.1 51 4)) fl_X5_29 ly_51 rfl rfl dX5_takeStop_5 ?_
  refine ap_iconst (v := 3) dX5_takeStop_8 (by decide) ?_
  refine ap_icmp_ne (tgt := 16) dX5_takeStop_9 (by decide) (fun hc2 => ?_) (fun hc2 => ?_)
  · rw [if_neg hc2] at h
    refine ap_iconst (v := 0) dX5_takeStop_16 (by decide) ?_
    obtain ⟨rfl, rfl⟩ := Prod.mk.inj (Option.some.inj h)
    exact ap_zret rfl (Or.inl rfl) dX5_takeStop_17
  · rw [if_pos hc2] at h
    refine ap_iconst (v := 1) dX5_takeStop_12 (by decide) ?_
    refine ap_goto (tgt := 17) dX5_takeStop_13 (by decide) ?_
    obtain ⟨rfl, rfl⟩ := Prod.mk.inj (Option.some.inj h)
    exact ap_zret rfl (Or.inr rfl) dX5_takeStop_17
theorem mcX5_takeStop {l : Launch} {K : Kt} {N : Nat}  {w : Mm} {zx : Int32} {zw : Mm} (h : fX5_takeStop N w = some (zx, zw)) : MC l K yX5_takeStop cX5_takeStop 1 (some .boolean) rmX5_takeStop w [.ref (K.1 51)] (some (.int zx)) zw :=
  MC.of (by decide) (Nat.le_of_ble_eq_true rfl) rfl (AX5_takeStop  h)
def fX8_add (v : Nat) (w : Mm) (x1 : Int32) (x2 : Int32) (x3 : Int32) (x4 : Int32) (x5 : Int32) : Option (Int32 × Mm) :=
if (w.1 v 1) < (7 : Int32) then (
Option.bind (wrA w (v + 1) 7 (w.1 v 1) x1) fun m2 =>
Option.bind (wrA m2 (v + 2) 7 (w.1 v 1) x2) fun m3 =>
Option.bind (wrA m3 (v + 3) 7 (w.1 v 1) x3) fun m4 =>
Option.bind (wrA m4 (v + 4) 7 (w.1 v 1) x4) fun m5 =>
Option.bind (wrA m5 (v + 5) 7 (w.1 v 1) x5) fun m6 =>
Option.bind (some (sI m6 v 2 ((m6.1 v 2) ||| ((1 : Int32) <<< ((w.1 v 1) &&& 31))))) fun m7 =>
Option.bind (some (sI m7 v 1 ((w.1 v 1) + (1 : Int32)))) fun m8 =>
Option.bind (some (sI m8 v 14 (0 : Int32))) fun m9 =>
some ((w.1 v 1), m9))
else (
some ((-1 : Int32), w))
set_option maxRecDepth 100000 in
set_option maxHeartbeats 4000000 in
theorem AX8_add {l : Launch} {K : Kt} {v : Nat} (hv : isV v) {w : Mm} {x1 : Int32} {x2 : Int32} {x3 : Int32} {x4 : Int32} {x5 : Int32} {zx : Int32} {zw : Mm} (h : fX8_add v w x1 x2 x3 x4 x5 = some (zx, zw)) : AW l K cX8_add RX8 7 (some .int) rmX8_add 0 0 ap_E (ap_F K (some (.int zx)) zw) w 0 [(0, .ref (K.1 v)), (1, .int x1), (2, .int x2), (3, .int x3), (4, .int x4), (5, .int x5)] [] := by
  unfold fX8_add at h
  refine ap_aload_n dX8_add_0 0 rfl rfl ?_
  refine ap_get (v := .int (w.1 v 1)) fl_X8_15 (lyv_0 hv) rfl rfl dX8_add_1 ?_
  refine ap_istore (i := 6) (lv' := [(6, .int (w.1 v 1)), (0, .ref (K.1 v)), (1, .int x1), (2, .int x2), (3, .int x3), (4, .int x4), (5, .int x5)]) dX8_add_4 (by decide) rfl ?_
  refine ap_iload dX8_add_6 0 rfl ?_
  refine ap_bipush (v := 7) dX8_add_8 (by decide) ?_
  refine ap_icmp_lt (tgt := 15) dX8_add_10 (by decide) (fun hc1 => ?_) (fun hc1 => ?_)
  · rw [if_pos hc1] at h
    refine ap_aload_n dX8_add_15 1 rfl rfl ?_
    refine ap_get (v := .ref (K.1 (v + 1))) fl_X8_21 (lyv_0 hv) rfl rfl dX8_add_16 ?_
    refine ap_iload dX8_add_19 0 rfl ?_
    refine ap_iload_n dX8_add_21 2 rfl rfl ?_
    obtain ⟨m2, hm2, h⟩ := Option.bind_eq_some_iff.mp h
    refine ap_iast (lyv_1 hv) hm2 dX8_add_22 ?_
    refine ap_aload_n dX8_add_23 1 rfl rfl ?_
    refine ap_get (v := .ref (K.1 (v + 2))) fl_X8_25 (lyv_0 hv) rfl rfl dX8_add_24 ?_
    refine ap_iload dX8_add_27 0 rfl ?_
    refine ap_iload_n dX8_add_29 3 rfl rfl ?_
    obtain ⟨m3, hm3, h⟩ := Option.bind_eq_some_iff.mp h
    refine ap_iast (lyv_2 hv) hm3 dX8_add_30 ?_
    refine ap_aload_n dX8_add_31 1 rfl rfl ?_
    refine ap_get (v := .ref (K.1 (v + 3))) fl_X8_28 (lyv_0 hv) rfl rfl dX8_add_32 ?_
    refine ap_iload dX8_add_35 0 rfl ?_
    refine ap_iload_n dX8_add_37 4 rfl rfl ?_
    obtain ⟨m4, hm4, h⟩ := Option.bind_eq_some_iff.mp h
    refine ap_iast (lyv_3 hv) hm4 dX8_add_38 ?_
    refine ap_aload_n dX8_add_39 1 rfl rfl ?_
    refine ap_get (v := .ref (K.1 (v + 4))) fl_X8_31 (lyv_0 hv) rfl rfl dX8_add_40 ?_
    refine ap_iload dX8_add_43 0 rfl ?_
    refine ap_iload dX8_add_45 5 rfl ?_
    obtain ⟨m5, hm5, h⟩ := Option.bind_eq_some_iff.mp h
    refine ap_iast (lyv_4 hv) hm5 dX8_add_47 ?_
    refine ap_aload_n dX8_add_48 1 rfl rfl ?_
    refine ap_get (v := .ref (K.1 (v + 5))) fl_X8_34 (lyv_0 hv) rfl rfl dX8_add_49 ?_
    refine ap_iload dX8_add_52 0 rfl ?_
    refine ap_iload dX8_add_54 6 rfl ?_
    obtain ⟨m6, hm6, h⟩ := Option.bind_eq_some_iff.mp h
    refine ap_iast (lyv_5 hv) hm6 dX8_add_56 ?_
    refine ap_aload_n dX8_add_57 1 rfl rfl ?_
    refine ap_aload_n dX8_add_58 1 rfl rfl ?_
    refine ap_get (v := .int (m6.1 v 2)) fl_X8_18 (lyv_0 hv) rfl rfl dX8_add_59 ?_
    refine ap_iconst (v := 1) dX8_add_62 (by decide) ?_
    refine ap_iload dX8_add_63 0 rfl ?_
    refine ap_ishl dX8_add_65 ?_
    refine ap_ior dX8_add_66 ?_
    obtain ⟨m7, hm7, h⟩ := Option.bind_eq_some_iff.mp h
    refine ap_putI fp_X8_18 (lyv_0 hv) rfl (Option.some.inj hm7) dX8_add_67 ?_
    refine ap_aload_n dX8_add_70 1 rfl rfl ?_
    refine ap_iload dX8_add_71 0 rfl ?_
    refine ap_iconst (v := 1) dX8_add_73 (by decide) ?_
    refine ap_iadd dX8_add_74 ?_
    obtain ⟨m8, hm8, h⟩ := Option.bind_eq_some_iff.mp h
    refine ap_putI fp_X8_15 (lyv_0 hv) rfl (Option.some.inj hm8) dX8_add_75 ?_
    refine ap_aload_n dX8_add_78 1 rfl rfl ?_
    refine ap_iconst (v := 0) dX8_add_79 (by decide) ?_
    obtain ⟨m9, hm9, h⟩ := Option.bind_eq_some_iff.mp h
    refine ap_putI fp_X8_55 (lyv_0 hv) rfl (Option.some.inj hm9) dX8_add_80 ?_
    refine ap_iload dX8_add_83 0 rfl ?_
    obtain ⟨rfl, rfl⟩ := Prod.mk.inj (Option.some.inj h)
    exact ap_iret rfl dX8_add_85
  · rw [if_neg hc1] at h
    refine ap_iconst (v := -1) dX8_add_13 (by decide) ?_
    obtain ⟨rfl, rfl⟩ := Prod.mk.inj (Option.some.inj h)
    exact ap_iret rfl dX8_add_14
theorem mcX8_add {l : Launch} {K : Kt} {v : Nat} (hv : isV v) {w : Mm} {x1 : Int32} {x2 : Int32} {x3 : Int32} {x4 : Int32} {x5 : Int32} {zx : Int32} {zw : Mm} (h : fX8_add v w x1 x2 x3 x4 x5 = some (zx, zw)) : MC l K yX8_add cX8_add 7 (some .int) rmX8_add w [.ref (K.1 v), .int x1, .int x2, .int x3, .int x4, .int x5] (some (.int zx)) zw :=
  MC.of (by decide) (Nat.le_of_ble_eq_true rfl) rfl (AX8_add hv h)
def fX5_takeCandle (N : Nat) (w : Mm) : Option (Int32 × Mm) :=
if (7 : Int32) ≤ (w.1 37 1) then (
some ((0 : Int32), w))
else (
ob2 (fX5_takeNumber N w (0 : Int32) (5 : Int32)) fun a2 m3 =>
if a2 = (0 : Int32) then (
some ((0 : Int32), m3))
else (
ob2 (fX5_takeNumber N m3 (0 : Int32) (63 : Int32)) fun a5 m6 =>
if a5 = (0 : Int32) then (
some ((0 : Int32), m6))
else (
ob2 (fX5_takeNumber N m6 (1 : Int32) (20 : Int32)) fun a8 m9 =>
if a8 = (0 : Int32) then (
some ((0 : Int32), m9))
else (
ob2 (fX5_takeNumber N m9 (0 : Int32) (3 : Int32)) fun a11 m12 =>
if a11 = (0 : Int32) then (
some ((0 : Int32), m12))
else (
ob2 (fX5_takeNumber N m12 (0 : Int32) (12 : Int32)) fun a14 m15 =>
if a14 = (0 : Int32) then (
some ((0 : Int32), m15))
else (
ob2 (fX8_add 37 m15 (m3.1 51 6) (m6.1 51 6) (m9.1 51 6) (m12.1 51 6) (m15.1 51 6)) fun a17 m18 =>
ob2 (fX5_takeStop N m18) fun a19 m20 =>
Option.bind (bz a19) fun a21 =>
some (a21, m20)))))))
set_option maxRecDepth 100000 in
set_option maxHeartbeats 4000000 in
theorem AX5_takeCandle {l : Launch} {K : Kt} {N : Nat}  {w : Mm} {zx : Int32} {zw : Mm} (h : fX5_takeCandle N w = some (zx, zw)) : AW l K cX5_takeCandle RX5 5 (some .boolean) rmX5_takeCandle 0 0 ap_E (ap_F K (some (.int zx)) zw) w 0 [(0, .ref (K.1 51))] [] := by
  unfold fX5_takeCandle at h
  refine ap_aload_n dX5_takeCandle_0 0 rfl rfl ?_
  refine ap_get (v := .ref (K.1 37)) fl_X5_12 ly_51 rfl rfl dX5_takeCandle_1 ?_
  refine ap_get (v := .int (w.1 37 1)) fl_X5_79 ly_37 rfl rfl dX5_takeCandle_4 ?_
  refine ap_bipush (v := 7) dX5_takeCandle_7 (by decide) ?_
  refine ap_icmp_ge (tgt := 21) dX5_takeCandle_9 (by decide) (fun hc1 => ?_) (fun hc1 => ?_)
  · rw [if_pos hc1] at h
    refine ap_iconst (v := 0) dX5_takeCandle_21 (by decide) ?_
    obtain ⟨rfl, rfl⟩ := Prod.mk.inj (Option.some.inj h)
    exact ap_zret rfl (Or.inl rfl) dX5_takeCandle_22
  · rw [if_neg hc1] at h
    refine ap_aload_n dX5_takeCandle_12 0 rfl rfl ?_
    refine ap_iconst (v := 0) dX5_takeCandle_13 (by decide) ?_
    refine ap_iconst (v := 5) dX5_takeCandle_14 (by decide) ?_
    obtain ⟨a2, m3, ha2, h⟩ := ob2_iff h
    refine ap_callV (k := 51) (As := [.int (0 : Int32), .int (5 : Int32)]) (st := []) (st1 := [.int a2]) (mcX5_takeNumber  ha2) cv_X5_69 rfl ly_51 ⟨rfl, rfl, by decide, by decide⟩ rfl (Nat.le_of_ble_eq_true rfl) ⟨Nat.zero_le _, Nat.zero_le _⟩ dX5_takeCandle_15 rfl rfl ?_
    refine ap_if_ne (tgt := 23) dX5_takeCandle_18 (by decide) (fun hc4 => ?_) (fun hc4 => ?_)
    · rw [if_neg hc4] at h
      refine ap_aload_n dX5_takeCandle_23 0 rfl rfl ?_
      refine ap_get (v := .int (m3.1 51 6)) fl_X5_35 ly_51 rfl rfl dX5_takeCandle_24 ?_
      refine ap_istore_n (i := 1) (lv' := [(1, .int (m3.1 51 6)), (0, .ref (K.1 51))]) dX5_takeCandle_27 rfl (by decide) rfl ?_
      refine ap_aload_n dX5_takeCandle_28 1 rfl rfl ?_
      refine ap_iconst (v := 0) dX5_takeCandle_29 (by decide) ?_
      refine ap_bipush (v := 63) dX5_takeCandle_30 (by decide) ?_
      obtain ⟨a5, m6, ha5, h⟩ := ob2_iff h
      refine ap_callV (k := 51) (As := [.int (0 : Int32), .int (63 : Int32)]) (st := []) (st1 := [.int a5]) (mcX5_takeNumber  ha5) cv_X5_69 rfl ly_51 ⟨rfl, rfl, by decide, by decide⟩ rfl (Nat.le_of_ble_eq_true rfl) ⟨Nat.zero_le _, Nat.zero_le _⟩ dX5_takeCandle_32 rfl rfl ?_
      refine ap_if_ne (tgt := 40) dX5_takeCandle_35 (by decide) (fun hc7 => ?_) (fun hc7 => ?_)
      · rw [if_neg hc7] at h
        refine ap_aload_n dX5_takeCandle_40 1 rfl rfl ?_
        refine ap_get (v := .int (m6.1 51 6)) fl_X5_35 ly_51 rfl rfl dX5_takeCandle_41 ?_
        refine ap_istore_n (i := 2) (lv' := [(2, .int (m6.1 51 6)), (1, .int (m3.1 51 6)), (0, .ref (K.1 51))]) dX5_takeCandle_44 rfl (by decide) rfl ?_
        refine ap_aload_n dX5_takeCandle_45 2 rfl rfl ?_
        refine ap_iconst (v := 1) dX5_takeCandle_46 (by decide) ?_
        refine ap_bipush (v := 20) dX5_takeCandle_47 (by decide) ?_
        obtain ⟨a8, m9, ha8, h⟩ := ob2_iff h
        refine ap_callV (k := 51) (As := [.int (1 : Int32), .int (20 : Int32)]) (st := []) (st1 := [.int a8]) (mcX5_takeNumber  ha8) cv_X5_69 rfl ly_51 ⟨rfl, rfl, by decide, by decide⟩ rfl (Nat.le_of_ble_eq_true rfl) ⟨Nat.zero_le _, Nat.zero_le _⟩ dX5_takeCandle_49 rfl rfl ?_
        refine ap_if_ne (tgt := 57) dX5_takeCandle_52 (by decide) (fun hc10 => ?_) (fun hc10 => ?_)
        · rw [if_neg hc10] at h
          refine ap_aload_n dX5_takeCandle_57 2 rfl rfl ?_
          refine ap_get (v := .int (m9.1 51 6)) fl_X5_35 ly_51 rfl rfl dX5_takeCandle_58 ?_
          refine ap_istore_n (i := 3) (lv' := [(3, .int (m9.1 51 6)), (2, .int (m6.1 51 6)), (1, .int (m3.1 51 6)), (0, .ref (K.1 51))]) dX5_takeCandle_61 rfl (by decide) rfl ?_
          refine ap_aload_n dX5_takeCandle_62 3 rfl rfl ?_
          refine ap_iconst (v := 0) dX5_takeCandle_63 (by decide) ?_
          refine ap_iconst (v := 3) dX5_takeCandle_64 (by decide) ?_
          obtain ⟨a11, m12, ha11, h⟩ := ob2_iff h
          refine ap_callV (k := 51) (As := [.int (0 : Int32), .int (3 : Int32)]) (st := []) (st1 := [.int a11]) (mcX5_takeNumber  ha11) cv_X5_69 rfl ly_51 ⟨rfl, rfl, by decide, by decide⟩ rfl (Nat.le_of_ble_eq_true rfl) ⟨Nat.zero_le _, Nat.zero_le _⟩ dX5_takeCandle_65 rfl rfl ?_
          refine ap_if_ne (tgt := 73) dX5_takeCandle_68 (by decide) (fun hc13 => ?_) (fun hc13 => ?_)
          · rw [if_neg hc13] at h
            refine ap_aload_n dX5_takeCandle_73 3 rfl rfl ?_
            refine ap_get (v := .int (m12.1 51 6)) fl_X5_35 ly_51 rfl rfl dX5_takeCandle_74 ?_
            refine ap_istore (i := 4) (lv' := [(4, .int (m12.1 51 6)), (3, .int (m9.1 51 6)), (2, .int (m6.1 51 6)), (1, .int (m3.1 51 6)), (0, .ref (K.1 51))]) dX5_takeCandle_77 (by decide) rfl ?_
            refine ap_aload_n dX5_takeCandle_79 4 rfl rfl ?_
            refine ap_iconst (v := 0) dX5_takeCandle_80 (by decide) ?_
            refine ap_bipush (v := 12) dX5_takeCandle_81 (by decide) ?_
            obtain ⟨a14, m15, ha14, h⟩ := ob2_iff h
            refine ap_callV (k := 51) (As := [.int (0 : Int32), .int (12 : Int32)]) (st := []) (st1 := [.int a14]) (mcX5_takeNumber  ha14) cv_X5_69 rfl ly_51 ⟨rfl, rfl, by decide, by decide⟩ rfl (Nat.le_of_ble_eq_true rfl) ⟨Nat.zero_le _, Nat.zero_le _⟩ dX5_takeCandle_83 rfl rfl ?_
            refine ap_if_ne (tgt := 91) dX5_takeCandle_86 (by decide) (fun hc16 => ?_) (fun hc16 => ?_)
            · rw [if_neg hc16] at h
              refine ap_aload_n dX5_takeCandle_91 4 rfl rfl ?_
              refine ap_get (v := .ref (K.1 37)) fl_X5_12 ly_51 rfl rfl dX5_takeCandle_92 ?_
              refine ap_iload_n dX5_takeCandle_95 3 rfl rfl ?_
              refine ap_iload_n dX5_takeCandle_96 2 rfl rfl ?_
              refine ap_iload_n dX5_takeCandle_97 1 rfl rfl ?_
              refine ap_iload dX5_takeCandle_98 0 rfl ?_
              refine ap_aload_n dX5_takeCandle_100 4 rfl rfl ?_
              refine ap_get (v := .int (m15.1 51 6)) fl_X5_35 ly_51 rfl rfl dX5_takeCandle_101 ?_
              obtain ⟨a17, m18, ha17, h⟩ := ob2_iff h
              refine ap_callV (k := 37) (As := [.int (m3.1 51 6), .int (m6.1 51 6), .int (m9.1 51 6), .int (m12.1 51 6), .int (m15.1 51 6)]) (st := []) (st1 := [.int a17]) (mcX8_add isV_37 ha17) cv_X5_82 rfl ly_37 ⟨rfl, rfl, by decide, by decide⟩ rfl (Nat.le_of_ble_eq_true rfl) ⟨Nat.zero_le _, Nat.zero_le _⟩ dX5_takeCandle_104 rfl rfl ?_
              refine ap_pop dX5_takeCandle_107 rfl ?_
              refine ap_aload_n dX5_takeCandle_108 4 rfl rfl ?_
              obtain ⟨a19, m20, ha19, h⟩ := ob2_iff h
              refine ap_callV (k := 51) (As := []) (st := []) (st1 := [.int a19]) (mcX5_takeStop  ha19) cv_X5_76 rfl ly_51 ⟨rfl, rfl, by decide, by decide⟩ rfl (Nat.le_of_ble_eq_true rfl) ⟨Nat.zero_le _, Nat.zero_le _⟩ dX5_takeCandle_109 rfl rfl ?_
              obtain ⟨a21, ha21, h⟩ := Option.bind_eq_some_iff.mp h
              obtain ⟨rfl, rfl⟩ := Prod.mk.inj (Option.some.inj h)
              obtain ⟨ha21b, rfl⟩ := bz_some ha21
              exact ap_zret rfl ha21b dX5_takeCandle_112
            · rw [if_pos hc16] at h
              refine ap_iconst (v := 0) dX5_takeCandle_89 (by decide) ?_
              obtain ⟨rfl, rfl⟩ := Prod.mk.inj (Option.some.inj h)
              exact ap_zret rfl (Or.inl rfl) dX5_takeCandle_90
          · rw [if_pos hc13] at h
            refine ap_iconst (v := 0) dX5_takeCandle_71 (by decide) ?_
            obtain ⟨rfl, rfl⟩ := Prod.mk.inj (Option.some.inj h)
            exact ap_zret rfl (Or.inl rfl) dX5_takeCandle_72
        · rw [if_pos hc10] at h
          refine ap_iconst (v := 0) dX5_takeCandle_55 (by decide) ?_
          obtain ⟨rfl, rfl⟩ := Prod.mk.inj (Option.some.inj h)
          exact ap_zret rfl (Or.inl rfl) dX5_takeCandle_56
      · rw [if_pos hc7] at h
        refine ap_iconst (v := 0) dX5_takeCandle_38 (by decide) ?_
        obtain ⟨rfl, rfl⟩ := Prod.mk.inj (Option.some.inj h)
        exact ap_zret rfl (Or.inl rfl) dX5_takeCandle_39
    · rw [if_pos hc4] at h
      refine ap_iconst (v := 0) dX5_takeCandle_21 (by decide) ?_
      obtain ⟨rfl, rfl⟩ := Prod.mk.inj (Option.some.inj h)
      exact ap_zret rfl (Or.inl rfl) dX5_takeCandle_22
theorem mcX5_takeCandle {l : Launch} {K : Kt} {N : Nat}  {w : Mm} {zx : Int32} {zw : Mm} (h : fX5_takeCandle N w = some (zx, zw)) : MC l K yX5_takeCandle cX5_takeCandle 5 (some .boolean) rmX5_takeCandle w [.ref (K.1 51)] (some (.int zx)) zw :=
  MC.of (by decide) (Nat.le_of_ble_eq_true rfl) rfl (AX5_takeCandle  h)
def fX5_takeFog (N : Nat) (w : Mm) : Option (Int32 × Mm) :=
ob2 (fX5_takeNumber N w (0 : Int32) (9 : Int32)) fun a1 m2 =>
if a1 = (0 : Int32) then (
some ((0 : Int32), m2))
else (
Option.bind (some (sI m2 37 0 (m2.1 51 6))) fun m4 =>
ob2 (fX5_takeStop N m4) fun a5 m6 =>
Option.bind (bz a5) fun a7 =>
some (a7, m6))
set_option maxRecDepth 100000 in
set_option maxHeartbeats 4000000 in
theorem AX5_takeFog {l : Launch} {K : Kt} {N : Nat}  {w : Mm} {zx : Int32} {zw : Mm} (h : fX5_takeFog N w = some (zx, zw)) : AW l K cX5_takeFog RX5 1 (some .boolean) rmX5_takeFog 0 0 ap_E (ap_F K (some (.int zx)) zw) w 0 [(0, .ref (K.1 51))] [] := by
  unfold fX5_takeFog at h
  refine ap_aload_n dX5_takeFog_0 0 rfl rfl ?_
  refine ap_iconst (v := 0) dX5_takeFog_1 (by decide) ?_
  refine ap_bipush (v := 9) dX5_takeFog_2 (by decide) ?_
  obtain ⟨a1, m2, ha1, h⟩ := ob2_iff h
  refine ap_callV (k := 51) (As := [.int (0 : Int32), .int (9 : Int32)]) (st := []) (st1 := [.int a1]) (mcX5_takeNumber  ha1) cv_X5_69 rfl ly_51 ⟨rfl, rfl, by decide, by decide⟩ rfl (Nat.le_of_ble_eq_true rfl) ⟨Nat.zero_le _, Nat.zero_le _⟩ dX5_takeFog_4 rfl rfl ?_
  refine ap_if_ne (tgt := 12) dX5_takeFog_7 (by decide) (fun hc3 => ?_) (fun hc3 => ?_)
  · rw [if_neg hc3] at h
    refine ap_aload_n dX5_takeFog_12 0 rfl rfl ?_
    refine ap_get (v := .ref (K.1 37)) fl_X5_12 ly_51 rfl rfl dX5_takeFog_13 ?_
    refine ap_aload_n dX5_takeFog_16 0 rfl rfl ?_
    refine ap_get (v := .int (m2.1 51 6)) fl_X5_35 ly_51 rfl rfl dX5_takeFog_17 ?_
    obtain ⟨m4, hm4, h⟩ := Option.bind_eq_some_iff.mp h
    refine ap_putI fp_X5_73 ly_37 rfl (Option.some.inj hm4) dX5_takeFog_20 ?_
    refine ap_aload_n dX5_takeFog_23 0 rfl rfl ?_
    obtain ⟨a5, m6, ha5, h⟩ := ob2_iff h
    refine ap_callV (k := 51) (As := []) (st := []) (st1 := [.int a5]) (mcX5_takeStop  ha5) cv_X5_76 rfl ly_51 ⟨rfl, rfl, by decide, by decide⟩ rfl (Nat.le_of_ble_eq_true rfl) ⟨Nat.zero_le _, Nat.zero_le _⟩ dX5_takeFog_24 rfl rfl ?_
    obtain ⟨a7, ha7, h⟩ := Option.bind_eq_some_iff.mp h
    obtain ⟨rfl, rfl⟩ := Prod.mk.inj (Option.some.inj h)
    obtain ⟨ha7b, rfl⟩ := bz_some ha7
    exact ap_zret rfl ha7b dX5_takeFog_27
  · rw [if_pos hc3] at h
    refine ap_iconst (v := 0) dX5_takeFog_10 (by decide) ?_
    obtain ⟨rfl, rfl⟩ := Prod.mk.inj (Option.some.inj h)
    exact ap_zret rfl (Or.inl rfl) dX5_takeFog_11
theorem mcX5_takeFog {l : Launch} {K : Kt} {N : Nat}  {w : Mm} {zx : Int32} {zw : Mm} (h : fX5_takeFog N w = some (zx, zw)) : MC l K yX5_takeFog cX5_takeFog 1 (some .boolean) rmX5_takeFog w [.ref (K.1 51)] (some (.int zx)) zw :=
  MC.of (by decide) (Nat.le_of_ble_eq_true rfl) rfl (AX5_takeFog  h)
def fX5_takeOut (N : Nat) (w : Mm) : Option (Int32 × Mm) :=
ob2 (fX5_takeNumber N w (0 : Int32) ((w.1 37 1) - (1 : Int32))) fun a1 m2 =>
if a1 = (0 : Int32) then (
some ((0 : Int32), m2))
else (
Option.bind (some (sI m2 37 2 ((m2.1 37 2) &&& (((1 : Int32) <<< ((m2.1 51 6) &&& 31)) ^^^ (-1 : Int32))))) fun m4 =>
ob2 (fX5_takeStop N m4) fun a5 m6 =>
Option.bind (bz a5) fun a7 =>
some (a7, m6))
set_option maxRecDepth 100000 in
set_option maxHeartbeats 4000000 in
theorem AX5_takeOut {l : Launch} {K : Kt} {N : Nat}  {w : Mm} {zx : Int32} {zw : Mm} (h : fX5_takeOut N w = some (zx, zw)) : AW l K cX5_takeOut RX5 1 (some .boolean) rmX5_takeOut 0 0 ap_E (ap_F K (some (.int zx)) zw) w 0 [(0, .ref (K.1 51))] [] := by
  unfold fX5_takeOut at h
  refine ap_aload_n dX5_takeOut_0 0 rfl rfl ?_
  refine ap_iconst (v := 0) dX5_takeOut_1 (by decide) ?_
  refine ap_aload_n dX5_takeOut_2 0 rfl rfl ?_
  refine ap_get (v := .ref (K.1 37)) fl_X5_12 ly_51 rfl rfl dX5_takeOut_3 ?_
  refine ap_get (v := .int (w.1 37 1)) fl_X5_79 ly_37 rfl rfl dX5_takeOut_6 ?_
  refine ap_iconst (v := 1) dX5_takeOut_9 (by decide) ?_
  refine ap_isub dX5_takeOut_10 ?_
  obtain ⟨a1, m2, ha1, h⟩ := ob2_iff h
  refine ap_callV (k := 51) (As := [.int (0 : Int32), .int ((w.1 37 1) - (1 : Int32))]) (st := []) (st1 := [.int a1]) (mcX5_takeNumber  ha1) cv_X5_69 rfl ly_51 ⟨rfl, rfl, by decide, by decide⟩ rfl (Nat.le_of_ble_eq_true rfl) ⟨Nat.zero_le _, Nat.zero_le _⟩ dX5_takeOut_11 rfl rfl ?_
  refine ap_if_ne (tgt := 19) dX5_takeOut_14 (by decide) (fun hc3 => ?_) (fun hc3 => ?_)
  · rw [if_neg hc3] at h
    refine ap_aload_n dX5_takeOut_19 0 rfl rfl ?_
    refine ap_get (v := .ref (K.1 37)) fl_X5_12 ly_51 rfl rfl dX5_takeOut_20 ?_
    refine ap_aload_n dX5_takeOut_23 0 rfl rfl ?_
    refine ap_get (v := .ref (K.1 37)) fl_X5_12 ly_51 rfl rfl dX5_takeOut_24 ?_
    refine ap_get (v := .int (m2.1 37 2)) fl_X5_86 ly_37 rfl rfl dX5_takeOut_27 ?_
    refine ap_iconst (v := 1) dX5_takeOut_30 (by decide) ?_
    refine ap_aload_n dX5_takeOut_31 0 rfl rfl ?_
    refine ap_get (v := .int (m2.1 51 6)) fl_X5_35 ly_51 rfl rfl dX5_takeOut_32 ?_
    refine ap_ishl dX5_takeOut_35 ?_
    refine ap_iconst (v := -1) dX5_takeOut_36 (by decide) ?_
    refine ap_ixor dX5_takeOut_37 ?_
    refine ap_iand dX5_takeOut_38 ?_
    obtain ⟨m4, hm4, h⟩ := Option.bind_eq_some_iff.mp h
    refine ap_putI fp_X5_86 ly_37 rfl (Option.some.inj hm4) dX5_takeOut_39 ?_
    refine ap_aload_n dX5_takeOut_42 0 rfl rfl ?_
    obtain ⟨a5, m6, ha5, h⟩ := ob2_iff h
    refine ap_callV (k := 51) (As := []) (st := []) (st1 := [.int a5]) (mcX5_takeStop  ha5) cv_X5_76 rfl ly_51 ⟨rfl, rfl, by decide, by decide⟩ rfl (Nat.le_of_ble_eq_true rfl) ⟨Nat.zero_le _, Nat.zero_le _⟩ dX5_takeOut_43 rfl rfl ?_
    obtain ⟨a7, ha7, h⟩ := Option.bind_eq_some_iff.mp h
    obtain ⟨rfl, rfl⟩ := Prod.mk.inj (Option.some.inj h)
    obtain ⟨ha7b, rfl⟩ := bz_some ha7
    exact ap_zret rfl ha7b dX5_takeOut_46
  · rw [if_pos hc3] at h
    refine ap_iconst (v := 0) dX5_takeOut_17 (by decide) ?_
    obtain ⟨rfl, rfl⟩ := Prod.mk.inj (Option.some.inj h)
    exact ap_zret rfl (Or.inl rfl) dX5_takeOut_18
theorem mcX5_takeOut {l : Launch} {K : Kt} {N : Nat}  {w : Mm} {zx : Int32} {zw : Mm} (h : fX5_takeOut N w = some (zx, zw)) : MC l K yX5_takeOut cX5_takeOut 1 (some .boolean) rmX5_takeOut w [.ref (K.1 51)] (some (.int zx)) zw :=
  MC.of (by decide) (Nat.le_of_ble_eq_true rfl) rfl (AX5_takeOut  h)
def fX5_takeItem_L34 (N : Nat) (w : Mm) : Option (Int32 × Mm) :=
some ((0 : Int32), w)
set_option maxRecDepth 100000 in
set_option maxHeartbeats 4000000 in
theorem AX5_takeItem_L34 {l : Launch} {K : Kt} {N : Nat}   {w : Mm} {zx : Int32} {zw : Mm} (h : fX5_takeItem_L34 N w = some (zx, zw)) : AW l K cX5_takeItem RX5 2 (some .boolean) rmX5_takeItem 0 0 ap_E (ap_F K (some (.int zx)) zw) w 34 [] [] := by
  unfold fX5_takeItem_L34 at h
  refine ap_iconst (v := 0) dX5_takeItem_34 (by decide) ?_
  obtain ⟨rfl, rfl⟩ := Prod.mk.inj (Option.some.inj h)
  exact ap_zret rfl (Or.inl rfl) dX5_takeItem_35
def fX5_takeItem_L70 (N : Nat) (w : Mm) : Option (Int32 × Mm) :=
some ((0 : Int32), w)
set_option maxRecDepth 100000 in
set_option maxHeartbeats 4000000 in
theorem AX5_takeItem_L70 {l : Launch} {K : Kt} {N : Nat}   {w : Mm} {zx : Int32} {zw : Mm} (h : fX5_takeItem_L70 N w = some (zx, zw)) : AW l K cX5_takeItem RX5 2 (some .boolean) rmX5_takeItem 0 0 ap_E (ap_F K (some (.int zx)) zw) w 70 [] [] := by
  unfold fX5_takeItem_L70 at h
  refine ap_iconst (v := 0) dX5_takeItem_70 (by decide) ?_
  obtain ⟨rfl, rfl⟩ := Prod.mk.inj (Option.some.inj h)
  exact ap_zret rfl (Or.inl rfl) dX5_takeItem_71
def fX5_takeItem (N : Nat) (w : Mm) (x1 : Int32) : Option (Int32 × Mm) :=
if (w.1 51 4) = (1 : Int32) then (
if x1 = (0 : Int32) then (
Option.bind (fX5_spells N 1 w) fun a3 =>
if a3 = (0 : Int32) then (
Option.bind (fX5_spells N 2 w) fun a5 =>
if a5 = (0 : Int32) then (
fX5_takeItem_L70 N w)
else (
ob2 (fX5_takeOut N w) fun a7 m8 =>
if a7 = (0 : Int32) then (
fX5_takeItem_L70 N m8)
else (
some ((1 : Int32), m8))))
else (
ob2 (fX5_takeCandle N w) fun a10 m11 =>
Option.bind (bz a10) fun a12 =>
some (a12, m11)))
else (
Option.bind (fX5_spells N 0 w) fun a13 =>
if a13 = (0 : Int32) then (
fX5_takeItem_L34 N w)
else (
ob2 (fX5_takeFog N w) fun a15 m16 =>
if a15 = (0 : Int32) then (
fX5_takeItem_L34 N m16)
else (
some ((1 : Int32), m16)))))
else (
some ((0 : Int32), w))
set_option maxRecDepth 100000 in
set_option maxHeartbeats 4000000 in
theorem AX5_takeItem {l : Launch} {K : Kt} {N : Nat}  {w : Mm} {x1 : Int32} {zx : Int32} {zw : Mm} (h : fX5_takeItem N w x1 = some (zx, zw)) : AW l K cX5_takeItem RX5 2 (some .boolean) rmX5_takeItem 0 0 ap_E (ap_F K (some (.int zx)) zw) w 0 [(0, .ref (K.1 51)), (1, .int x1)] [] := by
  unfold fX5_takeItem at h
  refine ap_aload_n dX5_takeItem_0 0 rfl rfl ?_
  refine ap_get (v := .int (w.1 51 4)) fl_X5_29 ly_51 rfl rfl dX5_takeItem_1 ?_
  refine ap_iconst (v := 1) dX5_takeItem_4 (by decide) ?_
  refine ap_icmp_eq (tgt := 10) dX5_takeItem_5 (by decide) (fun hc1 => ?_) (fun hc1 => ?_)
  · rw [if_pos hc1] at h
    refine ap_iload_n dX5_takeItem_10 1 rfl rfl ?_
    refine ap_if_eq (tgt := 36) dX5_takeItem_11 (by decide) (fun hc2 => ?_) (fun hc2 => ?_)
    · rw [if_pos hc2] at h
      refine ap_aload_n dX5_takeItem_36 0 rfl rfl ?_
      refine ap_ldcS (i := 1) (tx := "") ⟨rfl, by decide⟩ dX5_takeItem_37 ?_
      obtain ⟨a3, ha3, h⟩ := Option.bind_eq_some_iff.mp h
      refine ap_callV (k := 51) (As := [.ref (K.2.2.2.1 1)]) (st := []) (st1 := [.int a3]) (mcX5_spells (by decide) (w := w) ha3) cv_X5_51 rfl ly_51 ⟨rfl, rfl, by decide, by decide⟩ rfl (Nat.le_of_ble_eq_true rfl) ⟨Nat.zero_le _, Nat.zero_le _⟩ dX5_takeItem_39 rfl rfl ?_
      refine ap_if_eq (tgt := 50) dX5_takeItem_42 (by decide) (fun hc4 => ?_) (fun hc4 => ?_)
      · rw [if_pos hc4] at h
        refine ap_aload_n dX5_takeItem_50 0 rfl rfl ?_
        refine ap_ldcS (i := 2) (tx := "") ⟨rfl, by decide⟩ dX5_takeItem_51 ?_
        obtain ⟨a5, ha5, h⟩ := Option.bind_eq_some_iff.mp h
        refine ap_callV (k := 51) (As := [.ref (K.2.2.2.1 2)]) (st := []) (st1 := [.int a5]) (mcX5_spells (by decide) (w := w) ha5) cv_X5_51 rfl ly_51 ⟨rfl, rfl, by decide, by decide⟩ rfl (Nat.le_of_ble_eq_true rfl) ⟨Nat.zero_le _, Nat.zero_le _⟩ dX5_takeItem_53 rfl rfl ?_
        refine ap_if_eq (tgt := 70) dX5_takeItem_56 (by decide) (fun hc6 => ?_) (fun hc6 => ?_)
        · rw [if_pos hc6] at h
          refine ap_sub [] rfl ?_
          exact AX5_takeItem_L70   h
        · rw [if_neg hc6] at h
          refine ap_aload_n dX5_takeItem_59 0 rfl rfl ?_
          obtain ⟨a7, m8, ha7, h⟩ := ob2_iff h
          refine ap_callV (k := 51) (As := []) (st := []) (st1 := [.int a7]) (mcX5_takeOut  ha7) cv_X5_66 rfl ly_51 ⟨rfl, rfl, by decide, by decide⟩ rfl (Nat.le_of_ble_eq_true rfl) ⟨Nat.zero_le _, Nat.zero_le _⟩ dX5_takeItem_60 rfl rfl ?_
          refine ap_if_eq (tgt := 70) dX5_takeItem_63 (by decide) (fun hc9 => ?_) (fun hc9 => ?_)
          · rw [if_pos hc9] at h
            refine ap_sub [] rfl ?_
            exact AX5_takeItem_L70   h
          · rw [if_neg hc9] at h
            refine ap_iconst (v := 1) dX5_takeItem_66 (by decide) ?_
            refine ap_goto (tgt := 71) dX5_takeItem_67 (by decide) ?_
            obtain ⟨rfl, rfl⟩ := Prod.mk.inj (Option.some.inj h)
            exact ap_zret rfl (Or.inr rfl) dX5_takeItem_71
      · rw [if_neg hc4] at h
        refine ap_aload_n dX5_takeItem_45 0 rfl rfl ?_
        obtain ⟨a10, m11, ha10, h⟩ := ob2_iff h
        refine ap_callV (k := 51) (As := []) (st := []) (st1 := [.int a10]) (mcX5_takeCandle  ha10) cv_X5_61 rfl ly_51 ⟨rfl, rfl, by decide, by decide⟩ rfl (Nat.le_of_ble_eq_true rfl) ⟨Nat.zero_le _, Nat.zero_le _⟩ dX5_takeItem_46 rfl rfl ?_
        obtain ⟨a12, ha12, h⟩ := Option.bind_eq_some_iff.mp h
        obtain ⟨rfl, rfl⟩ := Prod.mk.inj (Option.some.inj h)
        obtain ⟨ha12b, rfl⟩ := bz_some ha12
        exact ap_zret rfl ha12b dX5_takeItem_49
    · rw [if_neg hc2] at h
      refine ap_aload_n dX5_takeItem_14 0 rfl rfl ?_
      refine ap_ldcS (i := 0) (tx := "") ⟨rfl, by decide⟩ dX5_takeItem_15 ?_
      obtain ⟨a13, ha13, h⟩ := Option.bind_eq_some_iff.mp h
      refine ap_callV (k := 51) (As := [.ref (K.2.2.2.1 0)]) (st := []) (st1 := [.int a13]) (mcX5_spells (by decide) (w := w) ha13) cv_X5_51 rfl ly_51 ⟨rfl, rfl, by decide, by decide⟩ rfl (Nat.le_of_ble_eq_true rfl) ⟨Nat.zero_le _, Nat.zero_le _⟩ dX5_takeItem_17 rfl rfl ?_
      refine ap_if_eq (tgt := 34) dX5_takeItem_20 (by decide) (fun hc14 => ?_) (fun hc14 => ?_)
      · rw [if_pos hc14] at h
        refine ap_sub [] rfl ?_
        exact AX5_takeItem_L34   h
      · rw [if_neg hc14] at h
        refine ap_aload_n dX5_takeItem_23 0 rfl rfl ?_
        obtain ⟨a15, m16, ha15, h⟩ := ob2_iff h
        refine ap_callV (k := 51) (As := []) (st := []) (st1 := [.int a15]) (mcX5_takeFog  ha15) cv_X5_55 rfl ly_51 ⟨rfl, rfl, by decide, by decide⟩ rfl (Nat.le_of_ble_eq_true rfl) ⟨Nat.zero_le _, Nat.zero_le _⟩ dX5_takeItem_24 rfl rfl ?_
        refine ap_if_eq (tgt := 34) dX5_takeItem_27 (by decide) (fun hc17 => ?_) (fun hc17 => ?_)
        · rw [if_pos hc17] at h
          refine ap_sub [] rfl ?_
          exact AX5_takeItem_L34   h
        · rw [if_neg hc17] at h
          refine ap_iconst (v := 1) dX5_takeItem_30 (by decide) ?_
          refine ap_goto (tgt := 35) dX5_takeItem_31 (by decide) ?_
          obtain ⟨rfl, rfl⟩ := Prod.mk.inj (Option.some.inj h)
          exact ap_zret rfl (Or.inr rfl) dX5_takeItem_35
  · rw [if_neg hc1] at h
    refine ap_iconst (v := 0) dX5_takeItem_8 (by decide) ?_
    obtain ⟨rfl, rfl⟩ := Prod.mk.inj (Option.some.inj h)
    exact ap_zret rfl (Or.inl rfl) dX5_takeItem_9
theorem mcX5_takeItem {l : Launch} {K : Kt} {N : Nat}  {w : Mm} {x1 : Int32} {zx : Int32} {zw : Mm} (h : fX5_takeItem N w x1 = some (zx, zw)) : MC l K yX5_takeItem cX5_takeItem 2 (some .boolean) rmX5_takeItem w [.ref (K.1 51), .int x1] (some (.int zx)) zw :=
  MC.of (by decide) (Nat.le_of_ble_eq_true rfl) rfl (AX5_takeItem  h)
def fX8_startAnew (v : Nat) (w : Mm) (x1 : Int32) : Mm :=
(sI (sI (sI (sI (sI (sI w v 0 x1) v 1 (0 : Int32)) v 2 (0 : Int32)) v 8 (0 : Int32)) v 10 (0 : Int32)) v 14 (0 : Int32))
set_option maxRecDepth 100000 in
set_option maxHeartbeats 4000000 in
theorem AX8_startAnew {l : Launch} {K : Kt} {v : Nat} (hv : isV v) {w : Mm} {x1 : Int32} {zw : Mm} (h : fX8_startAnew v w x1 = zw) : AW l K cX8_startAnew RX8 2 none rmX8_startAnew 0 0 ap_E (ap_F K none zw) w 0 [(0, .ref (K.1 v)), (1, .int x1)] [] := by
  unfold fX8_startAnew at h
  refine ap_aload_n dX8_startAnew_0 0 rfl rfl ?_
  refine ap_iload_n dX8_startAnew_1 1 rfl rfl ?_
  refine ap_putI (w1 := sI w v 0 x1) fp_X8_9 (lyv_0 hv) rfl rfl dX8_startAnew_2 ?_
  refine ap_aload_n dX8_startAnew_5 0 rfl rfl ?_
  refine ap_iconst (v := 0) dX8_startAnew_6 (by decide) ?_
  refine ap_putI (w1 := sI (sI w v 0 x1) v 1 (0 : Int32)) fp_X8_15 (lyv_0 hv) rfl rfl dX8_startAnew_7 ?_
  refine ap_aload_n dX8_startAnew_10 0 rfl rfl ?_
  refine ap_iconst (v := 0) dX8_startAnew_11 (by decide) ?_
  refine ap_putI (w1 := sI (sI (sI w v 0 x1) v 1 (0 : Int32)) v 2 (0 : Int32)) fp_X8_18 (lyv_0 hv) rfl rfl dX8_startAnew_12 ?_
  refine ap_aload_n dX8_startAnew_15 0 rfl rfl ?_
  refine ap_iconst (v := 0) dX8_startAnew_16 (by decide) ?_
  refine ap_putI (w1 := sI (sI (sI (sI w v 0 x1) v 1 (0 : Int32)) v 2 (0 : Int32)) v 8 (0 : Int32)) fp_X8_37 (lyv_0 hv) rfl rfl dX8_startAnew_17 ?_
  refine ap_aload_n dX8_startAnew_20 0 rfl rfl ?_
  refine ap_iconst (v := 0) dX8_startAnew_21 (by decide) ?_
  refine ap_putI (w1 := sI (sI (sI (sI (sI w v 0 x1) v 1 (0 : Int32)) v 2 (0 : Int32)) v 8 (0 : Int32)) v 10 (0 : Int32)) fp_X8_43 (lyv_0 hv) rfl rfl dX8_startAnew_22 ?_
  refine ap_aload_n dX8_startAnew_25 0 rfl rfl ?_
  refine ap_iconst (v := 0) dX8_startAnew_26 (by decide) ?_
  refine ap_putI (w1 := sI (sI (sI (sI (sI (sI w v 0 x1) v 1 (0 : Int32)) v 2 (0 : Int32)) v 8 (0 : Int32)) v 10 (0 : Int32)) v 14 (0 : Int32)) fp_X8_55 (lyv_0 hv) rfl rfl dX8_startAnew_27 ?_
  subst h
  exact ap_vret rfl dX8_startAnew_30
theorem mcX8_startAnew {l : Launch} {K : Kt} {v : Nat} (hv : isV v) {w : Mm} {x1 : Int32} {zw : Mm} (h : fX8_startAnew v w x1 = zw) : MC l K yX8_startAnew cX8_startAnew 2 none rmX8_startAnew w [.ref (K.1 v), .int x1] none zw :=
  MC.of (by decide) (Nat.le_of_ble_eq_true rfl) rfl (AX8_startAnew hv h)
def fX5_parse_L49 (N : Nat) (k15 : Mm → Int32 → Option (Int32 × Mm)) (w : Mm) (x1 : Int32) (t0 : Int32) : Option (Int32 × Mm) :=
ob2 (fX5_takeItem N w t0) fun a8 m9 =>
if a8 = (0 : Int32) then (
some (((-10 : Int32) - (m9.1 51 5)), m9))
else (
k15 m9 (x1 + 1))
set_option maxRecDepth 100000 in
set_option maxHeartbeats 4000000 in
theorem AX5_parse_L49 {l : Launch} {K : Kt} {N : Nat} {k15 : Mm → Int32 → Option (Int32 × Mm)} (hk15 : ∀ (w : Mm) (x1 : Int32) (zx : Int32) (zw : Mm), k15 w x1 = some (zx, zw) → AW l K cX5_parse RX5 2 (some .int) rmX5_parse 0 0 ap_E (ap_F K (some (.int zx)) zw) w 15 [(0, .ref (K.1 51)), (1, .int x1)] [])  {w : Mm} {x1 : Int32} {t0 : Int32} {zx : Int32} {zw : Mm} (h : fX5_parse_L49 N k15 w x1 t0 = some (zx, zw)) : AW l K cX5_parse RX5 2 (some .int) rmX5_parse 0 0 ap_E (ap_F K (some (.int zx)) zw) w 49 [(0, .ref (K.1 51)), (1, .int x1)] [.int t0, .ref (K.1 51)] := by
  unfold fX5_parse_L49 at h
  obtain ⟨a8, m9, ha8, h⟩ := ob2_iff h
  refine ap_callV (k := 51) (As := [.int t0]) (st := []) (st1 := [.int a8]) (mcX5_takeItem  ha8) cv_X5_45 rfl ly_51 ⟨rfl, rfl, by decide, by decide⟩ rfl (Nat.le_of_ble_eq_true rfl) ⟨Nat.zero_le _, Nat.zero_le _⟩ dX5_parse_49 rfl rfl ?_
  refine ap_if_ne (tgt := 58) dX5_parse_52 (by decide) (fun hc10 => ?_) (fun hc10 => ?_)
  · rw [if_neg hc10] at h
    refine ap_iinc (v := x1 + 1) (lv' := [(1, .int (x1 + 1)), (0, .ref (K.1 51))]) dX5_parse_58 1 rfl rfl (by decide) rfl ?_
    refine ap_goto (tgt := 15) dX5_parse_61 (by decide) ?_
    refine ap_sub [1, 0] rfl ?_
    exact hk15 _ _ _ _ h
  · rw [if_pos hc10] at h
    refine ap_goto (tgt := 64) dX5_parse_55 (by decide) ?_
    refine ap_bipush (v := -10) dX5_parse_64 (by decide) ?_
    refine ap_aload_n dX5_parse_66 0 rfl rfl ?_
    refine ap_get (v := .int (m9.1 51 5)) fl_X5_32 ly_51 rfl rfl dX5_parse_67 ?_
    refine ap_isub dX5_parse_70 ?_
    obtain ⟨rfl, rfl⟩ := Prod.mk.inj (Option.some.inj h)
    exact ap_iret rfl dX5_parse_71
def fX5_parse_L39 (N : Nat) (k15 : Mm → Int32 → Option (Int32 × Mm)) (w : Mm) (x1 : Int32) : Option (Int32 × Mm) :=
if x1 = (0 : Int32) then (
fX5_parse_L49 N k15 w x1 (1 : Int32))
else (
fX5_parse_L49 N k15 w x1 (0 : Int32))
set_option maxRecDepth 100000 in
set_option maxHeartbeats 4000000 in
theorem AX5_parse_L39 {l : Launch} {K : Kt} {N : Nat} {k15 : Mm → Int32 → Option (Int32 × Mm)} (hk15 : ∀ (w : Mm) (x1 : Int32) (zx : Int32) (zw : Mm), k15 w x1 = some (zx, zw) → AW l K cX5_parse RX5 2 (some .int) rmX5_parse 0 0 ap_E (ap_F K (some (.int zx)) zw) w 15 [(0, .ref (K.1 51)), (1, .int x1)] [])  {w : Mm} {x1 : Int32} {zx : Int32} {zw : Mm} (h : fX5_parse_L39 N k15 w x1 = some (zx, zw)) : AW l K cX5_parse RX5 2 (some .int) rmX5_parse 0 0 ap_E (ap_F K (some (.int zx)) zw) w 39 [(0, .ref (K.1 51)), (1, .int x1)] [] := by
  unfold fX5_parse_L39 at h
  refine ap_aload_n dX5_parse_39 0 rfl rfl ?_
  refine ap_iload_n dX5_parse_40 1 rfl rfl ?_
  refine ap_if_ne (tgt := 48) dX5_parse_41 (by decide) (fun hc7 => ?_) (fun hc7 => ?_)
  · rw [if_neg hc7] at h
    refine ap_iconst (v := 0) dX5_parse_48 (by decide) ?_
    exact AX5_parse_L49 hk15  h
  · rw [if_pos hc7] at h
    refine ap_iconst (v := 1) dX5_parse_44 (by decide) ?_
    refine ap_goto (tgt := 49) dX5_parse_45 (by decide) ?_
    exact AX5_parse_L49 hk15  h
def fX5_parse_L15 (N : Nat) : Nat → Mm → Int32 → Option (Int32 × Mm)
  | 0, _, _ => none
  | n0 + 1, w, x1 => if (150 : Int32) < x1 then (
some (((-10 : Int32) - (w.1 51 5)), w))
else (
Option.bind (fX5_advance N w) fun m4 =>
if (m4.1 51 4) = (0 : Int32) then (
if x1 ≤ (0 : Int32) then (
fX5_parse_L39 N (fX5_parse_L15 N n0) m4 x1)
else (
some (x1, m4)))
else (
fX5_parse_L39 N (fX5_parse_L15 N n0) m4 x1))
set_option maxRecDepth 100000 in
set_option maxHeartbeats 4000000 in
theorem AX5_parse_L15 {l : Launch} {K : Kt} {N : Nat}   : ∀ (n0 : Nat) (w : Mm) (x1 : Int32) {zx : Int32} {zw : Mm}, fX5_parse_L15 N n0 w x1 = some (zx, zw) → AW l K cX5_parse RX5 2 (some .int) rmX5_parse 0 0 ap_E (ap_F K (some (.int zx)) zw) w 15 [(0, .ref (K.1 51)), (1, .int x1)] [] := by
  intro n0
  induction n0 with
  | zero =>
    intro w x1 zx zw h
    cases h
  | succ n0 ih =>
    intro w x1 zx zw h
    rw [fX5_parse_L15] at h
    refine ap_iload_n dX5_parse_15 1 rfl rfl ?_
    refine ap_sipush (v := 150) dX5_parse_16 (by decide) ?_
    refine ap_icmp_gt (tgt := 64) dX5_parse_19 (by decide) (fun hc3 => ?_) (fun hc3 => ?_)
    · rw [if_pos hc3] at h
      refine ap_bipush (v := -10) dX5_parse_64 (by decide) ?_
      refine ap_aload_n dX5_parse_66 0 rfl rfl ?_
      refine ap_get (v := .int (w.1 51 5)) fl_X5_32 ly_51 rfl rfl dX5_parse_67 ?_
      refine ap_isub dX5_parse_70 ?_
      obtain ⟨rfl, rfl⟩ := Prod.mk.inj (Option.some.inj h)
      exact ap_iret rfl dX5_parse_71
    · rw [if_neg hc3] at h
      refine ap_aload_n dX5_parse_22 0 rfl rfl ?_
      obtain ⟨m4, hm4, h⟩ := Option.bind_eq_some_iff.mp h
      refine ap_callV (k := 51) (As := []) (st := []) (st1 := []) (mcX5_advance  hm4) cv_X5_42 rfl ly_51 ⟨rfl, rfl, by decide, by decide⟩ rfl (Nat.le_of_ble_eq_true rfl) ⟨Nat.zero_le _, Nat.zero_le _⟩ dX5_parse_23 rfl rfl ?_
      refine ap_aload_n dX5_parse_26 0 rfl rfl ?_
      refine ap_get (v := .int (m4.1 51 4)) fl_X5_29 ly_51 rfl rfl dX5_parse_27 ?_
      refine ap_if_ne (tgt := 39) dX5_parse_30 (by decide) (fun hc5 => ?_) (fun hc5 => ?_)
      · rw [if_neg hc5] at h
        exact AX5_parse_L39 (fun q0 q1 q2 q3 hq => ih q0 q1 hq)  h
      · rw [if_pos hc5] at h
        refine ap_iload_n dX5_parse_33 1 rfl rfl ?_
        refine ap_if_le (tgt := 39) dX5_parse_34 (by decide) (fun hc6 => ?_) (fun hc6 => ?_)
        · rw [if_pos hc6] at h
          exact AX5_parse_L39 (fun q0 q1 q2 q3 hq => ih q0 q1 hq)  h
        · rw [if_neg hc6] at h
          refine ap_iload_n dX5_parse_37 1 rfl rfl ?_
          obtain ⟨rfl, rfl⟩ := Prod.mk.inj (Option.some.inj h)
          exact ap_iret rfl dX5_parse_38
def fX5_parse (N : Nat) (w : Mm) : Option (Int32 × Mm) :=
Option.bind (some (sI w 51 3 (0 : Int32))) fun m1 =>
Option.bind (some (fX8_startAnew 37 m1 (0 : Int32))) fun m2 =>
fX5_parse_L15 N N m2 (0 : Int32)
set_option maxRecDepth 100000 in
set_option maxHeartbeats 4000000 in
theorem AX5_parse {l : Launch} {K : Kt} {N : Nat}  {w : Mm} {zx : Int32} {zw : Mm} (h : fX5_parse N w = some (zx, zw)) : AW l K cX5_parse RX5 2 (some .int) rmX5_parse 0 0 ap_E (ap_F K (some (.int zx)) zw) w 0 [(0, .ref (K.1 51))] [] := by
  unfold fX5_parse at h
  refine ap_aload_n dX5_parse_0 0 rfl rfl ?_
  refine ap_iconst (v := 0) dX5_parse_1 (by decide) ?_
  obtain ⟨m1, hm1, h⟩ := Option.bind_eq_some_iff.mp h
  refine ap_putI fp_X5_26 ly_51 rfl (Option.some.inj hm1) dX5_parse_2 ?_
  refine ap_aload_n dX5_parse_5 0 rfl rfl ?_
  refine ap_get (v := .ref (K.1 37)) fl_X5_12 ly_51 rfl rfl dX5_parse_6 ?_
  refine ap_iconst (v := 0) dX5_parse_9 (by decide) ?_
  obtain ⟨m2, hm2, h⟩ := Option.bind_eq_some_iff.mp h
  refine ap_callV (k := 37) (As := [.int (0 : Int32)]) (st := []) (st1 := []) (mcX8_startAnew isV_37 (Option.some.inj hm2)) cv_X5_38 rfl ly_37 ⟨rfl, rfl, by decide, by decide⟩ rfl (Nat.le_of_ble_eq_true rfl) ⟨Nat.zero_le _, Nat.zero_le _⟩ dX5_parse_10 rfl rfl ?_
  refine ap_iconst (v := 0) dX5_parse_13 (by decide) ?_
  refine ap_istore_n (i := 1) (lv' := [(1, .int (0 : Int32)), (0, .ref (K.1 51))]) dX5_parse_14 rfl (by decide) rfl ?_
  refine ap_sub [1, 0] rfl ?_
  exact AX5_parse_L15  N _ _ h
theorem mcX5_parse {l : Launch} {K : Kt} {N : Nat}  {w : Mm} {zx : Int32} {zw : Mm} (h : fX5_parse N w = some (zx, zw)) : MC l K yX5_parse cX5_parse 2 (some .int) rmX5_parse w [.ref (K.1 51)] (some (.int zx)) zw :=
  MC.of (by decide) (Nat.le_of_ble_eq_true rfl) rfl (AX5_parse  h)
def fX6_howManySets (w : Mm) : Int32 :=
((1 : Int32) <<< ((w.1 1 1) &&& 31))
set_option maxRecDepth 100000 in
set_option maxHeartbeats 4000000 in
theorem AX6_howManySets {l : Launch} {K : Kt} {w : Mm}  {zx : Int32} (h : fX6_howManySets w = zx) : AW l K cX6_howManySets RX6 1 (some .int) rmX6_howManySets 0 0 ap_E (ap_F K (some (.int zx)) w) w 0 [(0, .ref (K.1 68))] [] := by
  unfold fX6_howManySets at h
  refine ap_iconst (v := 1) dX6_howManySets_0 (by decide) ?_
  refine ap_aload_n dX6_howManySets_1 0 rfl rfl ?_
  refine ap_get (v := .ref (K.1 1)) fl_X6_29 ly_68 rfl rfl dX6_howManySets_2 ?_
  refine ap_get (v := .int (w.1 1 1)) fl_X6_37 ly_1 rfl rfl dX6_howManySets_5 ?_
  refine ap_ishl dX6_howManySets_8 ?_
  subst h
  exact ap_iret rfl dX6_howManySets_9
theorem mcX6_howManySets {l : Launch} {K : Kt} {w : Mm}  {zx : Int32} (h : fX6_howManySets w = zx) : MC l K yX6_howManySets cX6_howManySets 1 (some .int) rmX6_howManySets w [.ref (K.1 68)] (some (.int zx)) w :=
  MC.of (by decide) (Nat.le_of_ble_eq_true rfl) rfl (AX6_howManySets  h)
def fX6_layWanted_L2 (N : Nat) : Nat → Mm → Int32 → Int32 → Int32 → Option Mm
  | 0, _, _, _, _ => none
  | n0 + 1, w, x1, x2, x3 => if (w.1 1 8) ≤ x3 then (
some w)
else (
Option.bind (rdA w 7 6 x3) fun a2 =>
Option.bind (fX3_reaching N w a2 x1 x2) fun a3 =>
Option.bind (wrA w 69 6 x3 a3) fun m4 =>
(fX6_layWanted_L2 N n0) m4 x1 x2 (x3 + 1))
set_option maxRecDepth 100000 in
set_option maxHeartbeats 4000000 in
theorem AX6_layWanted_L2 {l : Launch} {K : Kt} {N : Nat}   : ∀ (n0 : Nat) (w : Mm) (x1 : Int32) (x2 : Int32) (x3 : Int32) {zw : Mm}, fX6_layWanted_L2 N n0 w x1 x2 x3 = some zw → AW l K cX6_layWanted RX6 4 none rmX6_layWanted 0 0 ap_E (ap_F K none zw) w 2 [(0, .ref (K.1 68)), (1, .int x1), (2, .int x2), (3, .int x3)] [] := by
  intro n0
  induction n0 with
  | zero =>
    intro w x1 x2 x3 zw h
    cases h
  | succ n0 ih =>
    intro w x1 x2 x3 zw h
    rw [fX6_layWanted_L2] at h
    refine ap_iload_n dX6_layWanted_2 3 rfl rfl ?_
    refine ap_aload_n dX6_layWanted_3 0 rfl rfl ?_
    refine ap_get (v := .ref (K.1 1)) fl_X6_29 ly_68 rfl rfl dX6_layWanted_4 ?_
    refine ap_get (v := .int (w.1 1 8)) fl_X6_42 ly_1 rfl rfl dX6_layWanted_7 ?_
    refine ap_icmp_ge (tgt := 43) dX6_layWanted_10 (by decide) (fun hc1 => ?_) (fun hc1 => ?_)
    · rw [if_pos hc1] at h
      obtain rfl := Option.some.inj h
      exact ap_vret rfl dX6_layWanted_43
    · rw [if_neg hc1] at h
      refine ap_aload_n dX6_layWanted_13 0 rfl rfl ?_
      refine ap_get (v := .ref (K.1 69)) fl_X6_9 ly_68 rfl rfl dX6_layWanted_14 ?_
      refine ap_iload_n dX6_layWanted_17 3 rfl rfl ?_
      refine ap_aload_n dX6_layWanted_18 0 rfl rfl ?_
      refine ap_get (v := .ref (K.1 53)) fl_X6_33 ly_68 rfl rfl dX6_layWanted_19 ?_
      refine ap_aload_n dX6_layWanted_22 0 rfl rfl ?_
      refine ap_get (v := .ref (K.1 1)) fl_X6_29 ly_68 rfl rfl dX6_layWanted_23 ?_
      refine ap_get (v := .ref (K.1 7)) fl_X6_45 ly_1 rfl rfl dX6_layWanted_26 ?_
      refine ap_iload_n dX6_layWanted_29 3 rfl rfl ?_
      obtain ⟨a2, ha2, h⟩ := Option.bind_eq_some_iff.mp h
      refine ap_iald ly_7 ha2 dX6_layWanted_30 ?_
      refine ap_iload_n dX6_layWanted_31 1 rfl rfl ?_
      refine ap_iload_n dX6_layWanted_32 2 rfl rfl ?_
      obtain ⟨a3, ha3, h⟩ := Option.bind_eq_some_iff.mp h
      refine ap_callV (k := 53) (As := [.int a2, .int x1, .int x2]) (st := [.int x3, .ref (K.1 69)]) (st1 := [.int a3, .int x3, .ref (K.1 69)]) (mcX3_reaching  (w := w) ha3) cv_X6_48 rfl ly_53 ⟨rfl, rfl, by decide, by decide⟩ rfl (Nat.le_of_ble_eq_true rfl) ⟨Nat.zero_le _, Nat.zero_le _⟩ dX6_layWanted_33 rfl rfl ?_
      obtain ⟨m4, hm4, h⟩ := Option.bind_eq_some_iff.mp h
      refine ap_iast ly_69 hm4 dX6_layWanted_36 ?_
      refine ap_iinc (v := x3 + 1) (lv' := [(3, .int (x3 + 1)), (0, .ref (K.1 68)), (1, .int x1), (2, .int x2)]) dX6_layWanted_37 3 rfl rfl (by decide) rfl ?_
      refine ap_goto (tgt := 2) dX6_layWanted_40 (by decide) ?_
      refine ap_sub [1, 2, 3, 0] rfl ?_
      exact ih _ _ _ _ h
def fX6_layWanted (N : Nat) (w : Mm) (x1 : Int32) (x2 : Int32) : Option Mm :=
fX6_layWanted_L2 N N w x1 x2 (0 : Int32)
set_option maxRecDepth 100000 in
set_option maxHeartbeats 4000000 in
theorem AX6_layWanted {l : Launch} {K : Kt} {N : Nat}  {w : Mm} {x1 : Int32} {x2 : Int32} {zw : Mm} (h : fX6_layWanted N w x1 x2 = some zw) : AW l K cX6_layWanted RX6 4 none rmX6_layWanted 0 0 ap_E (ap_F K none zw) w 0 [(0, .ref (K.1 68)), (1, .int x1), (2, .int x2)] [] := by
  unfold fX6_layWanted at h
  refine ap_iconst (v := 0) dX6_layWanted_0 (by decide) ?_
  refine ap_istore_n (i := 3) (lv' := [(3, .int (0 : Int32)), (0, .ref (K.1 68)), (1, .int x1), (2, .int x2)]) dX6_layWanted_1 rfl (by decide) rfl ?_
  refine ap_sub [1, 2, 3, 0] rfl ?_
  exact AX6_layWanted_L2  N _ _ _ _ h
theorem mcX6_layWanted {l : Launch} {K : Kt} {N : Nat}  {w : Mm} {x1 : Int32} {x2 : Int32} {zw : Mm} (h : fX6_layWanted N w x1 x2 = some zw) : MC l K yX6_layWanted cX6_layWanted 4 none rmX6_layWanted w [.ref (K.1 68), .int x1, .int x2] none zw :=
  MC.of (by decide) (Nat.le_of_ble_eq_true rfl) rfl (AX6_layWanted  h)
def fX6_lightsWanted_L2 (N : Nat) (w : Mm) : Nat → Int32 → Int32 → Option Int32
  | 0, _, _ => none
  | n0 + 1, x1, x2 => if (w.1 1 8) ≤ x2 then (
some (1 : Int32))
else (
Option.bind (rdA w 69 6 x2) fun a2 =>
if (x1 &&& a2) = (0 : Int32) then (
some (0 : Int32))
else (
(fX6_lightsWanted_L2 N w n0) x1 (x2 + 1)))
set_option maxRecDepth 100000 in
set_option maxHeartbeats 4000000 in
theorem AX6_lightsWanted_L2 {l : Launch} {K : Kt} {N : Nat} {w : Mm}   : ∀ (n0 : Nat) (x1 : Int32) (x2 : Int32) {zx : Int32}, fX6_lightsWanted_L2 N w n0 x1 x2 = some zx → AW l K cX6_lightsWanted RX6 3 (some .boolean) rmX6_lightsWanted 0 0 ap_E (ap_F K (some (.int zx)) w) w 2 [(0, .ref (K.1 68)), (1, .int x1), (2, .int x2)] [] := by
  intro n0
  induction n0 with
  | zero =>
    intro x1 x2 zx h
    cases h
  | succ n0 ih =>
    intro x1 x2 zx h
    rw [fX6_lightsWanted_L2] at h
    refine ap_iload_n dX6_lightsWanted_2 2 rfl rfl ?_
    refine ap_aload_n dX6_lightsWanted_3 0 rfl rfl ?_
    refine ap_get (v := .ref (K.1 1)) fl_X6_29 ly_68 rfl rfl dX6_lightsWanted_4 ?_
    refine ap_get (v := .int (w.1 1 8)) fl_X6_42 ly_1 rfl rfl dX6_lightsWanted_7 ?_
    refine ap_icmp_ge (tgt := 32) dX6_lightsWanted_10 (by decide) (fun hc1 => ?_) (fun hc1 => ?_)
    · rw [if_pos hc1] at h
      refine ap_iconst (v := 1) dX6_lightsWanted_32 (by decide) ?_
      obtain rfl := Option.some.inj h
      exact ap_zret rfl (Or.inr rfl) dX6_lightsWanted_33
    · rw [if_neg hc1] at h
      refine ap_iload_n dX6_lightsWanted_13 1 rfl rfl ?_
      refine ap_aload_n dX6_lightsWanted_14 0 rfl rfl ?_
      refine ap_get (v := .ref (K.1 69)) fl_X6_9 ly_68 rfl rfl dX6_lightsWanted_15 ?_
      refine ap_iload_n dX6_lightsWanted_18 2 rfl rfl ?_
      obtain ⟨a2, ha2, h⟩ := Option.bind_eq_some_iff.mp h
      refine ap_iald ly_69 ha2 dX6_lightsWanted_19 ?_
      refine ap_iand dX6_lightsWanted_20 ?_
      refine ap_if_ne (tgt := 26) dX6_lightsWanted_21 (by decide) (fun hc3 => ?_) (fun hc3 => ?_)
      · rw [if_neg hc3] at h
        refine ap_iinc (v := x2 + 1) (lv' := [(2, .int (x2 + 1)), (0, .ref (K.1 68)), (1, .int x1)]) dX6_lightsWanted_26 2 rfl rfl (by decide) rfl ?_
        refine ap_goto (tgt := 2) dX6_lightsWanted_29 (by decide) ?_
        refine ap_sub [1, 2, 0] rfl ?_
        exact ih _ _ h
      · rw [if_pos hc3] at h
        refine ap_iconst (v := 0) dX6_lightsWanted_24 (by decide) ?_
        obtain rfl := Option.some.inj h
        exact ap_zret rfl (Or.inl rfl) dX6_lightsWanted_25
def fX6_lightsWanted (N : Nat) (w : Mm) (x1 : Int32) : Option Int32 :=
fX6_lightsWanted_L2 N w N x1 (0 : Int32)
set_option maxRecDepth 100000 in
set_option maxHeartbeats 4000000 in
theorem AX6_lightsWanted {l : Launch} {K : Kt} {N : Nat} {w : Mm}  {x1 : Int32} {zx : Int32} (h : fX6_lightsWanted N w x1 = some zx) : AW l K cX6_lightsWanted RX6 3 (some .boolean) rmX6_lightsWanted 0 0 ap_E (ap_F K (some (.int zx)) w) w 0 [(0, .ref (K.1 68)), (1, .int x1)] [] := by
  unfold fX6_lightsWanted at h
  refine ap_iconst (v := 0) dX6_lightsWanted_0 (by decide) ?_
  refine ap_istore_n (i := 2) (lv' := [(2, .int (0 : Int32)), (0, .ref (K.1 68)), (1, .int x1)]) dX6_lightsWanted_1 rfl (by decide) rfl ?_
  refine ap_sub [1, 2, 0] rfl ?_
  exact AX6_lightsWanted_L2  N _ _ h
theorem mcX6_lightsWanted {l : Launch} {K : Kt} {N : Nat} {w : Mm}  {x1 : Int32} {zx : Int32} (h : fX6_lightsWanted N w x1 = some zx) : MC l K yX6_lightsWanted cX6_lightsWanted 3 (some .boolean) rmX6_lightsWanted w [.ref (K.1 68), .int x1] (some (.int zx)) w :=
  MC.of (by decide) (Nat.le_of_ble_eq_true rfl) rfl (AX6_lightsWanted  h)
def fX6_fewest_L36 (N : Nat) (k4 : Int32 → Int32 → Option Int32) (w : Mm) (x2 : Int32) : Option Int32 :=
k4 x2 (x2 + 1)
set_option maxRecDepth 100000 in
set_option maxHeartbeats 4000000 in
theorem AX6_fewest_L36 {l : Launch} {K : Kt} {N : Nat} {w : Mm} {k4 : Int32 → Int32 → Option Int32} (hk4 : ∀ (x1 : Int32) (x2 : Int32) (zx : Int32), k4 x1 x2 = some zx → AW l K cX6_fewest RX6 3 (some .int) rmX6_fewest 0 0 ap_E (ap_F K (some (.int zx)) w) w 4 [(0, .ref (K.1 68)), (1, .int x1), (2, .int x2)] [])  {x2 : Int32} {zx : Int32} (h : fX6_fewest_L36 N k4 w x2 = some zx) : AW l K cX6_fewest RX6 3 (some .int) rmX6_fewest 0 0 ap_E (ap_F K (some (.int zx)) w) w 36 [(0, .ref (K.1 68)), (2, .int x2)] [] := by
  unfold fX6_fewest_L36 at h
  refine ap_iload_n dX6_fewest_36 1 rfl rfl ?_
  refine ap_istore_n (i := 1) (lv' := [(1, .int x2), (0, .ref (K.1 68)), (2, .int x2)]) dX6_fewest_37 rfl (by decide) rfl ?_
  refine ap_iinc (v := x2 + 1) (lv' := [(2, .int (x2 + 1)), (1, .int x2), (0, .ref (K.1 68))]) dX6_fewest_38 2 rfl rfl (by decide) rfl ?_
  refine ap_goto (tgt := 4) dX6_fewest_41 (by decide) ?_
  refine ap_sub [2, 1, 0] rfl ?_
  exact hk4 _ _ _ h
def fX6_fewest_L4 (N : Nat) (w : Mm) : Nat → Int32 → Int32 → Option Int32
  | 0, _, _ => none
  | n0 + 1, x1, x2 => if (fX6_howManySets w) ≤ x2 then (
some x1)
else (
Option.bind (fX6_lightsWanted N w x2) fun a2 =>
if a2 = (0 : Int32) then (
(fX6_fewest_L4 N w n0) x1 (x2 + 1))
else (
if x1 = (-1 : Int32) then (
fX6_fewest_L36 N (fX6_fewest_L4 N w n0) w x2)
else (
if (fJ6_bitCount_0f7a4 x1) ≤ (fJ6_bitCount_0f7a4 x2) then (
(fX6_fewest_L4 N w n0) x1 (x2 + 1))
else (
fX6_fewest_L36 N (fX6_fewest_L4 N w n0) w x2))))
set_option maxRecDepth 100000 in
set_option maxHeartbeats 4000000 in
theorem AX6_fewest_L4 {l : Launch} {K : Kt} {N : Nat} {w : Mm}   : ∀ (n0 : Nat) (x1 : Int32) (x2 : Int32) {zx : Int32}, fX6_fewest_L4 N w n0 x1 x2 = some zx → AW l K cX6_fewest RX6 3 (some .int) rmX6_fewest 0 0 ap_E (ap_F K (some (.int zx)) w) w 4 [(0, .ref (K.1 68)), (1, .int x1), (2, .int x2)] [] := by
  intro n0
  induction n0 with
  | zero =>
    intro x1 x2 zx h
    cases h
  | succ n0 ih =>
    intro x1 x2 zx h
    rw [fX6_fewest_L4] at h
    refine ap_iload_n dX6_fewest_4 2 rfl rfl ?_
    refine ap_aload_n dX6_fewest_5 0 rfl rfl ?_
    refine ap_callV (k := 68) (As := []) (st := [.int x2]) (st1 := [.int (fX6_howManySets w), .int x2]) (mcX6_howManySets  (w := w) (zx := fX6_howManySets w) rfl) cv_X6_54 rfl ly_68 ⟨rfl, rfl, by decide, by decide⟩ rfl (Nat.le_of_ble_eq_true rfl) ⟨Nat.zero_le _, Nat.zero_le _⟩ dX6_fewest_6 rfl rfl ?_
    refine ap_icmp_ge (tgt := 44) dX6_fewest_9 (by decide) (fun hc1 => ?_) (fun hc1 => ?_)
    · rw [if_pos hc1] at h
      refine ap_iload_n dX6_fewest_44 1 rfl rfl ?_
      obtain rfl := Option.some.inj h
      exact ap_iret rfl dX6_fewest_45
    · rw [if_neg hc1] at h
      refine ap_aload_n dX6_fewest_12 0 rfl rfl ?_
      refine ap_iload_n dX6_fewest_13 2 rfl rfl ?_
      obtain ⟨a2, ha2, h⟩ := Option.bind_eq_some_iff.mp h
      refine ap_callV (k := 68) (As := [.int x2]) (st := []) (st1 := [.int a2]) (mcX6_lightsWanted  (w := w) ha2) cv_X6_58 rfl ly_68 ⟨rfl, rfl, by decide, by decide⟩ rfl (Nat.le_of_ble_eq_true rfl) ⟨Nat.zero_le _, Nat.zero_le _⟩ dX6_fewest_14 rfl rfl ?_
      refine ap_if_eq (tgt := 38) dX6_fewest_17 (by decide) (fun hc3 => ?_) (fun hc3 => ?_)
      · rw [if_pos hc3] at h
        refine ap_iinc (v := x2 + 1) (lv' := [(2, .int (x2 + 1)), (0, .ref (K.1 68)), (1, .int x1)]) dX6_fewest_38 2 rfl rfl (by decide) rfl ?_
        refine ap_goto (tgt := 4) dX6_fewest_41 (by decide) ?_
        refine ap_sub [1, 2, 0] rfl ?_
        exact ih _ _ h
      · rw [if_neg hc3] at h
        refine ap_iload_n dX6_fewest_20 1 rfl rfl ?_
        refine ap_iconst (v := -1) dX6_fewest_21 (by decide) ?_
        refine ap_icmp_eq (tgt := 36) dX6_fewest_22 (by decide) (fun hc4 => ?_) (fun hc4 => ?_)
        · rw [if_pos hc4] at h
          refine ap_sub [0, 2] rfl ?_
          exact AX6_fewest_L36 (fun q0 q1 q2 hq => ih q0 q1 hq)  h
        · rw [if_neg hc4] at h
          refine ap_iload_n dX6_fewest_25 2 rfl rfl ?_
          refine ap_callS (As := [.int x2]) (st := []) (st1 := [.int (fJ6_bitCount_0f7a4 x2)]) (mcJ6_bitCount_0f7a4  (w := w) (zx := fJ6_bitCount_0f7a4 x2) rfl) cs_X6_62 ⟨rfl, rfl, by decide, by decide⟩ rfl (Nat.le_of_ble_eq_true rfl) ⟨Nat.zero_le _, Nat.zero_le _⟩ dX6_fewest_26 rfl rfl ?_
          refine ap_iload_n dX6_fewest_29 1 rfl rfl ?_
          refine ap_callS (As := [.int x1]) (st := [.int (fJ6_bitCount_0f7a4 x2)]) (st1 := [.int (fJ6_bitCount_0f7a4 x1), .int (fJ6_bitCount_0f7a4 x2)]) (mcJ6_bitCount_0f7a4  (w := w) (zx := fJ6_bitCount_0f7a4 x1) rfl) cs_X6_62 ⟨rfl, rfl, by decide, by decide⟩ rfl (Nat.le_of_ble_eq_true rfl) ⟨Nat.zero_le _, Nat.zero_le _⟩ dX6_fewest_30 rfl rfl ?_
          refine ap_icmp_ge (tgt := 38) dX6_fewest_33 (by decide) (fun hc5 => ?_) (fun hc5 => ?_)
          · rw [if_pos hc5] at h
            refine ap_iinc (v := x2 + 1) (lv' := [(2, .int (x2 + 1)), (0, .ref (K.1 68)), (1, .int x1)]) dX6_fewest_38 2 rfl rfl (by decide) rfl ?_
            refine ap_goto (tgt := 4) dX6_fewest_41 (by decide) ?_
            refine ap_sub [1, 2, 0] rfl ?_
            exact ih _ _ h
          · rw [if_neg hc5] at h
            refine ap_sub [0, 2] rfl ?_
            exact AX6_fewest_L36 (fun q0 q1 q2 hq => ih q0 q1 hq)  h
def fX6_fewest (N : Nat) (w : Mm) : Option Int32 :=
fX6_fewest_L4 N w N (-1 : Int32) (0 : Int32)
set_option maxRecDepth 100000 in
set_option maxHeartbeats 4000000 in
theorem AX6_fewest {l : Launch} {K : Kt} {N : Nat} {w : Mm}  {zx : Int32} (h : fX6_fewest N w = some zx) : AW l K cX6_fewest RX6 3 (some .int) rmX6_fewest 0 0 ap_E (ap_F K (some (.int zx)) w) w 0 [(0, .ref (K.1 68))] [] := by
  unfold fX6_fewest at h
  refine ap_iconst (v := -1) dX6_fewest_0 (by decide) ?_
  refine ap_istore_n (i := 1) (lv' := [(1, .int (-1 : Int32)), (0, .ref (K.1 68))]) dX6_fewest_1 rfl (by decide) rfl ?_
  refine ap_iconst (v := 0) dX6_fewest_2 (by decide) ?_
  refine ap_istore_n (i := 2) (lv' := [(2, .int (0 : Int32)), (1, .int (-1 : Int32)), (0, .ref (K.1 68))]) dX6_fewest_3 rfl (by decide) rfl ?_
  refine ap_sub [2, 1, 0] rfl ?_
  exact AX6_fewest_L4  N _ _ h
theorem mcX6_fewest {l : Launch} {K : Kt} {N : Nat} {w : Mm}  {zx : Int32} (h : fX6_fewest N w = some zx) : MC l K yX6_fewest cX6_fewest 3 (some .int) rmX6_fewest w [.ref (K.1 68)] (some (.int zx)) w :=
  MC.of (by decide) (Nat.le_of_ble_eq_true rfl) rfl (AX6_fewest  h)
def fX6_tallowOf_L4 (N : Nat) (w : Mm) : Nat → Int32 → Int32 → Int32 → Option Int32
  | 0, _, _, _ => none
  | n0 + 1, x1, x2, x3 => if (w.1 1 1) ≤ x3 then (
some x2)
else (
if ((x1 >>> (x3 &&& 31)) &&& (1 : Int32)) = (1 : Int32) then (
Option.bind (rdA w 6 7 x3) fun a3 =>
(fX6_tallowOf_L4 N w n0) x1 (x2 + a3) (x3 + 1))
else (
(fX6_tallowOf_L4 N w n0) x1 (x2 + (0 : Int32)) (x3 + 1)))
set_option maxRecDepth 100000 in
set_option maxHeartbeats 4000000 in
theorem AX6_tallowOf_L4 {l : Launch} {K : Kt} {N : Nat} {w : Mm}   : ∀ (n0 : Nat) (x1 : Int32) (x2 : Int32) (x3 : Int32) {zx : Int32}, fX6_tallowOf_L4 N w n0 x1 x2 x3 = some zx → AW l K cX6_tallowOf RX6 4 (some .int) rmX6_tallowOf 0 0 ap_E (ap_F K (some (.int zx)) w) w 4 [(0, .ref (K.1 68)), (1, .int x1), (2, .int x2), (3, .int x3)] [] := by
  intro n0
  induction n0 with
  | zero =>
    intro x1 x2 x3 zx h
    cases h
  | succ n0 ih =>
    intro x1 x2 x3 zx h
    rw [fX6_tallowOf_L4] at h
    refine ap_iload_n dX6_tallowOf_4 3 rfl rfl ?_
    refine ap_aload_n dX6_tallowOf_5 0 rfl rfl ?_
    refine ap_get (v := .ref (K.1 1)) fl_X6_29 ly_68 rfl rfl dX6_tallowOf_6 ?_
    refine ap_get (v := .int (w.1 1 1)) fl_X6_37 ly_1 rfl rfl dX6_tallowOf_9 ?_
    refine ap_icmp_ge (tgt := 46) dX6_tallowOf_12 (by decide) (fun hc1 => ?_) (fun hc1 => ?_)
    · rw [if_pos hc1] at h
      refine ap_iload_n dX6_tallowOf_46 2 rfl rfl ?_
      obtain rfl := Option.some.inj h
      exact ap_iret rfl dX6_tallowOf_47
    · rw [if_neg hc1] at h
      refine ap_iload_n dX6_tallowOf_15 2 rfl rfl ?_
      refine ap_iload_n dX6_tallowOf_16 1 rfl rfl ?_
      refine ap_iload_n dX6_tallowOf_17 3 rfl rfl ?_
      refine ap_ishr dX6_tallowOf_18 ?_
      refine ap_iconst (v := 1) dX6_tallowOf_19 (by decide) ?_
      refine ap_iand dX6_tallowOf_20 ?_
      refine ap_iconst (v := 1) dX6_tallowOf_21 (by decide) ?_
      refine ap_icmp_ne (tgt := 37) dX6_tallowOf_22 (by decide) (fun hc2 => ?_) (fun hc2 => ?_)
      · rw [if_neg hc2] at h
        refine ap_iconst (v := 0) dX6_tallowOf_37 (by decide) ?_
        refine ap_iadd dX6_tallowOf_38 ?_
        refine ap_istore_n (i := 2) (lv' := [(2, .int (x2 + (0 : Int32))), (0, .ref (K.1 68)), (1, .int x1), (3, .int x3)]) dX6_tallowOf_39 rfl (by decide) rfl ?_
        refine ap_iinc (v := x3 + 1) (lv' := [(3, .int (x3 + 1)), (2, .int (x2 + (0 : Int32))), (0, .ref (K.1 68)), (1, .int x1)]) dX6_tallowOf_40 3 rfl rfl (by decide) rfl ?_
        refine ap_goto (tgt := 4) dX6_tallowOf_43 (by decide) ?_
        refine ap_sub [2, 3, 1, 0] rfl ?_
        exact ih _ _ _ h
      · rw [if_pos hc2] at h
        refine ap_aload_n dX6_tallowOf_25 0 rfl rfl ?_
        refine ap_get (v := .ref (K.1 1)) fl_X6_29 ly_68 rfl rfl dX6_tallowOf_26 ?_
        refine ap_get (v := .ref (K.1 6)) fl_X6_71 ly_1 rfl rfl dX6_tallowOf_29 ?_
        refine ap_iload_n dX6_tallowOf_32 3 rfl rfl ?_
        obtain ⟨a3, ha3, h⟩ := Option.bind_eq_some_iff.mp h
        refine ap_iald ly_6 ha3 dX6_tallowOf_33 ?_
        refine ap_goto (tgt := 38) dX6_tallowOf_34 (by decide) ?_
        refine ap_iadd dX6_tallowOf_38 ?_
        refine ap_istore_n (i := 2) (lv' := [(2, .int (x2 + a3)), (0, .ref (K.1 68)), (1, .int x1), (3, .int x3)]) dX6_tallowOf_39 rfl (by decide) rfl ?_
        refine ap_iinc (v := x3 + 1) (lv' := [(3, .int (x3 + 1)), (2, .int (x2 + a3)), (0, .ref (K.1 68)), (1, .int x1)]) dX6_tallowOf_40 3 rfl rfl (by decide) rfl ?_
        refine ap_goto (tgt := 4) dX6_tallowOf_43 (by decide) ?_
        refine ap_sub [2, 3, 1, 0] rfl ?_
        exact ih _ _ _ h
def fX6_tallowOf (N : Nat) (w : Mm) (x1 : Int32) : Option Int32 :=
fX6_tallowOf_L4 N w N x1 (0 : Int32) (0 : Int32)
set_option maxRecDepth 100000 in
set_option maxHeartbeats 4000000 in
theorem AX6_tallowOf {l : Launch} {K : Kt} {N : Nat} {w : Mm}  {x1 : Int32} {zx : Int32} (h : fX6_tallowOf N w x1 = some zx) : AW l K cX6_tallowOf RX6 4 (some .int) rmX6_tallowOf 0 0 ap_E (ap_F K (some (.int zx)) w) w 0 [(0, .ref (K.1 68)), (1, .int x1)] [] := by
  unfold fX6_tallowOf at h
  refine ap_iconst (v := 0) dX6_tallowOf_0 (by decide) ?_
  refine ap_istore_n (i := 2) (lv' := [(2, .int (0 : Int32)), (0, .ref (K.1 68)), (1, .int x1)]) dX6_tallowOf_1 rfl (by decide) rfl ?_
  refine ap_iconst (v := 0) dX6_tallowOf_2 (by decide) ?_
  refine ap_istore_n (i := 3) (lv' := [(3, .int (0 : Int32)), (2, .int (0 : Int32)), (0, .ref (K.1 68)), (1, .int x1)]) dX6_tallowOf_3 rfl (by decide) rfl ?_
  refine ap_sub [2, 3, 1, 0] rfl ?_
  exact AX6_tallowOf_L4  N _ _ _ h
theorem mcX6_tallowOf {l : Launch} {K : Kt} {N : Nat} {w : Mm}  {x1 : Int32} {zx : Int32} (h : fX6_tallowOf N w x1 = some zx) : MC l K yX6_tallowOf cX6_tallowOf 4 (some .int) rmX6_tallowOf w [.ref (K.1 68), .int x1] (some (.int zx)) w :=
  MC.of (by decide) (Nat.le_of_ble_eq_true rfl) rfl (AX6_tallowOf  h)
def fX6_leastTallow_L34 (N : Nat) (k4 : Int32 → Int32 → Option Int32) (w : Mm) (x2 : Int32) : Option Int32 :=
Option.bind (fX6_tallowOf N w x2) fun a7 =>
k4 a7 (x2 + 1)
set_option maxRecDepth 100000 in
set_option maxHeartbeats 4000000 in
theorem AX6_leastTallow_L34 {l : Launch} {K : Kt} {N : Nat} {w : Mm} {k4 : Int32 → Int32 → Option Int32} (hk4 : ∀ (x1 : Int32) (x2 : Int32) (zx : Int32), k4 x1 x2 = some zx → AW l K cX6_leastTallow RX6 3 (some .int) rmX6_leastTallow 0 0 ap_E (ap_F K (some (.int zx)) w) w 4 [(0, .ref (K.1 68)), (1, .int x1), (2, .int x2)] [])  {x2 : Int32} {zx : Int32} (h : fX6_leastTallow_L34 N k4 w x2 = some zx) : AW l K cX6_leastTallow RX6 3 (some .int) rmX6_leastTallow 0 0 ap_E (ap_F K (some (.int zx)) w) w 34 [(0, .ref (K.1 68)), (2, .int x2)] [] := by
  unfold fX6_leastTallow_L34 at h
  refine ap_aload_n dX6_leastTallow_34 0 rfl rfl ?_
  refine ap_iload_n dX6_leastTallow_35 1 rfl rfl ?_
  obtain ⟨a7, ha7, h⟩ := Option.bind_eq_some_iff.mp h
  refine ap_callV (k := 68) (As := [.int x2]) (st := []) (st1 := [.int a7]) (mcX6_tallowOf  (w := w) ha7) cv_X6_68 rfl ly_68 ⟨rfl, rfl, by decide, by decide⟩ rfl (Nat.le_of_ble_eq_true rfl) ⟨Nat.zero_le _, Nat.zero_le _⟩ dX6_leastTallow_36 rfl rfl ?_
  refine ap_istore_n (i := 1) (lv' := [(1, .int a7), (0, .ref (K.1 68)), (2, .int x2)]) dX6_leastTallow_39 rfl (by decide) rfl ?_
  refine ap_iinc (v := x2 + 1) (lv' := [(2, .int (x2 + 1)), (1, .int a7), (0, .ref (K.1 68))]) dX6_leastTallow_40 2 rfl rfl (by decide) rfl ?_
  refine ap_goto (tgt := 4) dX6_leastTallow_43 (by decide) ?_
  refine ap_sub [2, 1, 0] rfl ?_
  exact hk4 _ _ _ h
def fX6_leastTallow_L4 (N : Nat) (w : Mm) : Nat → Int32 → Int32 → Option Int32
  | 0, _, _ => none
  | n0 + 1, x1, x2 => if (fX6_howManySets w) ≤ x2 then (
some x1)
else (
Option.bind (fX6_lightsWanted N w x2) fun a2 =>
if a2 = (0 : Int32) then (
(fX6_leastTallow_L4 N w n0) x1 (x2 + 1))
else (
if x1 = (-1 : Int32) then (
fX6_leastTallow_L34 N (fX6_leastTallow_L4 N w n0) w x2)
else (
Option.bind (fX6_tallowOf N w x2) fun a5 =>
if x1 ≤ a5 then (
(fX6_leastTallow_L4 N w n0) x1 (x2 + 1))
else (
fX6_leastTallow_L34 N (fX6_leastTallow_L4 N w n0) w x2))))
set_option maxRecDepth 100000 in
set_option maxHeartbeats 4000000 in
theorem AX6_leastTallow_L4 {l : Launch} {K : Kt} {N : Nat} {w : Mm}   : ∀ (n0 : Nat) (x1 : Int32) (x2 : Int32) {zx : Int32}, fX6_leastTallow_L4 N w n0 x1 x2 = some zx → AW l K cX6_leastTallow RX6 3 (some .int) rmX6_leastTallow 0 0 ap_E (ap_F K (some (.int zx)) w) w 4 [(0, .ref (K.1 68)), (1, .int x1), (2, .int x2)] [] := by
  intro n0
  induction n0 with
  | zero =>
    intro x1 x2 zx h
    cases h
  | succ n0 ih =>
    intro x1 x2 zx h
    rw [fX6_leastTallow_L4] at h
    refine ap_iload_n dX6_leastTallow_4 2 rfl rfl ?_
    refine ap_aload_n dX6_leastTallow_5 0 rfl rfl ?_
    refine ap_callV (k := 68) (As := []) (st := [.int x2]) (st1 := [.int (fX6_howManySets w), .int x2]) (mcX6_howManySets  (w := w) (zx := fX6_howManySets w) rfl) cv_X6_54 rfl ly_68 ⟨rfl, rfl, by decide, by decide⟩ rfl (Nat.le_of_ble_eq_true rfl) ⟨Nat.zero_le _, Nat.zero_le _⟩ dX6_leastTallow_6 rfl rfl ?_
    refine ap_icmp_ge (tgt := 46) dX6_leastTallow_9 (by decide) (fun hc1 => ?_) (fun hc1 => ?_)
    · rw [if_pos hc1] at h
      refine ap_iload_n dX6_leastTallow_46 1 rfl rfl ?_
      obtain rfl := Option.some.inj h
      exact ap_iret rfl dX6_leastTallow_47
    · rw [if_neg hc1] at h
      refine ap_aload_n dX6_leastTallow_12 0 rfl rfl ?_
      refine ap_iload_n dX6_leastTallow_13 2 rfl rfl ?_
      obtain ⟨a2, ha2, h⟩ := Option.bind_eq_some_iff.mp h
      refine ap_callV (k := 68) (As := [.int x2]) (st := []) (st1 := [.int a2]) (mcX6_lightsWanted  (w := w) ha2) cv_X6_58 rfl ly_68 ⟨rfl, rfl, by decide, by decide⟩ rfl (Nat.le_of_ble_eq_true rfl) ⟨Nat.zero_le _, Nat.zero_le _⟩ dX6_leastTallow_14 rfl rfl ?_
      refine ap_if_eq (tgt := 40) dX6_leastTallow_17 (by decide) (fun hc3 => ?_) (fun hc3 => ?_)
      · rw [if_pos hc3] at h
        refine ap_iinc (v := x2 + 1) (lv' := [(2, .int (x2 + 1)), (0, .ref (K.1 68)), (1, .int x1)]) dX6_leastTallow_40 2 rfl rfl (by decide) rfl ?_
        refine ap_goto (tgt := 4) dX6_leastTallow_43 (by decide) ?_
        refine ap_sub [1, 2, 0] rfl ?_
        exact ih _ _ h
      · rw [if_neg hc3] at h
        refine ap_iload_n dX6_leastTallow_20 1 rfl rfl ?_
        refine ap_iconst (v := -1) dX6_leastTallow_21 (by decide) ?_
        refine ap_icmp_eq (tgt := 34) dX6_leastTallow_22 (by decide) (fun hc4 => ?_) (fun hc4 => ?_)
        · rw [if_pos hc4] at h
          refine ap_sub [0, 2] rfl ?_
          exact AX6_leastTallow_L34 (fun q0 q1 q2 hq => ih q0 q1 hq)  h
        · rw [if_neg hc4] at h
          refine ap_aload_n dX6_leastTallow_25 0 rfl rfl ?_
          refine ap_iload_n dX6_leastTallow_26 2 rfl rfl ?_
          obtain ⟨a5, ha5, h⟩ := Option.bind_eq_some_iff.mp h
          refine ap_callV (k := 68) (As := [.int x2]) (st := []) (st1 := [.int a5]) (mcX6_tallowOf  (w := w) ha5) cv_X6_68 rfl ly_68 ⟨rfl, rfl, by decide, by decide⟩ rfl (Nat.le_of_ble_eq_true rfl) ⟨Nat.zero_le _, Nat.zero_le _⟩ dX6_leastTallow_27 rfl rfl ?_
          refine ap_iload_n dX6_leastTallow_30 1 rfl rfl ?_
          refine ap_icmp_ge (tgt := 40) dX6_leastTallow_31 (by decide) (fun hc6 => ?_) (fun hc6 => ?_)
          · rw [if_pos hc6] at h
            refine ap_iinc (v := x2 + 1) (lv' := [(2, .int (x2 + 1)), (0, .ref (K.1 68)), (1, .int x1)]) dX6_leastTallow_40 2 rfl rfl (by decide) rfl ?_
            refine ap_goto (tgt := 4) dX6_leastTallow_43 (by decide) ?_
            refine ap_sub [1, 2, 0] rfl ?_
            exact ih _ _ h
          · rw [if_neg hc6] at h
            refine ap_sub [0, 2] rfl ?_
            exact AX6_leastTallow_L34 (fun q0 q1 q2 hq => ih q0 q1 hq)  h
def fX6_leastTallow (N : Nat) (w : Mm) : Option Int32 :=
fX6_leastTallow_L4 N w N (-1 : Int32) (0 : Int32)
set_option maxRecDepth 100000 in
set_option maxHeartbeats 4000000 in
theorem AX6_leastTallow {l : Launch} {K : Kt} {N : Nat} {w : Mm}  {zx : Int32} (h : fX6_leastTallow N w = some zx) : AW l K cX6_leastTallow RX6 3 (some .int) rmX6_leastTallow 0 0 ap_E (ap_F K (some (.int zx)) w) w 0 [(0, .ref (K.1 68))] [] := by
  unfold fX6_leastTallow at h
  refine ap_iconst (v := -1) dX6_leastTallow_0 (by decide) ?_
  refine ap_istore_n (i := 1) (lv' := [(1, .int (-1 : Int32)), (0, .ref (K.1 68))]) dX6_leastTallow_1 rfl (by decide) rfl ?_
  refine ap_iconst (v := 0) dX6_leastTallow_2 (by decide) ?_
  refine ap_istore_n (i := 2) (lv' := [(2, .int (0 : Int32)), (1, .int (-1 : Int32)), (0, .ref (K.1 68))]) dX6_leastTallow_3 rfl (by decide) rfl ?_
  refine ap_sub [2, 1, 0] rfl ?_
  exact AX6_leastTallow_L4  N _ _ h
theorem mcX6_leastTallow {l : Launch} {K : Kt} {N : Nat} {w : Mm}  {zx : Int32} (h : fX6_leastTallow N w = some zx) : MC l K yX6_leastTallow cX6_leastTallow 3 (some .int) rmX6_leastTallow w [.ref (K.1 68)] (some (.int zx)) w :=
  MC.of (by decide) (Nat.le_of_ble_eq_true rfl) rfl (AX6_leastTallow  h)

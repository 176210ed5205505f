def fX11_of (w : Mm) (x1 : Int32) (x2 : Int32) : Option (Int32 × Mm) :=
if (fX8_has 1 w x1) = (0 : Int32) then (
ob2 (some (fX11_bad w (-2 : Int32))) fun a17 m18 =>
some (a17, m18))
else (
if x2 = (0 : Int32) then (
Option.bind (rdA w 2 7 x1) fun a3 =>
some (a3, w))
else if x2 = (1 : Int32) then (
Option.bind (rdA w 3 7 x1) fun a5 =>
some (a5, w))
else if x2 = (2 : Int32) then (
Option.bind (rdA w 4 7 x1) fun a7 =>
some (a7, w))
else if x2 = (3 : Int32) then (
Option.bind (rdA w 5 7 x1) fun a9 =>
some (a9, w))
else if x2 = (4 : Int32) then (
Option.bind (rdA w 6 7 x1) fun a11 =>
some (a11, w))
else if x2 = (5 : Int32) then (
some ((fX8_litAt 1 w x1), w))
else if x2 = (6 : Int32) then (
Option.bind (fX3_hoursOf w x1) fun a14 =>
some (a14, w))
else (
ob2 (some (fX11_bad w (-2 : Int32))) fun a15 m16 =>
some (a15, m16)))
set_option maxRecDepth 100000 in
set_option maxHeartbeats 4000000 in
theorem AX11_of {l : Launch} {K : Kt}  {w : Mm} {x1 : Int32} {x2 : Int32} {zx : Int32} {zw : Mm} (h : fX11_of w x1 x2 = some (zx, zw)) : AW l K cX11_of RX11 3 (some .int) rmX11_of 0 0 ap_E (ap_F K (some (.int zx)) zw) w 0 [(0, .ref (K.1 0)), (1, .int x1), (2, .int x2)] [] := by
  unfold fX11_of at h
  refine ap_aload_n dX11_of_0 0 rfl rfl ?_
  refine ap_get (v := .ref (K.1 1)) fl_X11_12 ly_0 rfl rfl dX11_of_1 ?_
  refine ap_iload_n dX11_of_4 1 rfl rfl ?_
  refine ap_callV (k := 1) (As := [.int x1]) (st := []) (st1 := [.int (fX8_has 1 w x1)]) (mcX8_has isV_1 (w := w) (zx := fX8_has 1 w x1) rfl) cv_X11_106 rfl ly_1 ⟨rfl, rfl, by decide, by decide⟩ rfl (Nat.le_of_ble_eq_true rfl) ⟨Nat.zero_le _, Nat.zero_le _⟩ dX11_of_5 rfl rfl ?_
  refine ap_if_ne (tgt := 18) dX11_of_8 (by decide) (fun hc1 => ?_) (fun hc1 => ?_)
  · rw [if_neg hc1] at h
    refine ap_iload_n dX11_of_18 2 rfl rfl ?_
    by_cases hc2 : x2 = (0 : Int32)
    · rw [if_pos hc2] at h
      refine ap_tabIn (off := 41) (tgt := 60) dX11_of_19 (by rw [hc2]; decide) (by rw [hc2]; decide) (by rw [hc2]; rfl) (by decide) ?_
      refine ap_aload_n dX11_of_60 0 rfl rfl ?_
      refine ap_get (v := .ref (K.1 1)) fl_X11_12 ly_0 rfl rfl dX11_of_61 ?_
      refine ap_get (v := .ref (K.1 2)) fl_X11_146 ly_1 rfl rfl dX11_of_64 ?_
      refine ap_iload_n dX11_of_67 1 rfl rfl ?_
      obtain ⟨a3, ha3, h⟩ := Option.bind_eq_some_iff.mp h
      refine ap_iald ly_2 ha3 dX11_of_68 ?_
      obtain ⟨rfl, rfl⟩ := Prod.mk.inj (Option.some.inj h)
      exact ap_iret rfl dX11_of_69
    rw [if_neg hc2] at h
    by_cases hc4 : x2 = (1 : Int32)
    · rw [if_pos hc4] at h
      refine ap_tabIn (off := 51) (tgt := 70) dX11_of_19 (by rw [hc4]; decide) (by rw [hc4]; decide) (by rw [hc4]; rfl) (by decide) ?_
      refine ap_aload_n dX11_of_70 0 rfl rfl ?_
      refine ap_get (v := .ref (K.1 1)) fl_X11_12 ly_0 rfl rfl dX11_of_71 ?_
      refine ap_get (v := .ref (K.1 3)) fl_X11_112 ly_1 rfl rfl dX11_of_74 ?_
      refine ap_iload_n dX11_of_77 1 rfl rfl ?_
      obtain ⟨a5, ha5, h⟩ := Option.bind_eq_some_iff.mp h
      refine ap_iald ly_3 ha5 dX11_of_78 ?_
      obtain ⟨rfl, rfl⟩ := Prod.mk.inj (Option.some.inj h)
      exact ap_iret rfl dX11_of_79
    rw [if_neg hc4] at h
    by_cases hc6 : x2 = (2 : Int32)
    · rw [if_pos hc6] at h
      refine ap_tabIn (off := 61) (tgt := 80) dX11_of_19 (by rw [hc6]; decide) (by rw [hc6]; decide) (by rw [hc6]; rfl) (by decide) ?_
      refine ap_aload_n dX11_of_80 0 rfl rfl ?_
      refine ap_get (v := .ref (K.1 1)) fl_X11_12 ly_0 rfl rfl dX11_of_81 ?_
      refine ap_get (v := .ref (K.1 4)) fl_X11_149 ly_1 rfl rfl dX11_of_84 ?_
      refine ap_iload_n dX11_of_87 1 rfl rfl ?_
      obtain ⟨a7, ha7, h⟩ := Option.bind_eq_some_iff.mp h
      refine ap_iald ly_4 ha7 dX11_of_88 ?_
      obtain ⟨rfl, rfl⟩ := Prod.mk.inj (Option.some.inj h)
      exact ap_iret rfl dX11_of_89
    rw [if_neg hc6] at h
    by_cases hc8 : x2 = (3 : Int32)
    · rw [if_pos hc8] at h
      refine ap_tabIn (off := 71) (tgt := 90) dX11_of_19 (by rw [hc8]; decide) (by rw [hc8]; decide) (by rw [hc8]; rfl) (by decide) ?_
      refine ap_aload_n dX11_of_90 0 rfl rfl ?_
      refine ap_get (v := .ref (K.1 1)) fl_X11_12 ly_0 rfl rfl dX11_of_91 ?_
      refine ap_get (v := .ref (K.1 5)) fl_X11_152 ly_1 rfl rfl dX11_of_94 ?_
      refine ap_iload_n dX11_of_97 1 rfl rfl ?_
      obtain ⟨a9, ha9, h⟩ := Option.bind_eq_some_iff.mp h
      refine ap_iald ly_5 ha9 dX11_of_98 ?_
      obtain ⟨rfl, rfl⟩ := Prod.mk.inj (Option.some.inj h)
      exact ap_iret rfl dX11_of_99
    rw [if_neg hc8] at h
    by_cases hc10 : x2 = (4 : Int32)
    · rw [if_pos hc10] at h
      refine ap_tabIn (off := 81) (tgt := 100) dX11_of_19 (by rw [hc10]; decide) (by rw [hc10]; decide) (by rw [hc10]; rfl) (by decide) ?_
      refine ap_aload_n dX11_of_100 0 rfl rfl ?_
      refine ap_get (v := .ref (K.1 1)) fl_X11_12 ly_0 rfl rfl dX11_of_101 ?_
      refine ap_get (v := .ref (K.1 6)) fl_X11_155 ly_1 rfl rfl dX11_of_104 ?_
      refine ap_iload_n dX11_of_107 1 rfl rfl ?_
      obtain ⟨a11, ha11, h⟩ := Option.bind_eq_some_iff.mp h
      refine ap_iald ly_6 ha11 dX11_of_108 ?_
      obtain ⟨rfl, rfl⟩ := Prod.mk.inj (Option.some.inj h)
      exact ap_iret rfl dX11_of_109
    rw [if_neg hc10] at h
    by_cases hc12 : x2 = (5 : Int32)
    · rw [if_pos hc12] at h
      refine ap_tabIn (off := 91) (tgt := 110) dX11_of_19 (by rw [hc12]; decide) (by rw [hc12]; decide) (by rw [hc12]; rfl) (by decide) ?_
      refine ap_aload_n dX11_of_110 0 rfl rfl ?_
      refine ap_get (v := .ref (K.1 1)) fl_X11_12 ly_0 rfl rfl dX11_of_111 ?_
      refine ap_iload_n dX11_of_114 1 rfl rfl ?_
      refine ap_callV (k := 1) (As := [.int x1]) (st := []) (st1 := [.int (fX8_litAt 1 w x1)]) (mcX8_litAt isV_1 (w := w) (zx := fX8_litAt 1 w x1) rfl) cv_X11_116 rfl ly_1 ⟨rfl, rfl, by decide, by decide⟩ rfl (Nat.le_of_ble_eq_true rfl) ⟨Nat.zero_le _, Nat.zero_le _⟩ dX11_of_115 rfl rfl ?_
      obtain ⟨rfl, rfl⟩ := Prod.mk.inj (Option.some.inj h)
      exact ap_iret rfl dX11_of_118
    rw [if_neg hc12] at h
    by_cases hc13 : x2 = (6 : Int32)
    · rw [if_pos hc13] at h
      refine ap_tabIn (off := 100) (tgt := 119) dX11_of_19 (by rw [hc13]; decide) (by rw [hc13]; decide) (by rw [hc13]; rfl) (by decide) ?_
      refine ap_aload_n dX11_of_119 0 rfl rfl ?_
      refine ap_get (v := .ref (K.1 53)) fl_X11_36 ly_0 rfl rfl dX11_of_120 ?_
      refine ap_iload_n dX11_of_123 1 rfl rfl ?_
      obtain ⟨a14, ha14, h⟩ := Option.bind_eq_some_iff.mp h
      refine ap_callV (k := 53) (As := [.int x1]) (st := []) (st1 := [.int a14]) (mcX3_hoursOf  (w := w) ha14) cv_X11_158 rfl ly_53 ⟨rfl, rfl, by decide, by decide⟩ rfl (Nat.le_of_ble_eq_true rfl) ⟨Nat.zero_le _, Nat.zero_le _⟩ dX11_of_124 rfl rfl ?_
      obtain ⟨rfl, rfl⟩ := Prod.mk.inj (Option.some.inj h)
      exact ap_iret rfl dX11_of_127
    rw [if_neg hc13] at h
    refine ap_tabOut (tgt := 128) dX11_of_19 (ap_out (fun z h1 h2 => by
      have h3 : z = 0 ∨ z = 1 ∨ z = 2 ∨ z = 3 ∨ z = 4 ∨ z = 5 ∨ z = 6 := by omega
      rcases h3 with rfl | rfl | rfl | rfl | rfl | rfl | rfl
      · exact fun e => hc2 (e.trans (by decide))
      · exact fun e => hc4 (e.trans (by decide))
      · exact fun e => hc6 (e.trans (by decide))
      · exact fun e => hc8 (e.trans (by decide))
      · exact fun e => hc10 (e.trans (by decide))
      · exact fun e => hc12 (e.trans (by decide))
      · exact fun e => hc13 (e.trans (by decide)))) (by decide) ?_
    refine ap_aload_n dX11_of_128 0 rfl rfl ?_
    refine ap_bipush (v := -2) dX11_of_129 (by decide) ?_
    obtain ⟨a15, m16, ha15, h⟩ := ob2_iff h
    refine ap_callV (k := 0) (As := [.int (-2 : Int32)]) (st := []) (st1 := [.int a15]) (mcX11_bad  (Option.some.inj ha15)) cv_X11_77 rfl ly_0 ⟨rfl, rfl, by decide, by decide⟩ rfl (Nat.le_of_ble_eq_true rfl) ⟨Nat.zero_le _, Nat.zero_le _⟩ dX11_of_131 rfl rfl ?_
    obtain ⟨rfl, rfl⟩ := Prod.mk.inj (Option.some.inj h)
    exact ap_iret rfl dX11_of_134
  · rw [if_pos hc1] at h
    refine ap_aload_n dX11_of_11 0 rfl rfl ?_
    refine ap_bipush (v := -2) dX11_of_12 (by decide) ?_
    obtain ⟨a17, m18, ha17, h⟩ := ob2_iff h
    refine ap_callV (k := 0) (As := [.int (-2 : Int32)]) (st := []) (st1 := [.int a17]) (mcX11_bad  (Option.some.inj ha17)) cv_X11_77 rfl ly_0 ⟨rfl, rfl, by decide, by decide⟩ rfl (Nat.le_of_ble_eq_true rfl) ⟨Nat.zero_le _, Nat.zero_le _⟩ dX11_of_14 rfl rfl ?_
    obtain ⟨rfl, rfl⟩ := Prod.mk.inj (Option.some.inj h)
    exact ap_iret rfl dX11_of_17
theorem mcX11_of {l : Launch} {K : Kt}  {w : Mm} {x1 : Int32} {x2 : Int32} {zx : Int32} {zw : Mm} (h : fX11_of w x1 x2 = some (zx, zw)) : MC l K yX11_of cX11_of 3 (some .int) rmX11_of w [.ref (K.1 0), .int x1, .int x2] (some (.int zx)) zw :=
  MC.of (by decide) (Nat.le_of_ble_eq_true rfl) rfl (AX11_of  h)
def fX11_isHour (x0 : Int32) : Int32 :=
(fX11_within x0 (0 : Int32) (11 : Int32))
set_option maxRecDepth 100000 in
set_option maxHeartbeats 4000000 in
theorem AX11_isHour {l : Launch} {K : Kt} {w : Mm}  {x0 : Int32} {zx : Int32} (h : fX11_isHour x0 = zx) : AW l K cX11_isHour RX11 1 (some .boolean) rmX11_isHour 0 0 ap_E (ap_F K (some (.int zx)) w) w 0 [(0, .int x0)] [] := by
  unfold fX11_isHour at h
  refine ap_iload_n dX11_isHour_0 0 rfl rfl ?_
  refine ap_iconst (v := 0) dX11_isHour_1 (by decide) ?_
  refine ap_bipush (v := 11) dX11_isHour_2 (by decide) ?_
  refine ap_callS (As := [.int x0, .int (0 : Int32), .int (11 : Int32)]) (st := []) (st1 := [.int (fX11_within x0 (0 : Int32) (11 : Int32))]) (mcX11_within  (w := w) (zx := fX11_within x0 (0 : Int32) (11 : Int32)) rfl) cs_X11_73 ⟨rfl, rfl, by decide, by decide⟩ rfl (Nat.le_of_ble_eq_true rfl) ⟨Nat.zero_le _, Nat.zero_le _⟩ dX11_isHour_4 rfl rfl ?_
  subst h
  exact ap_zret rfl zX11_within dX11_isHour_7
theorem mcX11_isHour {l : Launch} {K : Kt} {w : Mm}  {x0 : Int32} {zx : Int32} (h : fX11_isHour x0 = zx) : MC l K yX11_isHour cX11_isHour 1 (some .boolean) rmX11_isHour w [.int x0] (some (.int zx)) w :=
  MC.of (by decide) (Nat.le_of_ble_eq_true rfl) rfl (AX11_isHour  h)
def fX11_shines_L25 (w : Mm) : Option (Int32 × Mm) :=
ob2 (some (fX11_bad w (-2 : Int32))) fun a7 m8 =>
some (a7, m8)
set_option maxRecDepth 100000 in
set_option maxHeartbeats 4000000 in
theorem AX11_shines_L25 {l : Launch} {K : Kt}   {w : Mm} {zx : Int32} {zw : Mm} (h : fX11_shines_L25 w = some (zx, zw)) : AW l K cX11_shines RX11 4 (some .int) rmX11_shines 0 0 ap_E (ap_F K (some (.int zx)) zw) w 25 [(0, .ref (K.1 0))] [] := by
  unfold fX11_shines_L25 at h
  refine ap_aload_n dX11_shines_25 0 rfl rfl ?_
  refine ap_bipush (v := -2) dX11_shines_26 (by decide) ?_
  obtain ⟨a7, m8, ha7, h⟩ := ob2_iff h
  refine ap_callV (k := 0) (As := [.int (-2 : Int32)]) (st := []) (st1 := [.int a7]) (mcX11_bad  (Option.some.inj ha7)) cv_X11_77 rfl ly_0 ⟨rfl, rfl, by decide, by decide⟩ rfl (Nat.le_of_ble_eq_true rfl) ⟨Nat.zero_le _, Nat.zero_le _⟩ dX11_shines_28 rfl rfl ?_
  obtain ⟨rfl, rfl⟩ := Prod.mk.inj (Option.some.inj h)
  exact ap_iret rfl dX11_shines_31
def fX11_shines (w : Mm) (x1 : Int32) (x2 : Int32) (x3 : Int32) : Option (Int32 × Mm) :=
if (fX8_has 1 w x1) = (0 : Int32) then (
fX11_shines_L25 w)
else (
if (fX11_isCell x2) = (0 : Int32) then (
fX11_shines_L25 w)
else (
if (fX11_isHour x3) = (0 : Int32) then (
fX11_shines_L25 w)
else (
if (fX8_litAt 1 w x1) = (1 : Int32) then (
Option.bind (fX8_farFrom 1 w x1 x2) fun a5 =>
Option.bind (fX3_ifLit w x1 a5 x3) fun a6 =>
some (a6, w))
else (
some ((0 : Int32), w)))))
set_option maxRecDepth 100000 in
set_option maxHeartbeats 4000000 in
theorem AX11_shines {l : Launch} {K : Kt}  {w : Mm} {x1 : Int32} {x2 : Int32} {x3 : Int32} {zx : Int32} {zw : Mm} (h : fX11_shines w x1 x2 x3 = some (zx, zw)) : AW l K cX11_shines RX11 4 (some .int) rmX11_shines 0 0 ap_E (ap_F K (some (.int zx)) zw) w 0 [(0, .ref (K.1 0)), (1, .int x1), (2, .int x2), (3, .int x3)] [] := by
  unfold fX11_shines at h
  refine ap_aload_n dX11_shines_0 0 rfl rfl ?_
  refine ap_get (v := .ref (K.1 1)) fl_X11_12 ly_0 rfl rfl dX11_shines_1 ?_
  refine ap_iload_n dX11_shines_4 1 rfl rfl ?_
  refine ap_callV (k := 1) (As := [.int x1]) (st := []) (st1 := [.int (fX8_has 1 w x1)]) (mcX8_has isV_1 (w := w) (zx := fX8_has 1 w x1) rfl) cv_X11_106 rfl ly_1 ⟨rfl, rfl, by decide, by decide⟩ rfl (Nat.le_of_ble_eq_true rfl) ⟨Nat.zero_le _, Nat.zero_le _⟩ dX11_shines_5 rfl rfl ?_
  refine ap_if_eq (tgt := 25) dX11_shines_8 (by decide) (fun hc1 => ?_) (fun hc1 => ?_)
  · rw [if_pos hc1] at h
    refine ap_sub [0] rfl ?_
    exact AX11_shines_L25   h
  · rw [if_neg hc1] at h
    refine ap_iload_n dX11_shines_11 2 rfl rfl ?_
    refine ap_callS (As := [.int x2]) (st := []) (st1 := [.int (fX11_isCell x2)]) (mcX11_isCell  (w := w) (zx := fX11_isCell x2) rfl) cs_X11_91 ⟨rfl, rfl, by decide, by decide⟩ rfl (Nat.le_of_ble_eq_true rfl) ⟨Nat.zero_le _, Nat.zero_le _⟩ dX11_shines_12 rfl rfl ?_
    refine ap_if_eq (tgt := 25) dX11_shines_15 (by decide) (fun hc2 => ?_) (fun hc2 => ?_)
    · rw [if_pos hc2] at h
      refine ap_sub [0] rfl ?_
      exact AX11_shines_L25   h
    · rw [if_neg hc2] at h
      refine ap_iload_n dX11_shines_18 3 rfl rfl ?_
      refine ap_callS (As := [.int x3]) (st := []) (st1 := [.int (fX11_isHour x3)]) (mcX11_isHour  (w := w) (zx := fX11_isHour x3) rfl) cs_X11_161 ⟨rfl, rfl, by decide, by decide⟩ rfl (Nat.le_of_ble_eq_true rfl) ⟨Nat.zero_le _, Nat.zero_le _⟩ dX11_shines_19 rfl rfl ?_
      refine ap_if_ne (tgt := 32) dX11_shines_22 (by decide) (fun hc3 => ?_) (fun hc3 => ?_)
      · rw [if_neg hc3] at h
        refine ap_aload_n dX11_shines_32 0 rfl rfl ?_
        refine ap_get (v := .ref (K.1 1)) fl_X11_12 ly_0 rfl rfl dX11_shines_33 ?_
        refine ap_iload_n dX11_shines_36 1 rfl rfl ?_
        refine ap_callV (k := 1) (As := [.int x1]) (st := []) (st1 := [.int (fX8_litAt 1 w x1)]) (mcX8_litAt isV_1 (w := w) (zx := fX8_litAt 1 w x1) rfl) cv_X11_116 rfl ly_1 ⟨rfl, rfl, by decide, by decide⟩ rfl (Nat.le_of_ble_eq_true rfl) ⟨Nat.zero_le _, Nat.zero_le _⟩ dX11_shines_37 rfl rfl ?_
        refine ap_iconst (v := 1) dX11_shines_40 (by decide) ?_
        refine ap_icmp_ne (tgt := 65) dX11_shines_41 (by decide) (fun hc4 => ?_) (fun hc4 => ?_)
        · rw [if_neg hc4] at h
          refine ap_iconst (v := 0) dX11_shines_65 (by decide) ?_
          obtain ⟨rfl, rfl⟩ := Prod.mk.inj (Option.some.inj h)
          exact ap_iret rfl dX11_shines_66
        · rw [if_pos hc4] at h
          refine ap_aload_n dX11_shines_44 0 rfl rfl ?_
          refine ap_get (v := .ref (K.1 53)) fl_X11_36 ly_0 rfl rfl dX11_shines_45 ?_
          refine ap_iload_n dX11_shines_48 1 rfl rfl ?_
          refine ap_aload_n dX11_shines_49 0 rfl rfl ?_
          refine ap_get (v := .ref (K.1 1)) fl_X11_12 ly_0 rfl rfl dX11_shines_50 ?_
          refine ap_iload_n dX11_shines_53 1 rfl rfl ?_
          refine ap_iload_n dX11_shines_54 2 rfl rfl ?_
          obtain ⟨a5, ha5, h⟩ := Option.bind_eq_some_iff.mp h
          refine ap_callV (k := 1) (As := [.int x1, .int x2]) (st := [.int x1, .ref (K.1 53)]) (st1 := [.int a5, .int x1, .ref (K.1 53)]) (mcX8_farFrom isV_1 (w := w) ha5) cv_X11_164 rfl ly_1 ⟨rfl, rfl, by decide, by decide⟩ rfl (Nat.le_of_ble_eq_true rfl) ⟨Nat.zero_le _, Nat.zero_le _⟩ dX11_shines_55 rfl rfl ?_
          refine ap_iload_n dX11_shines_58 3 rfl rfl ?_
          obtain ⟨a6, ha6, h⟩ := Option.bind_eq_some_iff.mp h
          refine ap_callV (k := 53) (As := [.int x1, .int a5, .int x3]) (st := []) (st1 := [.int a6]) (mcX3_ifLit  (w := w) ha6) cv_X11_168 rfl ly_53 ⟨rfl, rfl, by decide, by decide⟩ rfl (Nat.le_of_ble_eq_true rfl) ⟨Nat.zero_le _, Nat.zero_le _⟩ dX11_shines_59 rfl rfl ?_
          refine ap_goto (tgt := 66) dX11_shines_62 (by decide) ?_
          obtain ⟨rfl, rfl⟩ := Prod.mk.inj (Option.some.inj h)
          exact ap_iret rfl dX11_shines_66
      · rw [if_pos hc3] at h
        refine ap_sub [0] rfl ?_
        exact AX11_shines_L25   h
theorem mcX11_shines {l : Launch} {K : Kt}  {w : Mm} {x1 : Int32} {x2 : Int32} {x3 : Int32} {zx : Int32} {zw : Mm} (h : fX11_shines w x1 x2 x3 = some (zx, zw)) : MC l K yX11_shines cX11_shines 4 (some .int) rmX11_shines w [.ref (K.1 0), .int x1, .int x2, .int x3] (some (.int zx)) zw :=
  MC.of (by decide) (Nat.le_of_ble_eq_true rfl) rfl (AX11_shines  h)
def fX11_cell_L23 (N : Nat) (w : Mm) : Option (Int32 × Mm) :=
ob2 (some (fX11_bad w (-10 : Int32))) fun a11 m12 =>
some (a11, m12)
set_option maxRecDepth 100000 in
set_option maxHeartbeats 4000000 in
theorem AX11_cell_L23 {l : Launch} {K : Kt} {N : Nat}   {w : Mm} {zx : Int32} {zw : Mm} (h : fX11_cell_L23 N w = some (zx, zw)) : AW l K cX11_cell RX11 5 (some .int) rmX11_cell 0 0 ap_E (ap_F K (some (.int zx)) zw) w 23 [(0, .ref (K.1 0))] [] := by
  unfold fX11_cell_L23 at h
  refine ap_aload_n dX11_cell_23 0 rfl rfl ?_
  refine ap_bipush (v := -10) dX11_cell_24 (by decide) ?_
  obtain ⟨a11, m12, ha11, h⟩ := ob2_iff h
  refine ap_callV (k := 0) (As := [.int (-10 : Int32)]) (st := []) (st1 := [.int a11]) (mcX11_bad  (Option.some.inj ha11)) cv_X11_77 rfl ly_0 ⟨rfl, rfl, by decide, by decide⟩ rfl (Nat.le_of_ble_eq_true rfl) ⟨Nat.zero_le _, Nat.zero_le _⟩ dX11_cell_26 rfl rfl ?_
  obtain ⟨rfl, rfl⟩ := Prod.mk.inj (Option.some.inj h)
  exact ap_iret rfl dX11_cell_29
def fX11_cell (N : Nat) (w : Mm) (x1 : Int32) (x2 : Int32) (x3 : Int32) : Option (Int32 × Mm) :=
if (fX11_isCell x1) = (0 : Int32) then (
fX11_cell_L23 N w)
else (
if (fX11_isHour x2) = (0 : Int32) then (
fX11_cell_L23 N w)
else (
if (fX11_within x3 (0 : Int32) (2 : Int32)) = (0 : Int32) then (
fX11_cell_L23 N w)
else (
Option.bind (fX3_layCell N w x1 x2) fun m4 =>
if x3 = (0 : Int32) then (
Option.bind (fX3_strongest N m4 x1 (m4.1 1 2)) fun a10 =>
some (a10, m4))
else (
Option.bind (fX3_holder N 5 7 m4 x1 (m4.1 1 2)) fun a6 =>
if x3 = (1 : Int32) then (
if a6 = (-2 : Int32) then (
some ((-1 : Int32), m4))
else (
some (a6, m4)))
else (
if a6 = (-2 : Int32) then (
some ((1 : Int32), m4))
else (
some ((0 : Int32), m4)))))))
set_option maxRecDepth 100000 in
set_option maxHeartbeats 4000000 in
theorem AX11_cell {l : Launch} {K : Kt} {N : Nat}  {w : Mm} {x1 : Int32} {x2 : Int32} {x3 : Int32} {zx : Int32} {zw : Mm} (h : fX11_cell N w x1 x2 x3 = some (zx, zw)) : AW l K cX11_cell RX11 5 (some .int) rmX11_cell 0 0 ap_E (ap_F K (some (.int zx)) zw) w 0 [(0, .ref (K.1 0)), (1, .int x1), (2, .int x2), (3, .int x3)] [] := by
  unfold fX11_cell at h
  refine ap_iload_n dX11_cell_0 1 rfl rfl ?_
  refine ap_callS (As := [.int x1]) (st := []) (st1 := [.int (fX11_isCell x1)]) (mcX11_isCell  (w := w) (zx := fX11_isCell x1) rfl) cs_X11_91 ⟨rfl, rfl, by decide, by decide⟩ rfl (Nat.le_of_ble_eq_true rfl) ⟨Nat.zero_le _, Nat.zero_le _⟩ dX11_cell_1 rfl rfl ?_
  refine ap_if_eq (tgt := 23) dX11_cell_4 (by decide) (fun hc1 => ?_) (fun hc1 => ?_)
  · rw [if_pos hc1] at h
    refine ap_sub [0] rfl ?_
    exact AX11_cell_L23   h
  · rw [if_neg hc1] at h
    refine ap_iload_n dX11_cell_7 2 rfl rfl ?_
    refine ap_callS (As := [.int x2]) (st := []) (st1 := [.int (fX11_isHour x2)]) (mcX11_isHour  (w := w) (zx := fX11_isHour x2) rfl) cs_X11_161 ⟨rfl, rfl, by decide, by decide⟩ rfl (Nat.le_of_ble_eq_true rfl) ⟨Nat.zero_le _, Nat.zero_le _⟩ dX11_cell_8 rfl rfl ?_
    refine ap_if_eq (tgt := 23) dX11_cell_11 (by decide) (fun hc2 => ?_) (fun hc2 => ?_)
    · rw [if_pos hc2] at h
      refine ap_sub [0] rfl ?_
      exact AX11_cell_L23   h
    · rw [if_neg hc2] at h
      refine ap_iload_n dX11_cell_14 3 rfl rfl ?_
      refine ap_iconst (v := 0) dX11_cell_15 (by decide) ?_
      refine ap_iconst (v := 2) dX11_cell_16 (by decide) ?_
      refine ap_callS (As := [.int x3, .int (0 : Int32), .int (2 : Int32)]) (st := []) (st1 := [.int (fX11_within x3 (0 : Int32) (2 : Int32))]) (mcX11_within  (w := w) (zx := fX11_within x3 (0 : Int32) (2 : Int32)) rfl) cs_X11_73 ⟨rfl, rfl, by decide, by decide⟩ rfl (Nat.le_of_ble_eq_true rfl) ⟨Nat.zero_le _, Nat.zero_le _⟩ dX11_cell_17 rfl rfl ?_
      refine ap_if_ne (tgt := 30) dX11_cell_20 (by decide) (fun hc3 => ?_) (fun hc3 => ?_)
      · rw [if_neg hc3] at h
        refine ap_aload_n dX11_cell_30 0 rfl rfl ?_
        refine ap_get (v := .ref (K.1 53)) fl_X11_36 ly_0 rfl rfl dX11_cell_31 ?_
        refine ap_iload_n dX11_cell_34 1 rfl rfl ?_
        refine ap_iload_n dX11_cell_35 2 rfl rfl ?_
        obtain ⟨m4, hm4, h⟩ := Option.bind_eq_some_iff.mp h
        refine ap_callV (k := 53) (As := [.int x1, .int x2]) (st := []) (st1 := []) (mcX3_layCell  hm4) cv_X11_172 rfl ly_53 ⟨rfl, rfl, by decide, by decide⟩ rfl (Nat.le_of_ble_eq_true rfl) ⟨Nat.zero_le _, Nat.zero_le _⟩ dX11_cell_36 rfl rfl ?_
        refine ap_iload_n dX11_cell_39 3 rfl rfl ?_
        refine ap_if_ne (tgt := 59) dX11_cell_40 (by decide) (fun hc5 => ?_) (fun hc5 => ?_)
        · rw [if_neg hc5] at h
          refine ap_aload_n dX11_cell_59 0 rfl rfl ?_
          refine ap_get (v := .ref (K.1 53)) fl_X11_36 ly_0 rfl rfl dX11_cell_60 ?_
          refine ap_iload_n dX11_cell_63 1 rfl rfl ?_
          refine ap_aload_n dX11_cell_64 0 rfl rfl ?_
          refine ap_get (v := .ref (K.1 1)) fl_X11_12 ly_0 rfl rfl dX11_cell_65 ?_
          refine ap_get (v := .int (m4.1 1 2)) fl_X11_122 ly_1 rfl rfl dX11_cell_68 ?_
          refine ap_aload_n dX11_cell_71 0 rfl rfl ?_
          refine ap_get (v := .ref (K.1 1)) fl_X11_12 ly_0 rfl rfl dX11_cell_72 ?_
          refine ap_get (v := .ref (K.1 5)) fl_X11_152 ly_1 rfl rfl dX11_cell_75 ?_
          obtain ⟨a6, ha6, h⟩ := Option.bind_eq_some_iff.mp h
          refine ap_callV (k := 53) (As := [.int x1, .int (m4.1 1 2), .ref (K.1 5)]) (st := []) (st1 := [.int a6]) (mcX3_holder ly_5 (w := m4) ha6) cv_X11_179 rfl ly_53 ⟨rfl, rfl, by decide, by decide⟩ rfl (Nat.le_of_ble_eq_true rfl) ⟨Nat.zero_le _, Nat.zero_le _⟩ dX11_cell_78 rfl rfl ?_
          refine ap_istore (i := 4) (lv' := [(4, .int a6), (0, .ref (K.1 0)), (1, .int x1), (2, .int x2), (3, .int x3)]) dX11_cell_81 (by decide) rfl ?_
          refine ap_iload_n dX11_cell_83 4 rfl rfl ?_
          refine ap_iconst (v := 1) dX11_cell_84 (by decide) ?_
          refine ap_icmp_ne (tgt := 102) dX11_cell_85 (by decide) (fun hc7 => ?_) (fun hc7 => ?_)
          · rw [if_neg hc7] at h
            refine ap_iload dX11_cell_102 0 rfl ?_
            refine ap_bipush (v := -2) dX11_cell_104 (by decide) ?_
            refine ap_icmp_ne (tgt := 113) dX11_cell_106 (by decide) (fun hc8 => ?_) (fun hc8 => ?_)
            · rw [if_neg hc8] at h
              refine ap_iconst (v := 0) dX11_cell_113 (by decide) ?_
              obtain ⟨rfl, rfl⟩ := Prod.mk.inj (Option.some.inj h)
              exact ap_iret rfl dX11_cell_114
            · rw [if_pos hc8] at h
              refine ap_iconst (v := 1) dX11_cell_109 (by decide) ?_
              refine ap_goto (tgt := 114) dX11_cell_110 (by decide) ?_
              obtain ⟨rfl, rfl⟩ := Prod.mk.inj (Option.some.inj h)
              exact ap_iret rfl dX11_cell_114
          · rw [if_pos hc7] at h
            refine ap_iload dX11_cell_88 0 rfl ?_
            refine ap_bipush (v := -2) dX11_cell_90 (by decide) ?_
            refine ap_icmp_ne (tgt := 99) dX11_cell_92 (by decide) (fun hc9 => ?_) (fun hc9 => ?_)
            · rw [if_neg hc9] at h
              refine ap_iload dX11_cell_99 0 rfl ?_
              obtain ⟨rfl, rfl⟩ := Prod.mk.inj (Option.some.inj h)
              exact ap_iret rfl dX11_cell_101
            · rw [if_pos hc9] at h
              refine ap_iconst (v := -1) dX11_cell_95 (by decide) ?_
              refine ap_goto (tgt := 101) dX11_cell_96 (by decide) ?_
              obtain ⟨rfl, rfl⟩ := Prod.mk.inj (Option.some.inj h)
              exact ap_iret rfl dX11_cell_101
        · rw [if_pos hc5] at h
          refine ap_aload_n dX11_cell_43 0 rfl rfl ?_
          refine ap_get (v := .ref (K.1 53)) fl_X11_36 ly_0 rfl rfl dX11_cell_44 ?_
          refine ap_iload_n dX11_cell_47 1 rfl rfl ?_
          refine ap_aload_n dX11_cell_48 0 rfl rfl ?_
          refine ap_get (v := .ref (K.1 1)) fl_X11_12 ly_0 rfl rfl dX11_cell_49 ?_
          refine ap_get (v := .int (m4.1 1 2)) fl_X11_122 ly_1 rfl rfl dX11_cell_52 ?_
          obtain ⟨a10, ha10, h⟩ := Option.bind_eq_some_iff.mp h
          refine ap_callV (k := 53) (As := [.int x1, .int (m4.1 1 2)]) (st := []) (st1 := [.int a10]) (mcX3_strongest  (w := m4) ha10) cv_X11_176 rfl ly_53 ⟨rfl, rfl, by decide, by decide⟩ rfl (Nat.le_of_ble_eq_true rfl) ⟨Nat.zero_le _, Nat.zero_le _⟩ dX11_cell_55 rfl rfl ?_
          obtain ⟨rfl, rfl⟩ := Prod.mk.inj (Option.some.inj h)
          exact ap_iret rfl dX11_cell_58
      · rw [if_pos hc3] at h
        refine ap_sub [0] rfl ?_
        exact AX11_cell_L23   h
theorem mcX11_cell {l : Launch} {K : Kt} {N : Nat}  {w : Mm} {x1 : Int32} {x2 : Int32} {x3 : Int32} {zx : Int32} {zw : Mm} (h : fX11_cell N w x1 x2 x3 = some (zx, zw)) : MC l K yX11_cell cX11_cell 5 (some .int) rmX11_cell w [.ref (K.1 0), .int x1, .int x2, .int x3] (some (.int zx)) zw :=
  MC.of (by decide) (Nat.le_of_ble_eq_true rfl) rfl (AX11_cell  h)
def fX11_acres_L19 (N : Nat) (w : Mm) : Option (Int32 × Mm) :=
ob2 (some (fX11_bad w (-10 : Int32))) fun a6 m7 =>
some (a6, m7)
set_option maxRecDepth 100000 in
set_option maxHeartbeats 4000000 in
theorem AX11_acres_L19 {l : Launch} {K : Kt} {N : Nat}   {w : Mm} {zx : Int32} {zw : Mm} (h : fX11_acres_L19 N w = some (zx, zw)) : AW l K cX11_acres RX11 4 (some .int) rmX11_acres 0 0 ap_E (ap_F K (some (.int zx)) zw) w 19 [(0, .ref (K.1 0))] [] := by
  unfold fX11_acres_L19 at h
  refine ap_aload_n dX11_acres_19 0 rfl rfl ?_
  refine ap_bipush (v := -10) dX11_acres_20 (by decide) ?_
  obtain ⟨a6, m7, ha6, h⟩ := ob2_iff h
  refine ap_callV (k := 0) (As := [.int (-10 : Int32)]) (st := []) (st1 := [.int a6]) (mcX11_bad  (Option.some.inj ha6)) cv_X11_77 rfl ly_0 ⟨rfl, rfl, by decide, by decide⟩ rfl (Nat.le_of_ble_eq_true rfl) ⟨Nat.zero_le _, Nat.zero_le _⟩ dX11_acres_22 rfl rfl ?_
  obtain ⟨rfl, rfl⟩ := Prod.mk.inj (Option.some.inj h)
  exact ap_iret rfl dX11_acres_25
def fX11_acres (N : Nat) (w : Mm) (x1 : Int32) (x2 : Int32) (x3 : Int32) : Option (Int32 × Mm) :=
if (fX11_isOwner x1) = (0 : Int32) then (
fX11_acres_L19 N w)
else (
if (fX11_isHour x2) = (0 : Int32) then (
fX11_acres_L19 N w)
else (
if (-1 : Int32) ≤ x3 then (
Option.bind (fX3_layAll N w x2) fun m4 =>
Option.bind (fX3_pick N m4 x1 x3) fun a5 =>
some (a5, m4))
else (
fX11_acres_L19 N w)))
set_option maxRecDepth 100000 in
set_option maxHeartbeats 4000000 in
theorem AX11_acres {l : Launch} {K : Kt} {N : Nat}  {w : Mm} {x1 : Int32} {x2 : Int32} {x3 : Int32} {zx : Int32} {zw : Mm} (h : fX11_acres N w x1 x2 x3 = some (zx, zw)) : AW l K cX11_acres RX11 4 (some .int) rmX11_acres 0 0 ap_E (ap_F K (some (.int zx)) zw) w 0 [(0, .ref (K.1 0)), (1, .int x1), (2, .int x2), (3, .int x3)] [] := by
  unfold fX11_acres at h
  refine ap_iload_n dX11_acres_0 1 rfl rfl ?_
  refine ap_callS (As := [.int x1]) (st := []) (st1 := [.int (fX11_isOwner x1)]) (mcX11_isOwner  (w := w) (zx := fX11_isOwner x1) rfl) cs_X11_95 ⟨rfl, rfl, by decide, by decide⟩ rfl (Nat.le_of_ble_eq_true rfl) ⟨Nat.zero_le _, Nat.zero_le _⟩ dX11_acres_1 rfl rfl ?_
  refine ap_if_eq (tgt := 19) dX11_acres_4 (by decide) (fun hc1 => ?_) (fun hc1 => ?_)
  · rw [if_pos hc1] at h
    refine ap_sub [0] rfl ?_
    exact AX11_acres_L19   h
  · rw [if_neg hc1] at h
    refine ap_iload_n dX11_acres_7 2 rfl rfl ?_
    refine ap_callS (As := [.int x2]) (st := []) (st1 := [.int (fX11_isHour x2)]) (mcX11_isHour  (w := w) (zx := fX11_isHour x2) rfl) cs_X11_161 ⟨rfl, rfl, by decide, by decide⟩ rfl (Nat.le_of_ble_eq_true rfl) ⟨Nat.zero_le _, Nat.zero_le _⟩ dX11_acres_8 rfl rfl ?_
    refine ap_if_eq (tgt := 19) dX11_acres_11 (by decide) (fun hc2 => ?_) (fun hc2 => ?_)
    · rw [if_pos hc2] at h
      refine ap_sub [0] rfl ?_
      exact AX11_acres_L19   h
    · rw [if_neg hc2] at h
      refine ap_iload_n dX11_acres_14 3 rfl rfl ?_
      refine ap_iconst (v := -1) dX11_acres_15 (by decide) ?_
      refine ap_icmp_ge (tgt := 26) dX11_acres_16 (by decide) (fun hc3 => ?_) (fun hc3 => ?_)
      · rw [if_pos hc3] at h
        refine ap_aload_n dX11_acres_26 0 rfl rfl ?_
        refine ap_get (v := .ref (K.1 53)) fl_X11_36 ly_0 rfl rfl dX11_acres_27 ?_
        refine ap_iload_n dX11_acres_30 2 rfl rfl ?_
        obtain ⟨m4, hm4, h⟩ := Option.bind_eq_some_iff.mp h
        refine ap_callV (k := 53) (As := [.int x2]) (st := []) (st1 := []) (mcX3_layAll  hm4) cv_X11_183 rfl ly_53 ⟨rfl, rfl, by decide, by decide⟩ rfl (Nat.le_of_ble_eq_true rfl) ⟨Nat.zero_le _, Nat.zero_le _⟩ dX11_acres_31 rfl rfl ?_
        refine ap_aload_n dX11_acres_34 0 rfl rfl ?_
        refine ap_get (v := .ref (K.1 53)) fl_X11_36 ly_0 rfl rfl dX11_acres_35 ?_
        refine ap_iload_n dX11_acres_38 1 rfl rfl ?_
        refine ap_iload_n dX11_acres_39 3 rfl rfl ?_
        obtain ⟨a5, ha5, h⟩ := Option.bind_eq_some_iff.mp h
        refine ap_callV (k := 53) (As := [.int x1, .int x3]) (st := []) (st1 := [.int a5]) (mcX3_pick  (w := m4) ha5) cv_X11_186 rfl ly_53 ⟨rfl, rfl, by decide, by decide⟩ rfl (Nat.le_of_ble_eq_true rfl) ⟨Nat.zero_le _, Nat.zero_le _⟩ dX11_acres_40 rfl rfl ?_
        obtain ⟨rfl, rfl⟩ := Prod.mk.inj (Option.some.inj h)
        exact ap_iret rfl dX11_acres_43
      · rw [if_neg hc3] at h
        refine ap_sub [0] rfl ?_
        exact AX11_acres_L19   h
theorem mcX11_acres {l : Launch} {K : Kt} {N : Nat}  {w : Mm} {x1 : Int32} {x2 : Int32} {x3 : Int32} {zx : Int32} {zw : Mm} (h : fX11_acres N w x1 x2 x3 = some (zx, zw)) : MC l K yX11_acres cX11_acres 4 (some .int) rmX11_acres w [.ref (K.1 0), .int x1, .int x2, .int x3] (some (.int zx)) zw :=
  MC.of (by decide) (Nat.le_of_ble_eq_true rfl) rfl (AX11_acres  h)
def fX11_hedges_L12 (N : Nat) (w : Mm) : Option (Int32 × Mm) :=
ob2 (some (fX11_bad w (-10 : Int32))) fun a5 m6 =>
some (a5, m6)
set_option maxRecDepth 100000 in
set_option maxHeartbeats 4000000 in
theorem AX11_hedges_L12 {l : Launch} {K : Kt} {N : Nat}   {w : Mm} {zx : Int32} {zw : Mm} (h : fX11_hedges_L12 N w = some (zx, zw)) : AW l K cX11_hedges RX11 3 (some .int) rmX11_hedges 0 0 ap_E (ap_F K (some (.int zx)) zw) w 12 [(0, .ref (K.1 0))] [] := by
  unfold fX11_hedges_L12 at h
  refine ap_aload_n dX11_hedges_12 0 rfl rfl ?_
  refine ap_bipush (v := -10) dX11_hedges_13 (by decide) ?_
  obtain ⟨a5, m6, ha5, h⟩ := ob2_iff h
  refine ap_callV (k := 0) (As := [.int (-10 : Int32)]) (st := []) (st1 := [.int a5]) (mcX11_bad  (Option.some.inj ha5)) cv_X11_77 rfl ly_0 ⟨rfl, rfl, by decide, by decide⟩ rfl (Nat.le_of_ble_eq_true rfl) ⟨Nat.zero_le _, Nat.zero_le _⟩ dX11_hedges_15 rfl rfl ?_
  obtain ⟨rfl, rfl⟩ := Prod.mk.inj (Option.some.inj h)
  exact ap_iret rfl dX11_hedges_18
def fX11_hedges (N : Nat) (w : Mm) (x1 : Int32) (x2 : Int32) : Option (Int32 × Mm) :=
if (fX11_isHour x1) = (0 : Int32) then (
fX11_hedges_L12 N w)
else (
if (-1 : Int32) ≤ x2 then (
Option.bind (fX3_layAll N w x1) fun m3 =>
Option.bind (fX3_pick N m3 (-2 : Int32) x2) fun a4 =>
some (a4, m3))
else (
fX11_hedges_L12 N w))
set_option maxRecDepth 100000 in
set_option maxHeartbeats 4000000 in
theorem AX11_hedges {l : Launch} {K : Kt} {N : Nat}  {w : Mm} {x1 : Int32} {x2 : Int32} {zx : Int32} {zw : Mm} (h : fX11_hedges N w x1 x2 = some (zx, zw)) : AW l K cX11_hedges RX11 3 (some .int) rmX11_hedges 0 0 ap_E (ap_F K (some (.int zx)) zw) w 0 [(0, .ref (K.1 0)), (1, .int x1), (2, .int x2)] [] := by
  unfold fX11_hedges at h
  refine ap_iload_n dX11_hedges_0 1 rfl rfl ?_
  refine ap_callS (As := [.int x1]) (st := []) (st1 := [.int (fX11_isHour x1)]) (mcX11_isHour  (w := w) (zx := fX11_isHour x1) rfl) cs_X11_161 ⟨rfl, rfl, by decide, by decide⟩ rfl (Nat.le_of_ble_eq_true rfl) ⟨Nat.zero_le _, Nat.zero_le _⟩ dX11_hedges_1 rfl rfl ?_
  refine ap_if_eq (tgt := 12) dX11_hedges_4 (by decide) (fun hc1 => ?_) (fun hc1 => ?_)
  · rw [if_pos hc1] at h
    refine ap_sub [0] rfl ?_
    exact AX11_hedges_L12   h
  · rw [if_neg hc1] at h
    refine ap_iload_n dX11_hedges_7 2 rfl rfl ?_
    refine ap_iconst (v := -1) dX11_hedges_8 (by decide) ?_
    refine ap_icmp_ge (tgt := 19) dX11_hedges_9 (by decide) (fun hc2 => ?_) (fun hc2 => ?_)
    · rw [if_pos hc2] at h
      refine ap_aload_n dX11_hedges_19 0 rfl rfl ?_
      refine ap_get (v := .ref (K.1 53)) fl_X11_36 ly_0 rfl rfl dX11_hedges_20 ?_
      refine ap_iload_n dX11_hedges_23 1 rfl rfl ?_
      obtain ⟨m3, hm3, h⟩ := Option.bind_eq_some_iff.mp h
      refine ap_callV (k := 53) (As := [.int x1]) (st := []) (st1 := []) (mcX3_layAll  hm3) cv_X11_183 rfl ly_53 ⟨rfl, rfl, by decide, by decide⟩ rfl (Nat.le_of_ble_eq_true rfl) ⟨Nat.zero_le _, Nat.zero_le _⟩ dX11_hedges_24 rfl rfl ?_
      refine ap_aload_n dX11_hedges_27 0 rfl rfl ?_
      refine ap_get (v := .ref (K.1 53)) fl_X11_36 ly_0 rfl rfl dX11_hedges_28 ?_
      refine ap_bipush (v := -2) dX11_hedges_31 (by decide) ?_
      refine ap_iload_n dX11_hedges_33 2 rfl rfl ?_
      obtain ⟨a4, ha4, h⟩ := Option.bind_eq_some_iff.mp h
      refine ap_callV (k := 53) (As := [.int (-2 : Int32), .int x2]) (st := []) (st1 := [.int a4]) (mcX3_pick  (w := m3) ha4) cv_X11_186 rfl ly_53 ⟨rfl, rfl, by decide, by decide⟩ rfl (Nat.le_of_ble_eq_true rfl) ⟨Nat.zero_le _, Nat.zero_le _⟩ dX11_hedges_34 rfl rfl ?_
      obtain ⟨rfl, rfl⟩ := Prod.mk.inj (Option.some.inj h)
      exact ap_iret rfl dX11_hedges_37
    · rw [if_neg hc2] at h
      refine ap_sub [0] rfl ?_
      exact AX11_hedges_L12   h
theorem mcX11_hedges {l : Launch} {K : Kt} {N : Nat}  {w : Mm} {x1 : Int32} {x2 : Int32} {zx : Int32} {zw : Mm} (h : fX11_hedges N w x1 x2 = some (zx, zw)) : MC l K yX11_hedges cX11_hedges 3 (some .int) rmX11_hedges w [.ref (K.1 0), .int x1, .int x2] (some (.int zx)) zw :=
  MC.of (by decide) (Nat.le_of_ble_eq_true rfl) rfl (AX11_hedges  h)
def fX11_dark_L24 (N : Nat) (w : Mm) : Option (Int32 × Mm) :=
ob2 (some (fX11_bad w (-2 : Int32))) fun a7 m8 =>
some (a7, m8)
set_option maxRecDepth 100000 in
set_option maxHeartbeats 4000000 in
theorem AX11_dark_L24 {l : Launch} {K : Kt} {N : Nat}   {w : Mm} {zx : Int32} {zw : Mm} (h : fX11_dark_L24 N w = some (zx, zw)) : AW l K cX11_dark RX11 5 (some .int) rmX11_dark 0 0 ap_E (ap_F K (some (.int zx)) zw) w 24 [(0, .ref (K.1 0))] [] := by
  unfold fX11_dark_L24 at h
  refine ap_aload_n dX11_dark_24 0 rfl rfl ?_
  refine ap_bipush (v := -2) dX11_dark_25 (by decide) ?_
  obtain ⟨a7, m8, ha7, h⟩ := ob2_iff h
  refine ap_callV (k := 0) (As := [.int (-2 : Int32)]) (st := []) (st1 := [.int a7]) (mcX11_bad  (Option.some.inj ha7)) cv_X11_77 rfl ly_0 ⟨rfl, rfl, by decide, by decide⟩ rfl (Nat.le_of_ble_eq_true rfl) ⟨Nat.zero_le _, Nat.zero_le _⟩ dX11_dark_27 rfl rfl ?_
  obtain ⟨rfl, rfl⟩ := Prod.mk.inj (Option.some.inj h)
  exact ap_iret rfl dX11_dark_30
def fX11_dark_L34 (N : Nat) : Nat → Mm → Int32 → Int32 → Int32 → Option (Int32 × Mm)
  | 0, _, _, _, _ => none
  | n0 + 1, w, x1, x3, x4 => if (12 : Int32) ≤ x4 then (
some ((12 : Int32), w))
else (
Option.bind (fX3_reaching N w x1 x4 x3) fun a5 =>
if (a5 &&& (w.1 1 2)) = (0 : Int32) then (
some (x4, w))
else (
(fX11_dark_L34 N n0) w x1 x3 (x4 + 1)))
set_option maxRecDepth 100000 in
set_option maxHeartbeats 4000000 in
theorem AX11_dark_L34 {l : Launch} {K : Kt} {N : Nat}   : ∀ (n0 : Nat) (w : Mm) (x1 : Int32) (x3 : Int32) (x4 : Int32) {zx : Int32} {zw : Mm}, fX11_dark_L34 N n0 w x1 x3 x4 = some (zx, zw) → AW l K cX11_dark RX11 5 (some .int) rmX11_dark 0 0 ap_E (ap_F K (some (.int zx)) zw) w 34 [(0, .ref (K.1 0)), (1, .int x1), (3, .int x3), (4, .int x4)] [] := by
  intro n0
  induction n0 with
  | zero =>
    intro w x1 x3 x4 zx zw h
    cases h
  | succ n0 ih =>
    intro w x1 x3 x4 zx zw h
    rw [fX11_dark_L34] at h
    refine ap_iload dX11_dark_34 3 rfl ?_
    refine ap_bipush (v := 12) dX11_dark_36 (by decide) ?_
    refine ap_icmp_ge (tgt := 72) dX11_dark_38 (by decide) (fun hc4 => ?_) (fun hc4 => ?_)
    · rw [if_pos hc4] at h
      refine ap_bipush (v := 12) dX11_dark_72 (by decide) ?_
      obtain ⟨rfl, rfl⟩ := Prod.mk.inj (Option.some.inj h)
      exact ap_iret rfl dX11_dark_74
    · rw [if_neg hc4] at h
      refine ap_aload_n dX11_dark_41 0 rfl rfl ?_
      refine ap_get (v := .ref (K.1 53)) fl_X11_36 ly_0 rfl rfl dX11_dark_42 ?_
      refine ap_iload_n dX11_dark_45 1 rfl rfl ?_
      refine ap_iload dX11_dark_46 3 rfl ?_
      refine ap_iload_n dX11_dark_48 2 rfl rfl ?_
      obtain ⟨a5, ha5, h⟩ := Option.bind_eq_some_iff.mp h
      refine ap_callV (k := 53) (As := [.int x1, .int x4, .int x3]) (st := []) (st1 := [.int a5]) (mcX3_reaching  (w := w) ha5) cv_X11_189 rfl ly_53 ⟨rfl, rfl, by decide, by decide⟩ rfl (Nat.le_of_ble_eq_true rfl) ⟨Nat.zero_le _, Nat.zero_le _⟩ dX11_dark_49 rfl rfl ?_
      refine ap_aload_n dX11_dark_52 0 rfl rfl ?_
      refine ap_get (v := .ref (K.1 1)) fl_X11_12 ly_0 rfl rfl dX11_dark_53 ?_
      refine ap_get (v := .int (w.1 1 2)) fl_X11_122 ly_1 rfl rfl dX11_dark_56 ?_
      refine ap_iand dX11_dark_59 ?_
      refine ap_if_ne (tgt := 66) dX11_dark_60 (by decide) (fun hc6 => ?_) (fun hc6 => ?_)
      · rw [if_neg hc6] at h
        refine ap_iinc (v := x4 + 1) (lv' := [(4, .int (x4 + 1)), (0, .ref (K.1 0)), (1, .int x1), (3, .int x3)]) dX11_dark_66 3 rfl rfl (by decide) rfl ?_
        refine ap_goto (tgt := 34) dX11_dark_69 (by decide) ?_
        refine ap_sub [1, 2, 3, 0] rfl ?_
        exact ih _ _ _ _ h
      · rw [if_pos hc6] at h
        refine ap_iload dX11_dark_63 3 rfl ?_
        obtain ⟨rfl, rfl⟩ := Prod.mk.inj (Option.some.inj h)
        exact ap_iret rfl dX11_dark_65
def fX11_dark (N : Nat) (w : Mm) (x1 : Int32) (x2 : Int32) (x3 : Int32) : Option (Int32 × Mm) :=
if (fX11_isCell x1) = (0 : Int32) then (
fX11_dark_L24 N w)
else (
if (fX11_isHour x2) = (0 : Int32) then (
fX11_dark_L24 N w)
else (
if (fX11_within x3 (1 : Int32) (20 : Int32)) = (0 : Int32) then (
fX11_dark_L24 N w)
else (
fX11_dark_L34 N N w x1 x3 x2)))
set_option maxRecDepth 100000 in
set_option maxHeartbeats 4000000 in
theorem AX11_dark {l : Launch} {K : Kt} {N : Nat}  {w : Mm} {x1 : Int32} {x2 : Int32} {x3 : Int32} {zx : Int32} {zw : Mm} (h : fX11_dark N w x1 x2 x3 = some (zx, zw)) : AW l K cX11_dark RX11 5 (some .int) rmX11_dark 0 0 ap_E (ap_F K (some (.int zx)) zw) w 0 [(0, .ref (K.1 0)), (1, .int x1), (2, .int x2), (3, .int x3)] [] := by
  unfold fX11_dark at h
  refine ap_iload_n dX11_dark_0 1 rfl rfl ?_
  refine ap_callS (As := [.int x1]) (st := []) (st1 := [.int (fX11_isCell x1)]) (mcX11_isCell  (w := w) (zx := fX11_isCell x1) rfl) cs_X11_91 ⟨rfl, rfl, by decide, by decide⟩ rfl (Nat.le_of_ble_eq_true rfl) ⟨Nat.zero_le _, Nat.zero_le _⟩ dX11_dark_1 rfl rfl ?_
  refine ap_if_eq (tgt := 24) dX11_dark_4 (by decide) (fun hc1 => ?_) (fun hc1 => ?_)
  · rw [if_pos hc1] at h
    refine ap_sub [0] rfl ?_
    exact AX11_dark_L24   h
  · rw [if_neg hc1] at h
    refine ap_iload_n dX11_dark_7 2 rfl rfl ?_
    refine ap_callS (As := [.int x2]) (st := []) (st1 := [.int (fX11_isHour x2)]) (mcX11_isHour  (w := w) (zx := fX11_isHour x2) rfl) cs_X11_161 ⟨rfl, rfl, by decide, by decide⟩ rfl (Nat.le_of_ble_eq_true rfl) ⟨Nat.zero_le _, Nat.zero_le _⟩ dX11_dark_8 rfl rfl ?_
    refine ap_if_eq (tgt := 24) dX11_dark_11 (by decide) (fun hc2 => ?_) (fun hc2 => ?_)
    · rw [if_pos hc2] at h
      refine ap_sub [0] rfl ?_
      exact AX11_dark_L24   h
    · rw [if_neg hc2] at h
      refine ap_iload_n dX11_dark_14 3 rfl rfl ?_
      refine ap_iconst (v := 1) dX11_dark_15 (by decide) ?_
      refine ap_bipush (v := 20) dX11_dark_16 (by decide) ?_
      refine ap_callS (As := [.int x3, .int (1 : Int32), .int (20 : Int32)]) (st := []) (st1 := [.int (fX11_within x3 (1 : Int32) (20 : Int32))]) (mcX11_within  (w := w) (zx := fX11_within x3 (1 : Int32) (20 : Int32)) rfl) cs_X11_73 ⟨rfl, rfl, by decide, by decide⟩ rfl (Nat.le_of_ble_eq_true rfl) ⟨Nat.zero_le _, Nat.zero_le _⟩ dX11_dark_18 rfl rfl ?_
      refine ap_if_ne (tgt := 31) dX11_dark_21 (by decide) (fun hc3 => ?_) (fun hc3 => ?_)
      · rw [if_neg hc3] at h
        refine ap_iload_n dX11_dark_31 2 rfl rfl ?_
        refine ap_istore (i := 4) (lv' := [(4, .int x2), (0, .ref (K.1 0)), (1, .int x1), (2, .int x2), (3, .int x3)]) dX11_dark_32 (by decide) rfl ?_
        refine ap_sub [1, 2, 4, 0] rfl ?_
        exact AX11_dark_L34  N _ _ _ _ h
      · rw [if_pos hc3] at h
        refine ap_sub [0] rfl ?_
        exact AX11_dark_L24   h
theorem mcX11_dark {l : Launch} {K : Kt} {N : Nat}  {w : Mm} {x1 : Int32} {x2 : Int32} {x3 : Int32} {zx : Int32} {zw : Mm} (h : fX11_dark N w x1 x2 x3 = some (zx, zw)) : MC l K yX11_dark cX11_dark 5 (some .int) rmX11_dark w [.ref (K.1 0), .int x1, .int x2, .int x3] (some (.int zx)) zw :=
  MC.of (by decide) (Nat.le_of_ble_eq_true rfl) rfl (AX11_dark  h)
def fX11_want (w : Mm) (x1 : Int32) : Option (Int32 × Mm) :=
if (fX11_isCell x1) = (0 : Int32) then (
ob2 (some (fX11_bad w (-2 : Int32))) fun a7 m8 =>
some (a7, m8))
else (
if (w.1 1 8) < (6 : Int32) then (
Option.bind (wrA w 7 6 (w.1 1 8) x1) fun m3 =>
Option.bind (some (sI m3 1 8 ((m3.1 1 8) + (1 : Int32)))) fun m4 =>
some ((m4.1 1 8), m4))
else (
ob2 (some (fX11_full w)) fun a5 m6 =>
some (a5, m6)))
set_option maxRecDepth 100000 in
set_option maxHeartbeats 4000000 in
theorem AX11_want {l : Launch} {K : Kt}  {w : Mm} {x1 : Int32} {zx : Int32} {zw : Mm} (h : fX11_want w x1 = some (zx, zw)) : AW l K cX11_want RX11 2 (some .int) rmX11_want 0 0 ap_E (ap_F K (some (.int zx)) zw) w 0 [(0, .ref (K.1 0)), (1, .int x1)] [] := by
  unfold fX11_want at h
  refine ap_iload_n dX11_want_0 1 rfl rfl ?_
  refine ap_callS (As := [.int x1]) (st := []) (st1 := [.int (fX11_isCell x1)]) (mcX11_isCell  (w := w) (zx := fX11_isCell x1) rfl) cs_X11_91 ⟨rfl, rfl, by decide, by decide⟩ rfl (Nat.le_of_ble_eq_true rfl) ⟨Nat.zero_le _, Nat.zero_le _⟩ dX11_want_1 rfl rfl ?_
  refine ap_if_ne (tgt := 14) dX11_want_4 (by decide) (fun hc1 => ?_) (fun hc1 => ?_)
  · rw [if_neg hc1] at h
    refine ap_aload_n dX11_want_14 0 rfl rfl ?_
    refine ap_get (v := .ref (K.1 1)) fl_X11_12 ly_0 rfl rfl dX11_want_15 ?_
    refine ap_get (v := .int (w.1 1 8)) fl_X11_192 ly_1 rfl rfl dX11_want_18 ?_
    refine ap_bipush (v := 6) dX11_want_21 (by decide) ?_
    refine ap_icmp_lt (tgt := 31) dX11_want_23 (by decide) (fun hc2 => ?_) (fun hc2 => ?_)
    · rw [if_pos hc2] at h
      refine ap_aload_n dX11_want_31 0 rfl rfl ?_
      refine ap_get (v := .ref (K.1 1)) fl_X11_12 ly_0 rfl rfl dX11_want_32 ?_
      refine ap_get (v := .ref (K.1 7)) fl_X11_195 ly_1 rfl rfl dX11_want_35 ?_
      refine ap_aload_n dX11_want_38 0 rfl rfl ?_
      refine ap_get (v := .ref (K.1 1)) fl_X11_12 ly_0 rfl rfl dX11_want_39 ?_
      refine ap_get (v := .int (w.1 1 8)) fl_X11_192 ly_1 rfl rfl dX11_want_42 ?_
      refine ap_iload_n dX11_want_45 1 rfl rfl ?_
      obtain ⟨m3, hm3, h⟩ := Option.bind_eq_some_iff.mp h
      refine ap_iast ly_7 hm3 dX11_want_46 ?_
      refine ap_aload_n dX11_want_47 0 rfl rfl ?_
      refine ap_get (v := .ref (K.1 1)) fl_X11_12 ly_0 rfl rfl dX11_want_48 ?_
      refine ap_dup dX11_want_51 rfl ?_
      refine ap_get (v := .int (m3.1 1 8)) fl_X11_192 ly_1 rfl rfl dX11_want_52 ?_
      refine ap_iconst (v := 1) dX11_want_55 (by decide) ?_
      refine ap_iadd dX11_want_56 ?_
      obtain ⟨m4, hm4, h⟩ := Option.bind_eq_some_iff.mp h
      refine ap_putI fp_X11_192 ly_1 rfl (Option.some.inj hm4) dX11_want_57 ?_
      refine ap_aload_n dX11_want_60 0 rfl rfl ?_
      refine ap_get (v := .ref (K.1 1)) fl_X11_12 ly_0 rfl rfl dX11_want_61 ?_
      refine ap_get (v := .int (m4.1 1 8)) fl_X11_192 ly_1 rfl rfl dX11_want_64 ?_
      obtain ⟨rfl, rfl⟩ := Prod.mk.inj (Option.some.inj h)
      exact ap_iret rfl dX11_want_67
    · rw [if_neg hc2] at h
      refine ap_aload_n dX11_want_26 0 rfl rfl ?_
      obtain ⟨a5, m6, ha5, h⟩ := ob2_iff h
      refine ap_callV (k := 0) (As := []) (st := []) (st1 := [.int a5]) (mcX11_full  (Option.some.inj ha5)) cv_X11_98 rfl ly_0 ⟨rfl, rfl, by decide, by decide⟩ rfl (Nat.le_of_ble_eq_true rfl) ⟨Nat.zero_le _, Nat.zero_le _⟩ dX11_want_27 rfl rfl ?_
      obtain ⟨rfl, rfl⟩ := Prod.mk.inj (Option.some.inj h)
      exact ap_iret rfl dX11_want_30
  · rw [if_pos hc1] at h
    refine ap_aload_n dX11_want_7 0 rfl rfl ?_
    refine ap_bipush (v := -2) dX11_want_8 (by decide) ?_
    obtain ⟨a7, m8, ha7, h⟩ := ob2_iff h
    refine ap_callV (k := 0) (As := [.int (-2 : Int32)]) (st := []) (st1 := [.int a7]) (mcX11_bad  (Option.some.inj ha7)) cv_X11_77 rfl ly_0 ⟨rfl, rfl, by decide, by decide⟩ rfl (Nat.le_of_ble_eq_true rfl) ⟨Nat.zero_le _, Nat.zero_le _⟩ dX11_want_10 rfl rfl ?_
    obtain ⟨rfl, rfl⟩ := Prod.mk.inj (Option.some.inj h)
    exact ap_iret rfl dX11_want_13
theorem mcX11_want {l : Launch} {K : Kt}  {w : Mm} {x1 : Int32} {zx : Int32} {zw : Mm} (h : fX11_want w x1 = some (zx, zw)) : MC l K yX11_want cX11_want 2 (some .int) rmX11_want w [.ref (K.1 0), .int x1] (some (.int zx)) zw :=
  MC.of (by decide) (Nat.le_of_ble_eq_true rfl) rfl (AX11_want  h)
def fX11_forget (w : Mm) : (Int32 × Mm) :=
((w.1 1 8), (sI w 1 8 (0 : Int32)))
set_option maxRecDepth 100000 in
set_option maxHeartbeats 4000000 in
theorem AX11_forget {l : Launch} {K : Kt}  {w : Mm} {zx : Int32} {zw : Mm} (h : fX11_forget w = (zx, zw)) : AW l K cX11_forget RX11 2 (some .int) rmX11_forget 0 0 ap_E (ap_F K (some (.int zx)) zw) w 0 [(0, .ref (K.1 0))] [] := by
  unfold fX11_forget at h
  refine ap_aload_n dX11_forget_0 0 rfl rfl ?_
  refine ap_get (v := .ref (K.1 1)) fl_X11_12 ly_0 rfl rfl dX11_forget_1 ?_
  refine ap_get (v := .int (w.1 1 8)) fl_X11_192 ly_1 rfl rfl dX11_forget_4 ?_
  refine ap_istore_n (i := 1) (lv' := [(1, .int (w.1 1 8)), (0, .ref (K.1 0))]) dX11_forget_7 rfl (by decide) rfl ?_
  refine ap_aload_n dX11_forget_8 1 rfl rfl ?_
  refine ap_get (v := .ref (K.1 1)) fl_X11_12 ly_0 rfl rfl dX11_forget_9 ?_
  refine ap_iconst (v := 0) dX11_forget_12 (by decide) ?_
  refine ap_putI (w1 := sI w 1 8 (0 : Int32)) fp_X11_192 ly_1 rfl rfl dX11_forget_13 ?_
  refine ap_iload_n dX11_forget_16 0 rfl rfl ?_
  obtain ⟨rfl, rfl⟩ := Prod.mk.inj h
  exact ap_iret rfl dX11_forget_17
theorem mcX11_forget {l : Launch} {K : Kt}  {w : Mm} {zx : Int32} {zw : Mm} (h : fX11_forget w = (zx, zw)) : MC l K yX11_forget cX11_forget 2 (some .int) rmX11_forget w [.ref (K.1 0)] (some (.int zx)) zw :=
  MC.of (by decide) (Nat.le_of_ble_eq_true rfl) rfl (AX11_forget  h)
def fX11_lighting_L17 (N : Nat) (w : Mm) : Option (Int32 × Mm) :=
ob2 (some (fX11_bad w (-2 : Int32))) fun a5 m6 =>
some (a5, m6)
set_option maxRecDepth 100000 in
set_option maxHeartbeats 4000000 in
theorem AX11_lighting_L17 {l : Launch} {K : Kt} {N : Nat}   {w : Mm} {zx : Int32} {zw : Mm} (h : fX11_lighting_L17 N w = some (zx, zw)) : AW l K cX11_lighting RX11 3 (some .int) rmX11_lighting 0 0 ap_E (ap_F K (some (.int zx)) zw) w 17 [(0, .ref (K.1 0))] [] := by
  unfold fX11_lighting_L17 at h
  refine ap_aload_n dX11_lighting_17 0 rfl rfl ?_
  refine ap_bipush (v := -2) dX11_lighting_18 (by decide) ?_
  obtain ⟨a5, m6, ha5, h⟩ := ob2_iff h
  refine ap_callV (k := 0) (As := [.int (-2 : Int32)]) (st := []) (st1 := [.int a5]) (mcX11_bad  (Option.some.inj ha5)) cv_X11_77 rfl ly_0 ⟨rfl, rfl, by decide, by decide⟩ rfl (Nat.le_of_ble_eq_true rfl) ⟨Nat.zero_le _, Nat.zero_le _⟩ dX11_lighting_20 rfl rfl ?_
  obtain ⟨rfl, rfl⟩ := Prod.mk.inj (Option.some.inj h)
  exact ap_iret rfl dX11_lighting_23
def fX11_lighting (N : Nat) (w : Mm) (x1 : Int32) (x2 : Int32) : Option (Int32 × Mm) :=
if (fX11_isHour x1) = (0 : Int32) then (
fX11_lighting_L17 N w)
else (
if (fX11_within x2 (1 : Int32) (20 : Int32)) = (0 : Int32) then (
fX11_lighting_L17 N w)
else (
Option.bind (fX6_layWanted N w x1 x2) fun m3 =>
Option.bind (fX6_fewest N m3) fun a4 =>
some (a4, m3)))
set_option maxRecDepth 100000 in
set_option maxHeartbeats 4000000 in
theorem AX11_lighting {l : Launch} {K : Kt} {N : Nat}  {w : Mm} {x1 : Int32} {x2 : Int32} {zx : Int32} {zw : Mm} (h : fX11_lighting N w x1 x2 = some (zx, zw)) : AW l K cX11_lighting RX11 3 (some .int) rmX11_lighting 0 0 ap_E (ap_F K (some (.int zx)) zw) w 0 [(0, .ref (K.1 0)), (1, .int x1), (2, .int x2)] [] := by
  unfold fX11_lighting at h
  refine ap_iload_n dX11_lighting_0 1 rfl rfl ?_
  refine ap_callS (As := [.int x1]) (st := []) (st1 := [.int (fX11_isHour x1)]) (mcX11_isHour  (w := w) (zx := fX11_isHour x1) rfl) cs_X11_161 ⟨rfl, rfl, by decide, by decide⟩ rfl (Nat.le_of_ble_eq_true rfl) ⟨Nat.zero_le _, Nat.zero_le _⟩ dX11_lighting_1 rfl rfl ?_
  refine ap_if_eq (tgt := 17) dX11_lighting_4 (by decide) (fun hc1 => ?_) (fun hc1 => ?_)
  · rw [if_pos hc1] at h
    refine ap_sub [0] rfl ?_
    exact AX11_lighting_L17   h
  · rw [if_neg hc1] at h
    refine ap_iload_n dX11_lighting_7 2 rfl rfl ?_
    refine ap_iconst (v := 1) dX11_lighting_8 (by decide) ?_
    refine ap_bipush (v := 20) dX11_lighting_9 (by decide) ?_
    refine ap_callS (As := [.int x2, .int (1 : Int32), .int (20 : Int32)]) (st := []) (st1 := [.int (fX11_within x2 (1 : Int32) (20 : Int32))]) (mcX11_within  (w := w) (zx := fX11_within x2 (1 : Int32) (20 : Int32)) rfl) cs_X11_73 ⟨rfl, rfl, by decide, by decide⟩ rfl (Nat.le_of_ble_eq_true rfl) ⟨Nat.zero_le _, Nat.zero_le _⟩ dX11_lighting_11 rfl rfl ?_
    refine ap_if_ne (tgt := 24) dX11_lighting_14 (by decide) (fun hc2 => ?_) (fun hc2 => ?_)
    · rw [if_neg hc2] at h
      refine ap_aload_n dX11_lighting_24 0 rfl rfl ?_
      refine ap_get (v := .ref (K.1 68)) fl_X11_45 ly_0 rfl rfl dX11_lighting_25 ?_
      refine ap_iload_n dX11_lighting_28 1 rfl rfl ?_
      refine ap_iload_n dX11_lighting_29 2 rfl rfl ?_
      obtain ⟨m3, hm3, h⟩ := Option.bind_eq_some_iff.mp h
      refine ap_callV (k := 68) (As := [.int x1, .int x2]) (st := []) (st1 := []) (mcX6_layWanted  hm3) cv_X11_198 rfl ly_68 ⟨rfl, rfl, by decide, by decide⟩ rfl (Nat.le_of_ble_eq_true rfl) ⟨Nat.zero_le _, Nat.zero_le _⟩ dX11_lighting_30 rfl rfl ?_
      refine ap_aload_n dX11_lighting_33 0 rfl rfl ?_
      refine ap_get (v := .ref (K.1 68)) fl_X11_45 ly_0 rfl rfl dX11_lighting_34 ?_
      obtain ⟨a4, ha4, h⟩ := Option.bind_eq_some_iff.mp h
      refine ap_callV (k := 68) (As := []) (st := []) (st1 := [.int a4]) (mcX6_fewest  (w := m3) ha4) cv_X11_201 rfl ly_68 ⟨rfl, rfl, by decide, by decide⟩ rfl (Nat.le_of_ble_eq_true rfl) ⟨Nat.zero_le _, Nat.zero_le _⟩ dX11_lighting_37 rfl rfl ?_
      obtain ⟨rfl, rfl⟩ := Prod.mk.inj (Option.some.inj h)
      exact ap_iret rfl dX11_lighting_40
    · rw [if_pos hc2] at h
      refine ap_sub [0] rfl ?_
      exact AX11_lighting_L17   h
theorem mcX11_lighting {l : Launch} {K : Kt} {N : Nat}  {w : Mm} {x1 : Int32} {x2 : Int32} {zx : Int32} {zw : Mm} (h : fX11_lighting N w x1 x2 = some (zx, zw)) : MC l K yX11_lighting cX11_lighting 3 (some .int) rmX11_lighting w [.ref (K.1 0), .int x1, .int x2] (some (.int zx)) zw :=
  MC.of (by decide) (Nat.le_of_ble_eq_true rfl) rfl (AX11_lighting  h)
def fX11_tallow_L17 (N : Nat) (w : Mm) : Option (Int32 × Mm) :=
ob2 (some (fX11_bad w (-2 : Int32))) fun a5 m6 =>
some (a5, m6)
set_option maxRecDepth 100000 in
set_option maxHeartbeats 4000000 in
theorem AX11_tallow_L17 {l : Launch} {K : Kt} {N : Nat}   {w : Mm} {zx : Int32} {zw : Mm} (h : fX11_tallow_L17 N w = some (zx, zw)) : AW l K cX11_tallow RX11 3 (some .int) rmX11_tallow 0 0 ap_E (ap_F K (some (.int zx)) zw) w 17 [(0, .ref (K.1 0))] [] := by
  unfold fX11_tallow_L17 at h
  refine ap_aload_n dX11_tallow_17 0 rfl rfl ?_
  refine ap_bipush (v := -2) dX11_tallow_18 (by decide) ?_
  obtain ⟨a5, m6, ha5, h⟩ := ob2_iff h
  refine ap_callV (k := 0) (As := [.int (-2 : Int32)]) (st := []) (st1 := [.int a5]) (mcX11_bad  (Option.some.inj ha5)) cv_X11_77 rfl ly_0 ⟨rfl, rfl, by decide, by decide⟩ rfl (Nat.le_of_ble_eq_true rfl) ⟨Nat.zero_le _, Nat.zero_le _⟩ dX11_tallow_20 rfl rfl ?_
  obtain ⟨rfl, rfl⟩ := Prod.mk.inj (Option.some.inj h)
  exact ap_iret rfl dX11_tallow_23
def fX11_tallow (N : Nat) (w : Mm) (x1 : Int32) (x2 : Int32) : Option (Int32 × Mm) :=
if (fX11_isHour x1) = (0 : Int32) then (
fX11_tallow_L17 N w)
else (
if (fX11_within x2 (1 : Int32) (20 : Int32)) = (0 : Int32) then (
fX11_tallow_L17 N w)
else (
Option.bind (fX6_layWanted N w x1 x2) fun m3 =>
Option.bind (fX6_leastTallow N m3) fun a4 =>
some (a4, m3)))
set_option maxRecDepth 100000 in
set_option maxHeartbeats 4000000 in
theorem AX11_tallow {l : Launch} {K : Kt} {N : Nat}  {w : Mm} {x1 : Int32} {x2 : Int32} {zx : Int32} {zw : Mm} (h : fX11_tallow N w x1 x2 = some (zx, zw)) : AW l K cX11_tallow RX11 3 (some .int) rmX11_tallow 0 0 ap_E (ap_F K (some (.int zx)) zw) w 0 [(0, .ref (K.1 0)), (1, .int x1), (2, .int x2)] [] := by
  unfold fX11_tallow at h
  refine ap_iload_n dX11_tallow_0 1 rfl rfl ?_
  refine ap_callS (As := [.int x1]) (st := []) (st1 := [.int (fX11_isHour x1)]) (mcX11_isHour  (w := w) (zx := fX11_isHour x1) rfl) cs_X11_161 ⟨rfl, rfl, by decide, by decide⟩ rfl (Nat.le_of_ble_eq_true rfl) ⟨Nat.zero_le _, Nat.zero_le _⟩ dX11_tallow_1 rfl rfl ?_
  refine ap_if_eq (tgt := 17) dX11_tallow_4 (by decide) (fun hc1 => ?_) (fun hc1 => ?_)
  · rw [if_pos hc1] at h
    refine ap_sub [0] rfl ?_
    exact AX11_tallow_L17   h
  · rw [if_neg hc1] at h
    refine ap_iload_n dX11_tallow_7 2 rfl rfl ?_
    refine ap_iconst (v := 1) dX11_tallow_8 (by decide) ?_
    refine ap_bipush (v := 20) dX11_tallow_9 (by decide) ?_
    refine ap_callS (As := [.int x2, .int (1 : Int32), .int (20 : Int32)]) (st := []) (st1 := [.int (fX11_within x2 (1 : Int32) (20 : Int32))]) (mcX11_within  (w := w) (zx := fX11_within x2 (1 : Int32) (20 : Int32)) rfl) cs_X11_73 ⟨rfl, rfl, by decide, by decide⟩ rfl (Nat.le_of_ble_eq_true rfl) ⟨Nat.zero_le _, Nat.zero_le _⟩ dX11_tallow_11 rfl rfl ?_
    refine ap_if_ne (tgt := 24) dX11_tallow_14 (by decide) (fun hc2 => ?_) (fun hc2 => ?_)
    · rw [if_neg hc2] at h
      refine ap_aload_n dX11_tallow_24 0 rfl rfl ?_
      refine ap_get (v := .ref (K.1 68)) fl_X11_45 ly_0 rfl rfl dX11_tallow_25 ?_
      refine ap_iload_n dX11_tallow_28 1 rfl rfl ?_
      refine ap_iload_n dX11_tallow_29 2 rfl rfl ?_
      obtain ⟨m3, hm3, h⟩ := Option.bind_eq_some_iff.mp h
      refine ap_callV (k := 68) (As := [.int x1, .int x2]) (st := []) (st1 := []) (mcX6_layWanted  hm3) cv_X11_198 rfl ly_68 ⟨rfl, rfl, by decide, by decide⟩ rfl (Nat.le_of_ble_eq_true rfl) ⟨Nat.zero_le _, Nat.zero_le _⟩ dX11_tallow_30 rfl rfl ?_
      refine ap_aload_n dX11_tallow_33 0 rfl rfl ?_
      refine ap_get (v := .ref (K.1 68)) fl_X11_45 ly_0 rfl rfl dX11_tallow_34 ?_
      obtain ⟨a4, ha4, h⟩ := Option.bind_eq_some_iff.mp h
      refine ap_callV (k := 68) (As := []) (st := []) (st1 := [.int a4]) (mcX6_leastTallow  (w := m3) ha4) cv_X11_204 rfl ly_68 ⟨rfl, rfl, by decide, by decide⟩ rfl (Nat.le_of_ble_eq_true rfl) ⟨Nat.zero_le _, Nat.zero_le _⟩ dX11_tallow_37 rfl rfl ?_
      obtain ⟨rfl, rfl⟩ := Prod.mk.inj (Option.some.inj h)
      exact ap_iret rfl dX11_tallow_40
    · rw [if_pos hc2] at h
      refine ap_sub [0] rfl ?_
      exact AX11_tallow_L17   h
theorem mcX11_tallow {l : Launch} {K : Kt} {N : Nat}  {w : Mm} {x1 : Int32} {x2 : Int32} {zx : Int32} {zw : Mm} (h : fX11_tallow N w x1 x2 = some (zx, zw)) : MC l K yX11_tallow cX11_tallow 3 (some .int) rmX11_tallow w [.ref (K.1 0), .int x1, .int x2] (some (.int zx)) zw :=
  MC.of (by decide) (Nat.le_of_ble_eq_true rfl) rfl (AX11_tallow  h)
def fX11_put_L18 (N : Nat) (w : Mm) : Option (Int32 × Mm) :=
ob2 (some (fX11_bad w (-2 : Int32))) fun a6 m7 =>
some (a6, m7)
set_option maxRecDepth 100000 in
set_option maxHeartbeats 4000000 in
theorem AX11_put_L18 {l : Launch} {K : Kt} {N : Nat}   {w : Mm} {zx : Int32} {zw : Mm} (h : fX11_put_L18 N w = some (zx, zw)) : AW l K cX11_put RX11 3 (some .int) rmX11_put 0 0 ap_E (ap_F K (some (.int zx)) zw) w 18 [(0, .ref (K.1 0))] [] := by
  unfold fX11_put_L18 at h
  refine ap_aload_n dX11_put_18 0 rfl rfl ?_
  refine ap_bipush (v := -2) dX11_put_19 (by decide) ?_
  obtain ⟨a6, m7, ha6, h⟩ := ob2_iff h
  refine ap_callV (k := 0) (As := [.int (-2 : Int32)]) (st := []) (st1 := [.int a6]) (mcX11_bad  (Option.some.inj ha6)) cv_X11_77 rfl ly_0 ⟨rfl, rfl, by decide, by decide⟩ rfl (Nat.le_of_ble_eq_true rfl) ⟨Nat.zero_le _, Nat.zero_le _⟩ dX11_put_21 rfl rfl ?_
  obtain ⟨rfl, rfl⟩ := Prod.mk.inj (Option.some.inj h)
  exact ap_iret rfl dX11_put_24
def fX11_put (N : Nat) (w : Mm) (x1 : Int32) (x2 : Int32) : Option (Int32 × Mm) :=
if (fX8_has 1 w x1) = (0 : Int32) then (
fX11_put_L18 N w)
else (
if (fX11_isHour x2) = (0 : Int32) then (
fX11_put_L18 N w)
else (
Option.bind (fX3_layAll N w x2) fun m3 =>
ob2 (fX3_bestPlace N m3 x1 x2) fun a4 m5 =>
some (a4, m5)))
set_option maxRecDepth 100000 in
set_option maxHeartbeats 4000000 in
theorem AX11_put {l : Launch} {K : Kt} {N : Nat}  {w : Mm} {x1 : Int32} {x2 : Int32} {zx : Int32} {zw : Mm} (h : fX11_put N w x1 x2 = some (zx, zw)) : AW l K cX11_put RX11 3 (some .int) rmX11_put 0 0 ap_E (ap_F K (some (.int zx)) zw) w 0 [(0, .ref (K.1 0)), (1, .int x1), (2, .int x2)] [] := by
  unfold fX11_put at h
  refine ap_aload_n dX11_put_0 0 rfl rfl ?_
  refine ap_get (v := .ref (K.1 1)) fl_X11_12 ly_0 rfl rfl dX11_put_1 ?_
  refine ap_iload_n dX11_put_4 1 rfl rfl ?_
  refine ap_callV (k := 1) (As := [.int x1]) (st := []) (st1 := [.int (fX8_has 1 w x1)]) (mcX8_has isV_1 (w := w) (zx := fX8_has 1 w x1) rfl) cv_X11_106 rfl ly_1 ⟨rfl, rfl, by decide, by decide⟩ rfl (Nat.le_of_ble_eq_true rfl) ⟨Nat.zero_le _, Nat.zero_le _⟩ dX11_put_5 rfl rfl ?_
  refine ap_if_eq (tgt := 18) dX11_put_8 (by decide) (fun hc1 => ?_) (fun hc1 => ?_)
  · rw [if_pos hc1] at h
    refine ap_sub [0] rfl ?_
    exact AX11_put_L18   h
  · rw [if_neg hc1] at h
    refine ap_iload_n dX11_put_11 2 rfl rfl ?_
    refine ap_callS (As := [.int x2]) (st := []) (st1 := [.int (fX11_isHour x2)]) (mcX11_isHour  (w := w) (zx := fX11_isHour x2) rfl) cs_X11_161 ⟨rfl, rfl, by decide, by decide⟩ rfl (Nat.le_of_ble_eq_true rfl) ⟨Nat.zero_le _, Nat.zero_le _⟩ dX11_put_12 rfl rfl ?_
    refine ap_if_ne (tgt := 25) dX11_put_15 (by decide) (fun hc2 => ?_) (fun hc2 => ?_)
    · rw [if_neg hc2] at h
      refine ap_aload_n dX11_put_25 0 rfl rfl ?_
      refine ap_get (v := .ref (K.1 53)) fl_X11_36 ly_0 rfl rfl dX11_put_26 ?_
      refine ap_iload_n dX11_put_29 2 rfl rfl ?_
      obtain ⟨m3, hm3, h⟩ := Option.bind_eq_some_iff.mp h
      refine ap_callV (k := 53) (As := [.int x2]) (st := []) (st1 := []) (mcX3_layAll  hm3) cv_X11_183 rfl ly_53 ⟨rfl, rfl, by decide, by decide⟩ rfl (Nat.le_of_ble_eq_true rfl) ⟨Nat.zero_le _, Nat.zero_le _⟩ dX11_put_30 rfl rfl ?_
      refine ap_aload_n dX11_put_33 0 rfl rfl ?_
      refine ap_get (v := .ref (K.1 53)) fl_X11_36 ly_0 rfl rfl dX11_put_34 ?_
      refine ap_iload_n dX11_put_37 1 rfl rfl ?_
      refine ap_iload_n dX11_put_38 2 rfl rfl ?_
      obtain ⟨a4, m5, ha4, h⟩ := ob2_iff h
      refine ap_callV (k := 53) (As := [.int x1, .int x2]) (st := []) (st1 := [.int a4]) (mcX3_bestPlace  ha4) cv_X11_207 rfl ly_53 ⟨rfl, rfl, by decide, by decide⟩ rfl (Nat.le_of_ble_eq_true rfl) ⟨Nat.zero_le _, Nat.zero_le _⟩ dX11_put_39 rfl rfl ?_
      obtain ⟨rfl, rfl⟩ := Prod.mk.inj (Option.some.inj h)
      exact ap_iret rfl dX11_put_42
    · rw [if_pos hc2] at h
      refine ap_sub [0] rfl ?_
      exact AX11_put_L18   h
theorem mcX11_put {l : Launch} {K : Kt} {N : Nat}  {w : Mm} {x1 : Int32} {x2 : Int32} {zx : Int32} {zw : Mm} (h : fX11_put N w x1 x2 = some (zx, zw)) : MC l K yX11_put cX11_put 3 (some .int) rmX11_put w [.ref (K.1 0), .int x1, .int x2] (some (.int zx)) zw :=
  MC.of (by decide) (Nat.le_of_ble_eq_true rfl) rfl (AX11_put  h)
def fX11_thief_L42 (N : Nat) (w : Mm) : Option (Int32 × Mm) :=
ob2 (some (fX11_bad w (-2 : Int32))) fun a11 m12 =>
some (a11, m12)
set_option maxRecDepth 100000 in
set_option maxHeartbeats 4000000 in
theorem AX11_thief_L42 {l : Launch} {K : Kt} {N : Nat}   {w : Mm} {zx : Int32} {zw : Mm} (h : fX11_thief_L42 N w = some (zx, zw)) : AW l K cX11_thief RX11 6 (some .int) rmX11_thief 0 0 ap_E (ap_F K (some (.int zx)) zw) w 42 [(0, .ref (K.1 0))] [] := by
  unfold fX11_thief_L42 at h
  refine ap_aload_n dX11_thief_42 0 rfl rfl ?_
  refine ap_bipush (v := -2) dX11_thief_43 (by decide) ?_
  obtain ⟨a11, m12, ha11, h⟩ := ob2_iff h
  refine ap_callV (k := 0) (As := [.int (-2 : Int32)]) (st := []) (st1 := [.int a11]) (mcX11_bad  (Option.some.inj ha11)) cv_X11_77 rfl ly_0 ⟨rfl, rfl, by decide, by decide⟩ rfl (Nat.le_of_ble_eq_true rfl) ⟨Nat.zero_le _, Nat.zero_le _⟩ dX11_thief_45 rfl rfl ?_
  obtain ⟨rfl, rfl⟩ := Prod.mk.inj (Option.some.inj h)
  exact ap_iret rfl dX11_thief_48
def fX11_thief (N : Nat) (w : Mm) (x1 : Int32) (x2 : Int32) (x3 : Int32) (x4 : Int32) (x5 : Int32) : Option (Int32 × Mm) :=
if (fX11_isCell x1) = (0 : Int32) then (
fX11_thief_L42 N w)
else (
if (fX11_isCell x2) = (0 : Int32) then (
fX11_thief_L42 N w)
else (
if (fX11_isHour x3) = (0 : Int32) then (
fX11_thief_L42 N w)
else (
if (fX11_within x4 (1 : Int32) (20 : Int32)) = (0 : Int32) then (
fX11_thief_L42 N w)
else (
if (fX11_within x5 (0 : Int32) (1 : Int32)) = (0 : Int32) then (
fX11_thief_L42 N w)
else (
Option.bind (fX3_layAll N w x3) fun m6 =>
Option.bind (fX9_spread N m6 x2 x4) fun m7 =>
if x5 = (0 : Int32) then (
Option.bind (fX9_stepsFrom m7 x1) fun a10 =>
some (a10, m7))
else (
Option.bind (fX9_firstBehind N m7 x1) fun a9 =>
some (a9, m7)))))))
set_option maxRecDepth 100000 in
set_option maxHeartbeats 4000000 in
theorem AX11_thief {l : Launch} {K : Kt} {N : Nat}  {w : Mm} {x1 : Int32} {x2 : Int32} {x3 : Int32} {x4 : Int32} {x5 : Int32} {zx : Int32} {zw : Mm} (h : fX11_thief N w x1 x2 x3 x4 x5 = some (zx, zw)) : AW l K cX11_thief RX11 6 (some .int) rmX11_thief 0 0 ap_E (ap_F K (some (.int zx)) zw) w 0 [(0, .ref (K.1 0)), (1, .int x1), (2, .int x2), (3, .int x3), (4, .int x4), (5, .int x5)] [] := by
  unfold fX11_thief at h
  refine ap_iload_n dX11_thief_0 1 rfl rfl ?_
  refine ap_callS (As := [.int x1]) (st := []) (st1 := [.int (fX11_isCell x1)]) (mcX11_isCell  (w := w) (zx := fX11_isCell x1) rfl) cs_X11_91 ⟨rfl, rfl, by decide, by decide⟩ rfl (Nat.le_of_ble_eq_true rfl) ⟨Nat.zero_le _, Nat.zero_le _⟩ dX11_thief_1 rfl rfl ?_
  refine ap_if_eq (tgt := 42) dX11_thief_4 (by decide) (fun hc1 => ?_) (fun hc1 => ?_)
  · rw [if_pos hc1] at h
    refine ap_sub [0] rfl ?_
    exact AX11_thief_L42   h
  · rw [if_neg hc1] at h
    refine ap_iload_n dX11_thief_7 2 rfl rfl ?_
    refine ap_callS (As := [.int x2]) (st := []) (st1 := [.int (fX11_isCell x2)]) (mcX11_isCell  (w := w) (zx := fX11_isCell x2) rfl) cs_X11_91 ⟨rfl, rfl, by decide, by decide⟩ rfl (Nat.le_of_ble_eq_true rfl) ⟨Nat.zero_le _, Nat.zero_le _⟩ dX11_thief_8 rfl rfl ?_
    refine ap_if_eq (tgt := 42) dX11_thief_11 (by decide) (fun hc2 => ?_) (fun hc2 => ?_)
    · rw [if_pos hc2] at h
      refine ap_sub [0] rfl ?_
      exact AX11_thief_L42   h
    · rw [if_neg hc2] at h
      refine ap_iload_n dX11_thief_14 3 rfl rfl ?_
      refine ap_callS (As := [.int x3]) (st := []) (st1 := [.int (fX11_isHour x3)]) (mcX11_isHour  (w := w) (zx := fX11_isHour x3) rfl) cs_X11_161 ⟨rfl, rfl, by decide, by decide⟩ rfl (Nat.le_of_ble_eq_true rfl) ⟨Nat.zero_le _, Nat.zero_le _⟩ dX11_thief_15 rfl rfl ?_
      refine ap_if_eq (tgt := 42) dX11_thief_18 (by decide) (fun hc3 => ?_) (fun hc3 => ?_)
      · rw [if_pos hc3] at h
        refine ap_sub [0] rfl ?_
        exact AX11_thief_L42   h
      · rw [if_neg hc3] at h
        refine ap_iload dX11_thief_21 4 rfl ?_
        refine ap_iconst (v := 1) dX11_thief_23 (by decide) ?_
        refine ap_bipush (v := 20) dX11_thief_24 (by decide) ?_
        refine ap_callS (As := [.int x4, .int (1 : Int32), .int (20 : Int32)]) (st := []) (st1 := [.int (fX11_within x4 (1 : Int32) (20 : Int32))]) (mcX11_within  (w := w) (zx := fX11_within x4 (1 : Int32) (20 : Int32)) rfl) cs_X11_73 ⟨rfl, rfl, by decide, by decide⟩ rfl (Nat.le_of_ble_eq_true rfl) ⟨Nat.zero_le _, Nat.zero_le _⟩ dX11_thief_26 rfl rfl ?_
        refine ap_if_eq (tgt := 42) dX11_thief_29 (by decide) (fun hc4 => ?_) (fun hc4 => ?_)
        · rw [if_pos hc4] at h
          refine ap_sub [0] rfl ?_
          exact AX11_thief_L42   h
        · rw [if_neg hc4] at h
          refine ap_iload dX11_thief_32 5 rfl ?_
          refine ap_iconst (v := 0) dX11_thief_34 (by decide) ?_
          refine ap_iconst (v := 1) dX11_thief_35 (by decide) ?_
          refine ap_callS (As := [.int x5, .int (0 : Int32), .int (1 : Int32)]) (st := []) (st1 := [.int (fX11_within x5 (0 : Int32) (1 : Int32))]) (mcX11_within  (w := w) (zx := fX11_within x5 (0 : Int32) (1 : Int32)) rfl) cs_X11_73 ⟨rfl, rfl, by decide, by decide⟩ rfl (Nat.le_of_ble_eq_true rfl) ⟨Nat.zero_le _, Nat.zero_le _⟩ dX11_thief_36 rfl rfl ?_
          refine ap_if_ne (tgt := 49) dX11_thief_39 (by decide) (fun hc5 => ?_) (fun hc5 => ?_)
          · rw [if_neg hc5] at h
            refine ap_aload_n dX11_thief_49 0 rfl rfl ?_
            refine ap_get (v := .ref (K.1 53)) fl_X11_36 ly_0 rfl rfl dX11_thief_50 ?_
            refine ap_iload_n dX11_thief_53 3 rfl rfl ?_
            obtain ⟨m6, hm6, h⟩ := Option.bind_eq_some_iff.mp h
            refine ap_callV (k := 53) (As := [.int x3]) (st := []) (st1 := []) (mcX3_layAll  hm6) cv_X11_183 rfl ly_53 ⟨rfl, rfl, by decide, by decide⟩ rfl (Nat.le_of_ble_eq_true rfl) ⟨Nat.zero_le _, Nat.zero_le _⟩ dX11_thief_54 rfl rfl ?_
            refine ap_aload_n dX11_thief_57 0 rfl rfl ?_
            refine ap_get (v := .ref (K.1 73)) fl_X11_52 ly_0 rfl rfl dX11_thief_58 ?_
            refine ap_iload_n dX11_thief_61 2 rfl rfl ?_
            refine ap_iload dX11_thief_62 4 rfl ?_
            obtain ⟨m7, hm7, h⟩ := Option.bind_eq_some_iff.mp h
            refine ap_callV (k := 73) (As := [.int x2, .int x4]) (st := []) (st1 := []) (mcX9_spread  hm7) cv_X11_210 rfl ly_73 ⟨rfl, rfl, by decide, by decide⟩ rfl (Nat.le_of_ble_eq_true rfl) ⟨Nat.zero_le _, Nat.zero_le _⟩ dX11_thief_64 rfl rfl ?_
            refine ap_iload dX11_thief_67 5 rfl ?_
            refine ap_if_ne (tgt := 83) dX11_thief_69 (by decide) (fun hc8 => ?_) (fun hc8 => ?_)
            · rw [if_neg hc8] at h
              refine ap_aload_n dX11_thief_83 0 rfl rfl ?_
              refine ap_get (v := .ref (K.1 73)) fl_X11_52 ly_0 rfl rfl dX11_thief_84 ?_
              refine ap_iload_n dX11_thief_87 1 rfl rfl ?_
              obtain ⟨a9, ha9, h⟩ := Option.bind_eq_some_iff.mp h
              refine ap_callV (k := 73) (As := [.int x1]) (st := []) (st1 := [.int a9]) (mcX9_firstBehind  (w := m7) ha9) cv_X11_216 rfl ly_73 ⟨rfl, rfl, by decide, by decide⟩ rfl (Nat.le_of_ble_eq_true rfl) ⟨Nat.zero_le _, Nat.zero_le _⟩ dX11_thief_88 rfl rfl ?_
              obtain ⟨rfl, rfl⟩ := Prod.mk.inj (Option.some.inj h)
              exact ap_iret rfl dX11_thief_91
            · rw [if_pos hc8] at h
              refine ap_aload_n dX11_thief_72 0 rfl rfl ?_
              refine ap_get (v := .ref (K.1 73)) fl_X11_52 ly_0 rfl rfl dX11_thief_73 ?_
              refine ap_iload_n dX11_thief_76 1 rfl rfl ?_
              obtain ⟨a10, ha10, h⟩ := Option.bind_eq_some_iff.mp h
              refine ap_callV (k := 73) (As := [.int x1]) (st := []) (st1 := [.int a10]) (mcX9_stepsFrom  (w := m7) ha10) cv_X11_213 rfl ly_73 ⟨rfl, rfl, by decide, by decide⟩ rfl (Nat.le_of_ble_eq_true rfl) ⟨Nat.zero_le _, Nat.zero_le _⟩ dX11_thief_77 rfl rfl ?_
              refine ap_goto (tgt := 91) dX11_thief_80 (by decide) ?_
              obtain ⟨rfl, rfl⟩ := Prod.mk.inj (Option.some.inj h)
              exact ap_iret rfl dX11_thief_91
          · rw [if_pos hc5] at h
            refine ap_sub [0] rfl ?_
            exact AX11_thief_L42   h
theorem mcX11_thief {l : Launch} {K : Kt} {N : Nat}  {w : Mm} {x1 : Int32} {x2 : Int32} {x3 : Int32} {x4 : Int32} {x5 : Int32} {zx : Int32} {zw : Mm} (h : fX11_thief N w x1 x2 x3 x4 x5 = some (zx, zw)) : MC l K yX11_thief cX11_thief 6 (some .int) rmX11_thief w [.ref (K.1 0), .int x1, .int x2, .int x3, .int x4, .int x5] (some (.int zx)) zw :=
  MC.of (by decide) (Nat.le_of_ble_eq_true rfl) rfl (AX11_thief  h)
def fX11_wedding_L26 (N : Nat) (w : Mm) : Option (Int32 × Mm) :=
ob2 (some (fX11_bad w (-100 : Int32))) fun a8 m9 =>
some (a8, m9)
set_option maxRecDepth 100000 in
set_option maxHeartbeats 4000000 in
theorem AX11_wedding_L26 {l : Launch} {K : Kt} {N : Nat}   {w : Mm} {zx : Int32} {zw : Mm} (h : fX11_wedding_L26 N w = some (zx, zw)) : AW l K cX11_wedding RX11 4 (some .int) rmX11_wedding 0 0 ap_E (ap_F K (some (.int zx)) zw) w 26 [(0, .ref (K.1 0))] [] := by
  unfold fX11_wedding_L26 at h
  refine ap_aload_n dX11_wedding_26 0 rfl rfl ?_
  refine ap_bipush (v := -100) dX11_wedding_27 (by decide) ?_
  obtain ⟨a8, m9, ha8, h⟩ := ob2_iff h
  refine ap_callV (k := 0) (As := [.int (-100 : Int32)]) (st := []) (st1 := [.int a8]) (mcX11_bad  (Option.some.inj ha8)) cv_X11_77 rfl ly_0 ⟨rfl, rfl, by decide, by decide⟩ rfl (Nat.le_of_ble_eq_true rfl) ⟨Nat.zero_le _, Nat.zero_le _⟩ dX11_wedding_29 rfl rfl ?_
  obtain ⟨rfl, rfl⟩ := Prod.mk.inj (Option.some.inj h)
  exact ap_iret rfl dX11_wedding_32
def fX11_wedding (N : Nat) (w : Mm) (x1 : Int32) (x2 : Int32) (x3 : Int32) : Option (Int32 × Mm) :=
if (fX11_isOwner x1) = (0 : Int32) then (
fX11_wedding_L26 N w)
else (
if (fX11_isOwner x2) = (0 : Int32) then (
fX11_wedding_L26 N w)
else (
if x1 = x2 then (
fX11_wedding_L26 N w)
else (
if (fX11_isHour x3) = (0 : Int32) then (
fX11_wedding_L26 N w)
else (
Option.bind (fX3_layAll N w x3) fun m5 =>
ob2 (fX3_gainByWedding N m5 x1 x2) fun a6 m7 =>
some (a6, m7)))))
set_option maxRecDepth 100000 in
set_option maxHeartbeats 4000000 in
theorem AX11_wedding {l : Launch} {K : Kt} {N : Nat}  {w : Mm} {x1 : Int32} {x2 : Int32} {x3 : Int32} {zx : Int32} {zw : Mm} (h : fX11_wedding N w x1 x2 x3 = some (zx, zw)) : AW l K cX11_wedding RX11 4 (some .int) rmX11_wedding 0 0 ap_E (ap_F K (some (.int zx)) zw) w 0 [(0, .ref (K.1 0)), (1, .int x1), (2, .int x2), (3, .int x3)] [] := by
  unfold fX11_wedding at h
  refine ap_iload_n dX11_wedding_0 1 rfl rfl ?_
  refine ap_callS (As := [.int x1]) (st := []) (st1 := [.int (fX11_isOwner x1)]) (mcX11_isOwner  (w := w) (zx := fX11_isOwner x1) rfl) cs_X11_95 ⟨rfl, rfl, by decide, by decide⟩ rfl (Nat.le_of_ble_eq_true rfl) ⟨Nat.zero_le _, Nat.zero_le _⟩ dX11_wedding_1 rfl rfl ?_
  refine ap_if_eq (tgt := 26) dX11_wedding_4 (by decide) (fun hc1 => ?_) (fun hc1 => ?_)
  · rw [if_pos hc1] at h
    refine ap_sub [0] rfl ?_
    exact AX11_wedding_L26   h
  · rw [if_neg hc1] at h
    refine ap_iload_n dX11_wedding_7 2 rfl rfl ?_
    refine ap_callS (As := [.int x2]) (st := []) (st1 := [.int (fX11_isOwner x2)]) (mcX11_isOwner  (w := w) (zx := fX11_isOwner x2) rfl) cs_X11_95 ⟨rfl, rfl, by decide, by decide⟩ rfl (Nat.le_of_ble_eq_true rfl) ⟨Nat.zero_le _, Nat.zero_le _⟩ dX11_wedding_8 rfl rfl ?_
    refine ap_if_eq (tgt := 26) dX11_wedding_11 (by decide) (fun hc2 => ?_) (fun hc2 => ?_)
    · rw [if_pos hc2] at h
      refine ap_sub [0] rfl ?_
      exact AX11_wedding_L26   h
    · rw [if_neg hc2] at h
      refine ap_iload_n dX11_wedding_14 1 rfl rfl ?_
      refine ap_iload_n dX11_wedding_15 2 rfl rfl ?_
      refine ap_icmp_eq (tgt := 26) dX11_wedding_16 (by decide) (fun hc3 => ?_) (fun hc3 => ?_)
      · rw [if_pos hc3] at h
        refine ap_sub [0] rfl ?_
        exact AX11_wedding_L26   h
      · rw [if_neg hc3] at h
        refine ap_iload_n dX11_wedding_19 3 rfl rfl ?_
        refine ap_callS (As := [.int x3]) (st := []) (st1 := [.int (fX11_isHour x3)]) (mcX11_isHour  (w := w) (zx := fX11_isHour x3) rfl) cs_X11_161 ⟨rfl, rfl, by decide, by decide⟩ rfl (Nat.le_of_ble_eq_true rfl) ⟨Nat.zero_le _, Nat.zero_le _⟩ dX11_wedding_20 rfl rfl ?_
        refine ap_if_ne (tgt := 33) dX11_wedding_23 (by decide) (fun hc4 => ?_) (fun hc4 => ?_)
        · rw [if_neg hc4] at h
          refine ap_aload_n dX11_wedding_33 0 rfl rfl ?_
          refine ap_get (v := .ref (K.1 53)) fl_X11_36 ly_0 rfl rfl dX11_wedding_34 ?_
          refine ap_iload_n dX11_wedding_37 3 rfl rfl ?_
          obtain ⟨m5, hm5, h⟩ := Option.bind_eq_some_iff.mp h
          refine ap_callV (k := 53) (As := [.int x3]) (st := []) (st1 := []) (mcX3_layAll  hm5) cv_X11_183 rfl ly_53 ⟨rfl, rfl, by decide, by decide⟩ rfl (Nat.le_of_ble_eq_true rfl) ⟨Nat.zero_le _, Nat.zero_le _⟩ dX11_wedding_38 rfl rfl ?_
          refine ap_aload_n dX11_wedding_41 0 rfl rfl ?_
          refine ap_get (v := .ref (K.1 53)) fl_X11_36 ly_0 rfl rfl dX11_wedding_42 ?_
          refine ap_iload_n dX11_wedding_45 1 rfl rfl ?_
          refine ap_iload_n dX11_wedding_46 2 rfl rfl ?_
          obtain ⟨a6, m7, ha6, h⟩ := ob2_iff h
          refine ap_callV (k := 53) (As := [.int x1, .int x2]) (st := []) (st1 := [.int a6]) (mcX3_gainByWedding  ha6) cv_X11_219 rfl ly_53 ⟨rfl, rfl, by decide, by decide⟩ rfl (Nat.le_of_ble_eq_true rfl) ⟨Nat.zero_le _, Nat.zero_le _⟩ dX11_wedding_47 rfl rfl ?_
          obtain ⟨rfl, rfl⟩ := Prod.mk.inj (Option.some.inj h)
          exact ap_iret rfl dX11_wedding_50
        · rw [if_pos hc4] at h
          refine ap_sub [0] rfl ?_
          exact AX11_wedding_L26   h
theorem mcX11_wedding {l : Launch} {K : Kt} {N : Nat}  {w : Mm} {x1 : Int32} {x2 : Int32} {x3 : Int32} {zx : Int32} {zw : Mm} (h : fX11_wedding N w x1 x2 x3 = some (zx, zw)) : MC l K yX11_wedding cX11_wedding 4 (some .int) rmX11_wedding w [.ref (K.1 0), .int x1, .int x2, .int x3] (some (.int zx)) zw :=
  MC.of (by decide) (Nat.le_of_ble_eq_true rfl) rfl (AX11_wedding  h)
def fX11_spite_L37 (N : Nat) (w : Mm) : Option (Int32 × Mm) :=
ob2 (some (fX11_bad w (-2 : Int32))) fun a9 m10 =>
some (a9, m10)
set_option maxRecDepth 100000 in
set_option maxHeartbeats 4000000 in
theorem AX11_spite_L37 {l : Launch} {K : Kt} {N : Nat}   {w : Mm} {zx : Int32} {zw : Mm} (h : fX11_spite_L37 N w = some (zx, zw)) : AW l K cX11_spite RX11 5 (some .int) rmX11_spite 0 0 ap_E (ap_F K (some (.int zx)) zw) w 37 [(0, .ref (K.1 0))] [] := by
  unfold fX11_spite_L37 at h
  refine ap_aload_n dX11_spite_37 0 rfl rfl ?_
  refine ap_bipush (v := -2) dX11_spite_38 (by decide) ?_
  obtain ⟨a9, m10, ha9, h⟩ := ob2_iff h
  refine ap_callV (k := 0) (As := [.int (-2 : Int32)]) (st := []) (st1 := [.int a9]) (mcX11_bad  (Option.some.inj ha9)) cv_X11_77 rfl ly_0 ⟨rfl, rfl, by decide, by decide⟩ rfl (Nat.le_of_ble_eq_true rfl) ⟨Nat.zero_le _, Nat.zero_le _⟩ dX11_spite_40 rfl rfl ?_
  obtain ⟨rfl, rfl⟩ := Prod.mk.inj (Option.some.inj h)
  exact ap_iret rfl dX11_spite_43
def fX11_spite (N : Nat) (w : Mm) (x1 : Int32) (x2 : Int32) (x3 : Int32) (x4 : Int32) : Option (Int32 × Mm) :=
if (fX11_isOwner x1) = (0 : Int32) then (
fX11_spite_L37 N w)
else (
if (fX11_isOwner x2) = (0 : Int32) then (
fX11_spite_L37 N w)
else (
if x1 = x2 then (
fX11_spite_L37 N w)
else (
if (fX11_isHour x3) = (0 : Int32) then (
fX11_spite_L37 N w)
else (
if (fX11_within x4 (0 : Int32) (99 : Int32)) = (0 : Int32) then (
fX11_spite_L37 N w)
else (
Option.bind (fX3_layAll N w x3) fun m6 =>
ob2 (fX3_resting N m6 x1 x2 x4) fun a7 m8 =>
some (a7, m8))))))
set_option maxRecDepth 100000 in
set_option maxHeartbeats 4000000 in
theorem AX11_spite {l : Launch} {K : Kt} {N : Nat}  {w : Mm} {x1 : Int32} {x2 : Int32} {x3 : Int32} {x4 : Int32} {zx : Int32} {zw : Mm} (h : fX11_spite N w x1 x2 x3 x4 = some (zx, zw)) : AW l K cX11_spite RX11 5 (some .int) rmX11_spite 0 0 ap_E (ap_F K (some (.int zx)) zw) w 0 [(0, .ref (K.1 0)), (1, .int x1), (2, .int x2), (3, .int x3), (4, .int x4)] [] := by
  unfold fX11_spite at h
  refine ap_iload_n dX11_spite_0 1 rfl rfl ?_
  refine ap_callS (As := [.int x1]) (st := []) (st1 := [.int (fX11_isOwner x1)]) (mcX11_isOwner  (w := w) (zx := fX11_isOwner x1) rfl) cs_X11_95 ⟨rfl, rfl, by decide, by decide⟩ rfl (Nat.le_of_ble_eq_true rfl) ⟨Nat.zero_le _, Nat.zero_le _⟩ dX11_spite_1 rfl rfl ?_
  refine ap_if_eq (tgt := 37) dX11_spite_4 (by decide) (fun hc1 => ?_) (fun hc1 => ?_)
  · rw [if_pos hc1] at h
    refine ap_sub [0] rfl ?_
    exact AX11_spite_L37   h
  · rw [if_neg hc1] at h
    refine ap_iload_n dX11_spite_7 2 rfl rfl ?_
    refine ap_callS (As := [.int x2]) (st := []) (st1 := [.int (fX11_isOwner x2)]) (mcX11_isOwner  (w := w) (zx := fX11_isOwner x2) rfl) cs_X11_95 ⟨rfl, rfl, by decide, by decide⟩ rfl (Nat.le_of_ble_eq_true rfl) ⟨Nat.zero_le _, Nat.zero_le _⟩ dX11_spite_8 rfl rfl ?_
    refine ap_if_eq (tgt := 37) dX11_spite_11 (by decide) (fun hc2 => ?_) (fun hc2 => ?_)
    · rw [if_pos hc2] at h
      refine ap_sub [0] rfl ?_
      exact AX11_spite_L37   h
    · rw [if_neg hc2] at h
      refine ap_iload_n dX11_spite_14 1 rfl rfl ?_
      refine ap_iload_n dX11_spite_15 2 rfl rfl ?_
      refine ap_icmp_eq (tgt := 37) dX11_spite_16 (by decide) (fun hc3 => ?_) (fun hc3 => ?_)
      · rw [if_pos hc3] at h
        refine ap_sub [0] rfl ?_
        exact AX11_spite_L37   h
      · rw [if_neg hc3] at h
        refine ap_iload_n dX11_spite_19 3 rfl rfl ?_
        refine ap_callS (As := [.int x3]) (st := []) (st1 := [.int (fX11_isHour x3)]) (mcX11_isHour  (w := w) (zx := fX11_isHour x3) rfl) cs_X11_161 ⟨rfl, rfl, by decide, by decide⟩ rfl (Nat.le_of_ble_eq_true rfl) ⟨Nat.zero_le _, Nat.zero_le _⟩ dX11_spite_20 rfl rfl ?_
        refine ap_if_eq (tgt := 37) dX11_spite_23 (by decide) (fun hc4 => ?_) (fun hc4 => ?_)
        · rw [if_pos hc4] at h
          refine ap_sub [0] rfl ?_
          exact AX11_spite_L37   h
        · rw [if_neg hc4] at h
          refine ap_iload dX11_spite_26 4 rfl ?_
          refine ap_iconst (v := 0) dX11_spite_28 (by decide) ?_
          refine ap_bipush (v := 99) dX11_spite_29 (by decide) ?_
          refine ap_callS (As := [.int x4, .int (0 : Int32), .int (99 : Int32)]) (st := []) (st1 := [.int (fX11_within x4 (0 : Int32) (99 : Int32))]) (mcX11_within  (w := w) (zx := fX11_within x4 (0 : Int32) (99 : Int32)) rfl) cs_X11_73 ⟨rfl, rfl, by decide, by decide⟩ rfl (Nat.le_of_ble_eq_true rfl) ⟨Nat.zero_le _, Nat.zero_le _⟩ dX11_spite_31 rfl rfl ?_
          refine ap_if_ne (tgt := 44) dX11_spite_34 (by decide) (fun hc5 => ?_) (fun hc5 => ?_)
          · rw [if_neg hc5] at h
            refine ap_aload_n dX11_spite_44 0 rfl rfl ?_
            refine ap_get (v := .ref (K.1 53)) fl_X11_36 ly_0 rfl rfl dX11_spite_45 ?_
            refine ap_iload_n dX11_spite_48 3 rfl rfl ?_
            obtain ⟨m6, hm6, h⟩ := Option.bind_eq_some_iff.mp h
            refine ap_callV (k := 53) (As := [.int x3]) (st := []) (st1 := []) (mcX3_layAll  hm6) cv_X11_183 rfl ly_53 ⟨rfl, rfl, by decide, by decide⟩ rfl (Nat.le_of_ble_eq_true rfl) ⟨Nat.zero_le _, Nat.zero_le _⟩ dX11_spite_49 rfl rfl ?_
            refine ap_aload_n dX11_spite_52 0 rfl rfl ?_
            refine ap_get (v := .ref (K.1 53)) fl_X11_36 ly_0 rfl rfl dX11_spite_53 ?_
            refine ap_iload_n dX11_spite_56 1 rfl rfl ?_
            refine ap_iload_n dX11_spite_57 2 rfl rfl ?_
            refine ap_iload dX11_spite_58 4 rfl ?_
            obtain ⟨a7, m8, ha7, h⟩ := ob2_iff h
            refine ap_callV (k := 53) (As := [.int x1, .int x2, .int x4]) (st := []) (st1 := [.int a7]) (mcX3_resting  ha7) cv_X11_222 rfl ly_53 ⟨rfl, rfl, by decide, by decide⟩ rfl (Nat.le_of_ble_eq_true rfl) ⟨Nat.zero_le _, Nat.zero_le _⟩ dX11_spite_60 rfl rfl ?_
            obtain ⟨rfl, rfl⟩ := Prod.mk.inj (Option.some.inj h)
            exact ap_iret rfl dX11_spite_63
          · rw [if_pos hc5] at h
            refine ap_sub [0] rfl ?_
            exact AX11_spite_L37   h
theorem mcX11_spite {l : Launch} {K : Kt} {N : Nat}  {w : Mm} {x1 : Int32} {x2 : Int32} {x3 : Int32} {x4 : Int32} {zx : Int32} {zw : Mm} (h : fX11_spite N w x1 x2 x3 x4 = some (zx, zw)) : MC l K yX11_spite cX11_spite 5 (some .int) rmX11_spite w [.ref (K.1 0), .int x1, .int x2, .int x3, .int x4] (some (.int zx)) zw :=
  MC.of (by decide) (Nat.le_of_ble_eq_true rfl) rfl (AX11_spite  h)
def fX11_reading_L24 (w : Mm) : Option (Int32 × Mm) :=
ob2 (some (fX11_bad w (-2 : Int32))) fun a9 m10 =>
some (a9, m10)
set_option maxRecDepth 100000 in
set_option maxHeartbeats 4000000 in
theorem AX11_reading_L24 {l : Launch} {K : Kt}   {w : Mm} {zx : Int32} {zw : Mm} (h : fX11_reading_L24 w = some (zx, zw)) : AW l K cX11_reading RX11 4 (some .int) rmX11_reading 0 0 ap_E (ap_F K (some (.int zx)) zw) w 24 [(0, .ref (K.1 0))] [] := by
  unfold fX11_reading_L24 at h
  refine ap_aload_n dX11_reading_24 0 rfl rfl ?_
  refine ap_bipush (v := -2) dX11_reading_25 (by decide) ?_
  obtain ⟨a9, m10, ha9, h⟩ := ob2_iff h
  refine ap_callV (k := 0) (As := [.int (-2 : Int32)]) (st := []) (st1 := [.int a9]) (mcX11_bad  (Option.some.inj ha9)) cv_X11_77 rfl ly_0 ⟨rfl, rfl, by decide, by decide⟩ rfl (Nat.le_of_ble_eq_true rfl) ⟨Nat.zero_le _, Nat.zero_le _⟩ dX11_reading_27 rfl rfl ?_
  obtain ⟨rfl, rfl⟩ := Prod.mk.inj (Option.some.inj h)
  exact ap_iret rfl dX11_reading_30
def fX11_reading (w : Mm) (x1 : Int32) (x2 : Int32) (x3 : Int32) : Option (Int32 × Mm) :=
if (fX11_isCell x1) = (0 : Int32) then (
fX11_reading_L24 w)
else (
if (fX11_isHour x2) = (0 : Int32) then (
fX11_reading_L24 w)
else (
if (fX11_within x3 (0 : Int32) (23 : Int32)) = (0 : Int32) then (
fX11_reading_L24 w)
else (
if (w.1 1 10) < (6 : Int32) then (
ob2 (fX8_addReading 1 w x1 x2 x3) fun a5 m6 =>
some (a5, m6))
else (
ob2 (some (fX11_full w)) fun a7 m8 =>
some (a7, m8)))))
set_option maxRecDepth 100000 in
set_option maxHeartbeats 4000000 in
theorem AX11_reading {l : Launch} {K : Kt}  {w : Mm} {x1 : Int32} {x2 : Int32} {x3 : Int32} {zx : Int32} {zw : Mm} (h : fX11_reading w x1 x2 x3 = some (zx, zw)) : AW l K cX11_reading RX11 4 (some .int) rmX11_reading 0 0 ap_E (ap_F K (some (.int zx)) zw) w 0 [(0, .ref (K.1 0)), (1, .int x1), (2, .int x2), (3, .int x3)] [] := by
  unfold fX11_reading at h
  refine ap_iload_n dX11_reading_0 1 rfl rfl ?_
  refine ap_callS (As := [.int x1]) (st := []) (st1 := [.int (fX11_isCell x1)]) (mcX11_isCell  (w := w) (zx := fX11_isCell x1) rfl) cs_X11_91 ⟨rfl, rfl, by decide, by decide⟩ rfl (Nat.le_of_ble_eq_true rfl) ⟨Nat.zero_le _, Nat.zero_le _⟩ dX11_reading_1 rfl rfl ?_
  refine ap_if_eq (tgt := 24) dX11_reading_4 (by decide) (fun hc1 => ?_) (fun hc1 => ?_)
  · rw [if_pos hc1] at h
    refine ap_sub [0] rfl ?_
    exact AX11_reading_L24   h
  · rw [if_neg hc1] at h
    refine ap_iload_n dX11_reading_7 2 rfl rfl ?_
    refine ap_callS (As := [.int x2]) (st := []) (st1 := [.int (fX11_isHour x2)]) (mcX11_isHour  (w := w) (zx := fX11_isHour x2) rfl) cs_X11_161 ⟨rfl, rfl, by decide, by decide⟩ rfl (Nat.le_of_ble_eq_true rfl) ⟨Nat.zero_le _, Nat.zero_le _⟩ dX11_reading_8 rfl rfl ?_
    refine ap_if_eq (tgt := 24) dX11_reading_11 (by decide) (fun hc2 => ?_) (fun hc2 => ?_)
    · rw [if_pos hc2] at h
      refine ap_sub [0] rfl ?_
      exact AX11_reading_L24   h
    · rw [if_neg hc2] at h
      refine ap_iload_n dX11_reading_14 3 rfl rfl ?_
      refine ap_iconst (v := 0) dX11_reading_15 (by decide) ?_
      refine ap_bipush (v := 23) dX11_reading_16 (by decide) ?_
      refine ap_callS (As := [.int x3, .int (0 : Int32), .int (23 : Int32)]) (st := []) (st1 := [.int (fX11_within x3 (0 : Int32) (23 : Int32))]) (mcX11_within  (w := w) (zx := fX11_within x3 (0 : Int32) (23 : Int32)) rfl) cs_X11_73 ⟨rfl, rfl, by decide, by decide⟩ rfl (Nat.le_of_ble_eq_true rfl) ⟨Nat.zero_le _, Nat.zero_le _⟩ dX11_reading_18 rfl rfl ?_
      refine ap_if_ne (tgt := 31) dX11_reading_21 (by decide) (fun hc3 => ?_) (fun hc3 => ?_)
      · rw [if_neg hc3] at h
        refine ap_aload_n dX11_reading_31 0 rfl rfl ?_
        refine ap_get (v := .ref (K.1 1)) fl_X11_12 ly_0 rfl rfl dX11_reading_32 ?_
        refine ap_get (v := .int (w.1 1 10)) fl_X11_225 ly_1 rfl rfl dX11_reading_35 ?_
        refine ap_bipush (v := 6) dX11_reading_38 (by decide) ?_
        refine ap_icmp_lt (tgt := 48) dX11_reading_40 (by decide) (fun hc4 => ?_) (fun hc4 => ?_)
        · rw [if_pos hc4] at h
          refine ap_aload_n dX11_reading_48 0 rfl rfl ?_
          refine ap_get (v := .ref (K.1 1)) fl_X11_12 ly_0 rfl rfl dX11_reading_49 ?_
          refine ap_iload_n dX11_reading_52 1 rfl rfl ?_
          refine ap_iload_n dX11_reading_53 2 rfl rfl ?_
          refine ap_iload_n dX11_reading_54 3 rfl rfl ?_
          obtain ⟨a5, m6, ha5, h⟩ := ob2_iff h
          refine ap_callV (k := 1) (As := [.int x1, .int x2, .int x3]) (st := []) (st1 := [.int a5]) (mcX8_addReading isV_1 ha5) cv_X11_228 rfl ly_1 ⟨rfl, rfl, by decide, by decide⟩ rfl (Nat.le_of_ble_eq_true rfl) ⟨Nat.zero_le _, Nat.zero_le _⟩ dX11_reading_55 rfl rfl ?_
          obtain ⟨rfl, rfl⟩ := Prod.mk.inj (Option.some.inj h)
          exact ap_iret rfl dX11_reading_58
        · rw [if_neg hc4] at h
          refine ap_aload_n dX11_reading_43 0 rfl rfl ?_
          obtain ⟨a7, m8, ha7, h⟩ := ob2_iff h
          refine ap_callV (k := 0) (As := []) (st := []) (st1 := [.int a7]) (mcX11_full  (Option.some.inj ha7)) cv_X11_98 rfl ly_0 ⟨rfl, rfl, by decide, by decide⟩ rfl (Nat.le_of_ble_eq_true rfl) ⟨Nat.zero_le _, Nat.zero_le _⟩ dX11_reading_44 rfl rfl ?_
          obtain ⟨rfl, rfl⟩ := Prod.mk.inj (Option.some.inj h)
          exact ap_iret rfl dX11_reading_47
      · rw [if_pos hc3] at h
        refine ap_sub [0] rfl ?_
        exact AX11_reading_L24   h
theorem mcX11_reading {l : Launch} {K : Kt}  {w : Mm} {x1 : Int32} {x2 : Int32} {x3 : Int32} {zx : Int32} {zw : Mm} (h : fX11_reading w x1 x2 x3 = some (zx, zw)) : MC l K yX11_reading cX11_reading 4 (some .int) rmX11_reading w [.ref (K.1 0), .int x1, .int x2, .int x3] (some (.int zx)) zw :=
  MC.of (by decide) (Nat.le_of_ble_eq_true rfl) rfl (AX11_reading  h)
def fX11_burnt (w : Mm) : (Int32 × Mm) :=
((w.1 1 10), (sI w 1 10 (0 : Int32)))
set_option maxRecDepth 100000 in
set_option maxHeartbeats 4000000 in
theorem AX11_burnt {l : Launch} {K : Kt}  {w : Mm} {zx : Int32} {zw : Mm} (h : fX11_burnt w = (zx, zw)) : AW l K cX11_burnt RX11 2 (some .int) rmX11_burnt 0 0 ap_E (ap_F K (some (.int zx)) zw) w 0 [(0, .ref (K.1 0))] [] := by
  unfold fX11_burnt at h
  refine ap_aload_n dX11_burnt_0 0 rfl rfl ?_
  refine ap_get (v := .ref (K.1 1)) fl_X11_12 ly_0 rfl rfl dX11_burnt_1 ?_
  refine ap_get (v := .int (w.1 1 10)) fl_X11_225 ly_1 rfl rfl dX11_burnt_4 ?_
  refine ap_istore_n (i := 1) (lv' := [(1, .int (w.1 1 10)), (0, .ref (K.1 0))]) dX11_burnt_7 rfl (by decide) rfl ?_
  refine ap_aload_n dX11_burnt_8 1 rfl rfl ?_
  refine ap_get (v := .ref (K.1 1)) fl_X11_12 ly_0 rfl rfl dX11_burnt_9 ?_
  refine ap_iconst (v := 0) dX11_burnt_12 (by decide) ?_
  refine ap_putI (w1 := sI w 1 10 (0 : Int32)) fp_X11_225 ly_1 rfl rfl dX11_burnt_13 ?_
  refine ap_iload_n dX11_burnt_16 0 rfl rfl ?_
  obtain ⟨rfl, rfl⟩ := Prod.mk.inj h
  exact ap_iret rfl dX11_burnt_17
theorem mcX11_burnt {l : Launch} {K : Kt}  {w : Mm} {zx : Int32} {zw : Mm} (h : fX11_burnt w = (zx, zw)) : MC l K yX11_burnt cX11_burnt 2 (some .int) rmX11_burnt w [.ref (K.1 0)] (some (.int zx)) zw :=
  MC.of (by decide) (Nat.le_of_ble_eq_true rfl) rfl (AX11_burnt  h)
def fX11_burn (N : Nat) (w : Mm) (x1 : Int32) : Option (Int32 × Mm) :=
if (fX11_within x1 (0 : Int32) (1 : Int32)) = (0 : Int32) then (
ob2 (some (fX11_bad w (-10 : Int32))) fun a5 m6 =>
some (a5, m6))
else (
Option.bind (fX6_layFitting N w) fun m2 =>
if x1 = (0 : Int32) then (
some ((m2.1 68 4), m2))
else (
Option.bind (fX6_inAll N m2) fun a4 =>
some (a4, m2)))
set_option maxRecDepth 100000 in
set_option maxHeartbeats 4000000 in
theorem AX11_burn {l : Launch} {K : Kt} {N : Nat}  {w : Mm} {x1 : Int32} {zx : Int32} {zw : Mm} (h : fX11_burn N w x1 = some (zx, zw)) : AW l K cX11_burn RX11 2 (some .int) rmX11_burn 0 0 ap_E (ap_F K (some (.int zx)) zw) w 0 [(0, .ref (K.1 0)), (1, .int x1)] [] := by
  unfold fX11_burn at h
  refine ap_iload_n dX11_burn_0 1 rfl rfl ?_
  refine ap_iconst (v := 0) dX11_burn_1 (by decide) ?_
  refine ap_iconst (v := 1) dX11_burn_2 (by decide) ?_
  refine ap_callS (As := [.int x1, .int (0 : Int32), .int (1 : Int32)]) (st := []) (st1 := [.int (fX11_within x1 (0 : Int32) (1 : Int32))]) (mcX11_within  (w := w) (zx := fX11_within x1 (0 : Int32) (1 : Int32)) rfl) cs_X11_73 ⟨rfl, rfl, by decide, by decide⟩ rfl (Nat.le_of_ble_eq_true rfl) ⟨Nat.zero_le _, Nat.zero_le _⟩ dX11_burn_3 rfl rfl ?_
  refine ap_if_ne (tgt := 16) dX11_burn_6 (by decide) (fun hc1 => ?_) (fun hc1 => ?_)
  · rw [if_neg hc1] at h
    refine ap_aload_n dX11_burn_16 0 rfl rfl ?_
    refine ap_get (v := .ref (K.1 68)) fl_X11_45 ly_0 rfl rfl dX11_burn_17 ?_
    obtain ⟨m2, hm2, h⟩ := Option.bind_eq_some_iff.mp h
    refine ap_callV (k := 68) (As := []) (st := []) (st1 := []) (mcX6_layFitting  hm2) cv_X11_231 rfl ly_68 ⟨rfl, rfl, by decide, by decide⟩ rfl (Nat.le_of_ble_eq_true rfl) ⟨Nat.zero_le _, Nat.zero_le _⟩ dX11_burn_20 rfl rfl ?_
    refine ap_iload_n dX11_burn_23 1 rfl rfl ?_
    refine ap_if_ne (tgt := 37) dX11_burn_24 (by decide) (fun hc3 => ?_) (fun hc3 => ?_)
    · rw [if_neg hc3] at h
      refine ap_aload_n dX11_burn_37 0 rfl rfl ?_
      refine ap_get (v := .ref (K.1 68)) fl_X11_45 ly_0 rfl rfl dX11_burn_38 ?_
      obtain ⟨a4, ha4, h⟩ := Option.bind_eq_some_iff.mp h
      refine ap_callV (k := 68) (As := []) (st := []) (st1 := [.int a4]) (mcX6_inAll  (w := m2) ha4) cv_X11_237 rfl ly_68 ⟨rfl, rfl, by decide, by decide⟩ rfl (Nat.le_of_ble_eq_true rfl) ⟨Nat.zero_le _, Nat.zero_le _⟩ dX11_burn_41 rfl rfl ?_
      obtain ⟨rfl, rfl⟩ := Prod.mk.inj (Option.some.inj h)
      exact ap_iret rfl dX11_burn_44
    · rw [if_pos hc3] at h
      refine ap_aload_n dX11_burn_27 0 rfl rfl ?_
      refine ap_get (v := .ref (K.1 68)) fl_X11_45 ly_0 rfl rfl dX11_burn_28 ?_
      refine ap_get (v := .int (m2.1 68 4)) fl_X11_234 ly_68 rfl rfl dX11_burn_31 ?_
      refine ap_goto (tgt := 44) dX11_burn_34 (by decide) ?_
      obtain ⟨rfl, rfl⟩ := Prod.mk.inj (Option.some.inj h)
      exact ap_iret rfl dX11_burn_44
  · rw [if_pos hc1] at h
    refine ap_aload_n dX11_burn_9 0 rfl rfl ?_
    refine ap_bipush (v := -10) dX11_burn_10 (by decide) ?_
    obtain ⟨a5, m6, ha5, h⟩ := ob2_iff h
    refine ap_callV (k := 0) (As := [.int (-10 : Int32)]) (st := []) (st1 := [.int a5]) (mcX11_bad  (Option.some.inj ha5)) cv_X11_77 rfl ly_0 ⟨rfl, rfl, by decide, by decide⟩ rfl (Nat.le_of_ble_eq_true rfl) ⟨Nat.zero_le _, Nat.zero_le _⟩ dX11_burn_12 rfl rfl ?_
    obtain ⟨rfl, rfl⟩ := Prod.mk.inj (Option.some.inj h)
    exact ap_iret rfl dX11_burn_15
theorem mcX11_burn {l : Launch} {K : Kt} {N : Nat}  {w : Mm} {x1 : Int32} {zx : Int32} {zw : Mm} (h : fX11_burn N w x1 = some (zx, zw)) : MC l K yX11_burn cX11_burn 2 (some .int) rmX11_burn w [.ref (K.1 0), .int x1] (some (.int zx)) zw :=
  MC.of (by decide) (Nat.le_of_ble_eq_true rfl) rfl (AX11_burn  h)

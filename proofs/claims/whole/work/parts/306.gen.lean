def fX11_measure (N : Nat) (w : Mm) (x1 : Int32) : Option (Int32 × Mm) :=
if (fX11_isHour x1) = (0 : Int32) then (
ob2 (some (fX11_bad w (-2 : Int32))) fun a6 m7 =>
some (a6, m7))
else (
Option.bind (fX3_layAll N w x1) fun m2 =>
Option.bind (fX6_layFitting N m2) fun m3 =>
ob2 (fX6_bestCell N m3) fun a4 m5 =>
some (a4, m5))
set_option maxRecDepth 100000 in
set_option maxHeartbeats 4000000 in
theorem AX11_measure {l : Launch} {K : Kt} {N : Nat}  {w : Mm} {x1 : Int32} {zx : Int32} {zw : Mm} (h : fX11_measure N w x1 = some (zx, zw)) : AW l K cX11_measure RX11 2 (some .int) rmX11_measure 0 0 ap_E (ap_F K (some (.int zx)) zw) w 0 [(0, .ref (K.1 0)), (1, .int x1)] [] := by
  unfold fX11_measure at h
  refine ap_iload_n dX11_measure_0 1 rfl rfl ?_
  refine ap_callS (As := [.int x1]) (st := []) (st1 := [.int (fX11_isHour x1)]) (mcX11_isHour  (w := w) (zx := fX11_isHour x1) rfl) cs_X11_161 ⟨rfl, rfl, by decide, by decide⟩ rfl (Nat.le_of_ble_eq_true rfl) ⟨Nat.zero_le _, Nat.zero_le _⟩ dX11_measure_1 rfl rfl ?_
  refine ap_if_ne (tgt := 14) dX11_measure_4 (by decide) (fun hc1 => ?_) (fun hc1 => ?_)
  · rw [if_neg hc1] at h
    refine ap_aload_n dX11_measure_14 0 rfl rfl ?_
    refine ap_get (v := .ref (K.1 53)) fl_X11_36 ly_0 rfl rfl dX11_measure_15 ?_
    refine ap_iload_n dX11_measure_18 1 rfl rfl ?_
    obtain ⟨m2, hm2, h⟩ := Option.bind_eq_some_iff.mp h
    refine ap_callV (k := 53) (As := [.int x1]) (st := []) (st1 := []) (mcX3_layAll  hm2) cv_X11_183 rfl ly_53 ⟨rfl, rfl, by decide, by decide⟩ rfl (Nat.le_of_ble_eq_true rfl) ⟨Nat.zero_le _, Nat.zero_le _⟩ dX11_measure_19 rfl rfl ?_
    refine ap_aload_n dX11_measure_22 0 rfl rfl ?_
    refine ap_get (v := .ref (K.1 68)) fl_X11_45 ly_0 rfl rfl dX11_measure_23 ?_
    obtain ⟨m3, hm3, h⟩ := Option.bind_eq_some_iff.mp h
    refine ap_callV (k := 68) (As := []) (st := []) (st1 := []) (mcX6_layFitting  hm3) cv_X11_231 rfl ly_68 ⟨rfl, rfl, by decide, by decide⟩ rfl (Nat.le_of_ble_eq_true rfl) ⟨Nat.zero_le _, Nat.zero_le _⟩ dX11_measure_26 rfl rfl ?_
    refine ap_aload_n dX11_measure_29 0 rfl rfl ?_
    refine ap_get (v := .ref (K.1 68)) fl_X11_45 ly_0 rfl rfl dX11_measure_30 ?_
    obtain ⟨a4, m5, ha4, h⟩ := ob2_iff h
    refine ap_callV (k := 68) (As := []) (st := []) (st1 := [.int a4]) (mcX6_bestCell  ha4) cv_X11_240 rfl ly_68 ⟨rfl, rfl, by decide, by decide⟩ rfl (Nat.le_of_ble_eq_true rfl) ⟨Nat.zero_le _, Nat.zero_le _⟩ dX11_measure_33 rfl rfl ?_
    obtain ⟨rfl, rfl⟩ := Prod.mk.inj (Option.some.inj h)
    exact ap_iret rfl dX11_measure_36
  · rw [if_pos hc1] at h
    refine ap_aload_n dX11_measure_7 0 rfl rfl ?_
    refine ap_bipush (v := -2) dX11_measure_8 (by decide) ?_
    obtain ⟨a6, m7, ha6, h⟩ := ob2_iff h
    refine ap_callV (k := 0) (As := [.int (-2 : Int32)]) (st := []) (st1 := [.int a6]) (mcX11_bad  (Option.some.inj ha6)) cv_X11_77 rfl ly_0 ⟨rfl, rfl, by decide, by decide⟩ rfl (Nat.le_of_ble_eq_true rfl) ⟨Nat.zero_le _, Nat.zero_le _⟩ dX11_measure_10 rfl rfl ?_
    obtain ⟨rfl, rfl⟩ := Prod.mk.inj (Option.some.inj h)
    exact ap_iret rfl dX11_measure_13
theorem mcX11_measure {l : Launch} {K : Kt} {N : Nat}  {w : Mm} {x1 : Int32} {zx : Int32} {zw : Mm} (h : fX11_measure N w x1 = some (zx, zw)) : MC l K yX11_measure cX11_measure 2 (some .int) rmX11_measure w [.ref (K.1 0), .int x1] (some (.int zx)) zw :=
  MC.of (by decide) (Nat.le_of_ble_eq_true rfl) rfl (AX11_measure  h)
def fX11_divisor_L9 (N : Nat) : Nat → Int64 → Int64 → Int32 → Option Int64
  | 0, _, _, _ => none
  | n0 + 1, x4, x6, x8 => if (100 : Int32) ≤ x8 then (
some x4)
else (
if (lg_cmp x6 (0 : Int64)) = (0 : Int32) then (
some x4)
else (
Option.bind (rmJ x4 x6) fun a3 =>
(fX11_divisor_L9 N n0) x6 a3 (x8 + 1)))
set_option maxRecDepth 100000 in
set_option maxHeartbeats 4000000 in
theorem AX11_divisor_L9 {l : Launch} {K : Kt} {N : Nat} {w : Mm}   : ∀ (n0 : Nat) (x4 : Int64) (x6 : Int64) (x8 : Int32) {zx : Int64}, fX11_divisor_L9 N n0 x4 x6 x8 = some zx → AW l K cX11_divisor RX11 11 (some .long) rmX11_divisor 0 0 ap_E (ap_F K (some (.long zx)) w) w 9 [(4, .long x4), (6, .long x6), (8, .int x8)] [] := by
  intro n0
  induction n0 with
  | zero =>
    intro x4 x6 x8 zx h
    cases h
  | succ n0 ih =>
    intro x4 x6 x8 zx h
    rw [fX11_divisor_L9] at h
    refine ap_iload dX11_divisor_9 2 rfl ?_
    refine ap_bipush (v := 100) dX11_divisor_11 (by decide) ?_
    refine ap_icmp_ge (tgt := 44) dX11_divisor_13 (by decide) (fun hc1 => ?_) (fun hc1 => ?_)
    · rw [if_pos hc1] at h
      refine ap_lload dX11_divisor_44 0 rfl ?_
      obtain rfl := Option.some.inj h
      exact ap_lret rfl dX11_divisor_46
    · rw [if_neg hc1] at h
      refine ap_lload dX11_divisor_16 1 rfl ?_
      refine ap_lconst (v := 0) dX11_divisor_18 (by decide) ?_
      refine ap_lcmp dX11_divisor_19 ?_
      refine ap_if_eq (tgt := 44) dX11_divisor_20 (by decide) (fun hc2 => ?_) (fun hc2 => ?_)
      · rw [if_pos hc2] at h
        refine ap_lload dX11_divisor_44 0 rfl ?_
        obtain rfl := Option.some.inj h
        exact ap_lret rfl dX11_divisor_46
      · rw [if_neg hc2] at h
        refine ap_lload dX11_divisor_23 0 rfl ?_
        refine ap_lload dX11_divisor_25 1 rfl ?_
        obtain ⟨a3, ha3, h⟩ := Option.bind_eq_some_iff.mp h
        refine ap_lremO ha3 dX11_divisor_27 ?_
        refine ap_lstore (i := 9) (lv' := [(9, .long a3), (4, .long x4), (6, .long x6), (8, .int x8)]) dX11_divisor_28 (by decide) rfl ?_
        refine ap_lload dX11_divisor_30 2 rfl ?_
        refine ap_lstore (i := 4) (lv' := [(4, .long x6), (9, .long a3), (6, .long x6), (8, .int x8)]) dX11_divisor_32 (by decide) rfl ?_
        refine ap_lload dX11_divisor_34 1 rfl ?_
        refine ap_lstore (i := 6) (lv' := [(6, .long a3), (4, .long x6), (9, .long a3), (8, .int x8)]) dX11_divisor_36 (by decide) rfl ?_
        refine ap_iinc (v := x8 + 1) (lv' := [(8, .int (x8 + 1)), (6, .long a3), (4, .long x6), (9, .long a3)]) dX11_divisor_38 3 rfl rfl (by decide) rfl ?_
        refine ap_goto (tgt := 9) dX11_divisor_41 (by decide) ?_
        refine ap_sub [2, 1, 0] rfl ?_
        exact ih _ _ _ h
def fX11_divisor (N : Nat) (x0 : Int64) (x2 : Int64) : Option Int64 :=
fX11_divisor_L9 N N x2 x0 (0 : Int32)
set_option maxRecDepth 100000 in
set_option maxHeartbeats 4000000 in
theorem AX11_divisor {l : Launch} {K : Kt} {N : Nat} {w : Mm}  {x0 : Int64} {x2 : Int64} {zx : Int64} (h : fX11_divisor N x0 x2 = some zx) : AW l K cX11_divisor RX11 11 (some .long) rmX11_divisor 0 0 ap_E (ap_F K (some (.long zx)) w) w 0 [(0, .long x0), (2, .long x2)] [] := by
  unfold fX11_divisor at h
  refine ap_lload_n dX11_divisor_0 1 rfl rfl ?_
  refine ap_lstore (i := 4) (lv' := [(4, .long x2), (0, .long x0), (2, .long x2)]) dX11_divisor_1 (by decide) rfl ?_
  refine ap_lload_n dX11_divisor_3 1 rfl rfl ?_
  refine ap_lstore (i := 6) (lv' := [(6, .long x0), (4, .long x2), (0, .long x0), (2, .long x2)]) dX11_divisor_4 (by decide) rfl ?_
  refine ap_iconst (v := 0) dX11_divisor_6 (by decide) ?_
  refine ap_istore (i := 8) (lv' := [(8, .int (0 : Int32)), (6, .long x0), (4, .long x2), (0, .long x0), (2, .long x2)]) dX11_divisor_7 (by decide) rfl ?_
  refine ap_sub [2, 1, 0] rfl ?_
  exact AX11_divisor_L9  N _ _ _ h
theorem mcX11_divisor {l : Launch} {K : Kt} {N : Nat} {w : Mm}  {x0 : Int64} {x2 : Int64} {zx : Int64} (h : fX11_divisor N x0 x2 = some zx) : MC l K yX11_divisor cX11_divisor 11 (some .long) rmX11_divisor w [.long x0, .long x2] (some (.long zx)) w :=
  MC.of (by decide) (Nat.le_of_ble_eq_true rfl) rfl (AX11_divisor  h)
def fX11_keepFraction_L42 (N : Nat) (w : Mm) (t0 : Int64) : Option Mm :=
Option.bind (some (sJ w 0 8 t0)) fun m7 =>
some m7
set_option maxRecDepth 100000 in
set_option maxHeartbeats 4000000 in
theorem AX11_keepFraction_L42 {l : Launch} {K : Kt} {N : Nat}   {w : Mm} {t0 : Int64} {zw : Mm} (h : fX11_keepFraction_L42 N w t0 = some zw) : AW l K cX11_keepFraction RX11 7 none rmX11_keepFraction 0 0 ap_E (ap_F K none zw) w 42 [] [.long t0, .ref (K.1 0)] := by
  unfold fX11_keepFraction_L42 at h
  obtain ⟨m7, hm7, h⟩ := Option.bind_eq_some_iff.mp h
  refine ap_putJ fp_X11_60 ly_0 rfl (Option.some.inj hm7) dX11_keepFraction_42 ?_
  obtain rfl := Option.some.inj h
  exact ap_vret rfl dX11_keepFraction_45
def fX11_keepFraction_L23 (N : Nat) (w : Mm) (x3 : Int64) (x5 : Int64) (t0 : Int64) : Option Mm :=
Option.bind (some (sJ w 0 7 t0)) fun m4 =>
if (lg_cmp x5 (0 : Int64)) ≤ (0 : Int32) then (
fX11_keepFraction_L42 N m4 x3)
else (
Option.bind (dvJ x3 x5) fun a6 =>
fX11_keepFraction_L42 N m4 a6)
set_option maxRecDepth 100000 in
set_option maxHeartbeats 4000000 in
theorem AX11_keepFraction_L23 {l : Launch} {K : Kt} {N : Nat}   {w : Mm} {x3 : Int64} {x5 : Int64} {t0 : Int64} {zw : Mm} (h : fX11_keepFraction_L23 N w x3 x5 t0 = some zw) : AW l K cX11_keepFraction RX11 7 none rmX11_keepFraction 0 0 ap_E (ap_F K none zw) w 23 [(0, .ref (K.1 0)), (3, .long x3), (5, .long x5)] [.long t0, .ref (K.1 0)] := by
  unfold fX11_keepFraction_L23 at h
  obtain ⟨m4, hm4, h⟩ := Option.bind_eq_some_iff.mp h
  refine ap_putJ fp_X11_56 ly_0 rfl (Option.some.inj hm4) dX11_keepFraction_23 ?_
  refine ap_aload_n dX11_keepFraction_26 0 rfl rfl ?_
  refine ap_lload dX11_keepFraction_27 2 rfl ?_
  refine ap_lconst (v := 0) dX11_keepFraction_29 (by decide) ?_
  refine ap_lcmp dX11_keepFraction_30 ?_
  refine ap_if_le (tgt := 41) dX11_keepFraction_31 (by decide) (fun hc5 => ?_) (fun hc5 => ?_)
  · rw [if_pos hc5] at h
    refine ap_lload_n dX11_keepFraction_41 1 rfl rfl ?_
    refine ap_sub [] rfl ?_
    exact AX11_keepFraction_L42   h
  · rw [if_neg hc5] at h
    refine ap_lload_n dX11_keepFraction_34 1 rfl rfl ?_
    refine ap_lload dX11_keepFraction_35 2 rfl ?_
    obtain ⟨a6, ha6, h⟩ := Option.bind_eq_some_iff.mp h
    refine ap_ldivO ha6 dX11_keepFraction_37 ?_
    refine ap_goto (tgt := 42) dX11_keepFraction_38 (by decide) ?_
    refine ap_sub [] rfl ?_
    exact AX11_keepFraction_L42   h
def fX11_keepFraction (N : Nat) (w : Mm) (x1 : Int64) (x3 : Int64) : Option Mm :=
Option.bind (fX11_divisor N x1 x3) fun a1 =>
if (lg_cmp a1 (0 : Int64)) ≤ (0 : Int32) then (
fX11_keepFraction_L23 N w x3 a1 x1)
else (
Option.bind (dvJ x1 a1) fun a3 =>
fX11_keepFraction_L23 N w x3 a1 a3)
set_option maxRecDepth 100000 in
set_option maxHeartbeats 4000000 in
theorem AX11_keepFraction {l : Launch} {K : Kt} {N : Nat}  {w : Mm} {x1 : Int64} {x3 : Int64} {zw : Mm} (h : fX11_keepFraction N w x1 x3 = some zw) : AW l K cX11_keepFraction RX11 7 none rmX11_keepFraction 0 0 ap_E (ap_F K none zw) w 0 [(0, .ref (K.1 0)), (1, .long x1), (3, .long x3)] [] := by
  unfold fX11_keepFraction at h
  refine ap_lload_n dX11_keepFraction_0 1 rfl rfl ?_
  refine ap_lload_n dX11_keepFraction_1 2 rfl rfl ?_
  obtain ⟨a1, ha1, h⟩ := Option.bind_eq_some_iff.mp h
  refine ap_callS (As := [.long x1, .long x3]) (st := []) (st1 := [.long a1]) (mcX11_divisor  (w := w) ha1) cs_X11_270 ⟨rfl, rfl, by decide, by decide⟩ rfl (Nat.le_of_ble_eq_true rfl) ⟨Nat.zero_le _, Nat.zero_le _⟩ dX11_keepFraction_2 rfl rfl ?_
  refine ap_lstore (i := 5) (lv' := [(5, .long a1), (0, .ref (K.1 0)), (1, .long x1), (3, .long x3)]) dX11_keepFraction_5 (by decide) rfl ?_
  refine ap_aload_n dX11_keepFraction_7 1 rfl rfl ?_
  refine ap_lload dX11_keepFraction_8 0 rfl ?_
  refine ap_lconst (v := 0) dX11_keepFraction_10 (by decide) ?_
  refine ap_lcmp dX11_keepFraction_11 ?_
  refine ap_if_le (tgt := 22) dX11_keepFraction_12 (by decide) (fun hc2 => ?_) (fun hc2 => ?_)
  · rw [if_pos hc2] at h
    refine ap_lload_n dX11_keepFraction_22 2 rfl rfl ?_
    refine ap_sub [1, 3, 0] rfl ?_
    exact AX11_keepFraction_L23   h
  · rw [if_neg hc2] at h
    refine ap_lload_n dX11_keepFraction_15 2 rfl rfl ?_
    refine ap_lload dX11_keepFraction_16 0 rfl ?_
    obtain ⟨a3, ha3, h⟩ := Option.bind_eq_some_iff.mp h
    refine ap_ldivO ha3 dX11_keepFraction_18 ?_
    refine ap_goto (tgt := 23) dX11_keepFraction_19 (by decide) ?_
    refine ap_sub [1, 3, 0] rfl ?_
    exact AX11_keepFraction_L23   h
theorem mcX11_keepFraction {l : Launch} {K : Kt} {N : Nat}  {w : Mm} {x1 : Int64} {x3 : Int64} {zw : Mm} (h : fX11_keepFraction N w x1 x3 = some zw) : MC l K yX11_keepFraction cX11_keepFraction 7 none rmX11_keepFraction w [.ref (K.1 0), .long x1, .long x3] none zw :=
  MC.of (by decide) (Nat.le_of_ble_eq_true rfl) rfl (AX11_keepFraction  h)
def fX11_draught_L35 (N : Nat) (w : Mm) : Option (Int32 × Mm) :=
ob2 (some (fX11_bad w (-2 : Int32))) fun a10 m11 =>
some (a10, m11)
set_option maxRecDepth 100000 in
set_option maxHeartbeats 4000000 in
theorem AX11_draught_L35 {l : Launch} {K : Kt} {N : Nat}   {w : Mm} {zx : Int32} {zw : Mm} (h : fX11_draught_L35 N w = some (zx, zw)) : AW l K cX11_draught RX11 12 (some .int) rmX11_draught 0 0 ap_E (ap_F K (some (.int zx)) zw) w 35 [(0, .ref (K.1 0))] [] := by
  unfold fX11_draught_L35 at h
  refine ap_aload_n dX11_draught_35 0 rfl rfl ?_
  refine ap_bipush (v := -2) dX11_draught_36 (by decide) ?_
  obtain ⟨a10, m11, ha10, h⟩ := ob2_iff h
  refine ap_callV (k := 0) (As := [.int (-2 : Int32)]) (st := []) (st1 := [.int a10]) (mcX11_bad  (Option.some.inj ha10)) cv_X11_77 rfl ly_0 ⟨rfl, rfl, by decide, by decide⟩ rfl (Nat.le_of_ble_eq_true rfl) ⟨Nat.zero_le _, Nat.zero_le _⟩ dX11_draught_38 rfl rfl ?_
  obtain ⟨rfl, rfl⟩ := Prod.mk.inj (Option.some.inj h)
  exact ap_iret rfl dX11_draught_41
def fX11_draught_L90 (N : Nat) : Nat → Mm → Int32 → Int64 → Int64 → Int32 → Int32 → Option (Int32 × Mm)
  | 0, _, _, _, _, _, _ => none
  | n0 + 1, w, x4, x6, x8, x10, x11 => if x10 ≤ x11 then (
Option.bind (fX11_keepFraction N w (x6 - x8) x6) fun m9 =>
some ((1 : Int32), m9))
else (
(fX11_draught_L90 N n0) w x4 (x6 * (10 : Int64)) (x8 * x4.toInt64) x10 (x11 + 1))
set_option maxRecDepth 100000 in
set_option maxHeartbeats 4000000 in
theorem AX11_draught_L90 {l : Launch} {K : Kt} {N : Nat}   : ∀ (n0 : Nat) (w : Mm) (x4 : Int32) (x6 : Int64) (x8 : Int64) (x10 : Int32) (x11 : Int32) {zx : Int32} {zw : Mm}, fX11_draught_L90 N n0 w x4 x6 x8 x10 x11 = some (zx, zw) → AW l K cX11_draught RX11 12 (some .int) rmX11_draught 0 0 ap_E (ap_F K (some (.int zx)) zw) w 90 [(0, .ref (K.1 0)), (4, .int x4), (6, .long x6), (8, .long x8), (10, .int x10), (11, .int x11)] [] := by
  intro n0
  induction n0 with
  | zero =>
    intro w x4 x6 x8 x10 x11 zx zw h
    cases h
  | succ n0 ih =>
    intro w x4 x6 x8 x10 x11 zx zw h
    rw [fX11_draught_L90] at h
    refine ap_iload dX11_draught_90 5 rfl ?_
    refine ap_iload dX11_draught_92 4 rfl ?_
    refine ap_icmp_ge (tgt := 119) dX11_draught_94 (by decide) (fun hc8 => ?_) (fun hc8 => ?_)
    · rw [if_pos hc8] at h
      refine ap_aload_n dX11_draught_119 0 rfl rfl ?_
      refine ap_lload dX11_draught_120 2 rfl ?_
      refine ap_lload dX11_draught_122 3 rfl ?_
      refine ap_lsub dX11_draught_124 ?_
      refine ap_lload dX11_draught_125 2 rfl ?_
      obtain ⟨m9, hm9, h⟩ := Option.bind_eq_some_iff.mp h
      refine ap_callV (k := 0) (As := [.long (x6 - x8), .long x6]) (st := []) (st1 := []) (mcX11_keepFraction  hm9) cv_X11_243 rfl ly_0 ⟨rfl, rfl, by decide, by decide⟩ rfl (Nat.le_of_ble_eq_true rfl) ⟨Nat.zero_le _, Nat.zero_le _⟩ dX11_draught_127 rfl rfl ?_
      refine ap_iconst (v := 1) dX11_draught_130 (by decide) ?_
      obtain ⟨rfl, rfl⟩ := Prod.mk.inj (Option.some.inj h)
      exact ap_iret rfl dX11_draught_131
    · rw [if_neg hc8] at h
      refine ap_lload dX11_draught_97 2 rfl ?_
      refine ap_ldc2 (v := 10) wd_852 dX11_draught_99 ?_
      refine ap_lmul dX11_draught_102 ?_
      refine ap_lstore (i := 6) (lv' := [(6, .long (x6 * (10 : Int64))), (0, .ref (K.1 0)), (4, .int x4), (8, .long x8), (10, .int x10), (11, .int x11)]) dX11_draught_103 (by decide) rfl ?_
      refine ap_lload dX11_draught_105 3 rfl ?_
      refine ap_iload dX11_draught_107 2 rfl ?_
      refine ap_i2l (v := x4.toInt64) dX11_draught_109 rfl ?_
      refine ap_lmul dX11_draught_110 ?_
      refine ap_lstore (i := 8) (lv' := [(8, .long (x8 * x4.toInt64)), (6, .long (x6 * (10 : Int64))), (0, .ref (K.1 0)), (4, .int x4), (10, .int x10), (11, .int x11)]) dX11_draught_111 (by decide) rfl ?_
      refine ap_iinc (v := x11 + 1) (lv' := [(11, .int (x11 + 1)), (8, .long (x8 * x4.toInt64)), (6, .long (x6 * (10 : Int64))), (0, .ref (K.1 0)), (4, .int x4), (10, .int x10)]) dX11_draught_113 5 rfl rfl (by decide) rfl ?_
      refine ap_goto (tgt := 90) dX11_draught_116 (by decide) ?_
      refine ap_sub [3, 4, 2, 1, 5, 0] rfl ?_
      exact ih _ _ _ _ _ _ h
def fX11_draught (N : Nat) (w : Mm) (x1 : Int32) (x2 : Int32) (x3 : Int32) (x4 : Int32) : Option (Int32 × Mm) :=
if (fX11_isCell x1) = (0 : Int32) then (
fX11_draught_L35 N w)
else (
if (fX11_isHour x2) = (0 : Int32) then (
fX11_draught_L35 N w)
else (
if (fX11_within x3 (0 : Int32) (23 : Int32)) = (0 : Int32) then (
fX11_draught_L35 N w)
else (
if (fX11_within x4 (0 : Int32) (10 : Int32)) = (0 : Int32) then (
fX11_draught_L35 N w)
else (
if x3 = (0 : Int32) then (
Option.bind (fX11_keepFraction N w (1 : Int64) (1 : Int64)) fun m7 =>
some ((1 : Int32), m7))
else (
Option.bind (fX3_reaching N w x1 x2 x3) fun a6 =>
fX11_draught_L90 N N w x4 (1 : Int64) (1 : Int64) (fJ6_bitCount_0f7a4 (a6 &&& (w.1 1 2))) (0 : Int32))))))
set_option maxRecDepth 100000 in
set_option maxHeartbeats 4000000 in
theorem AX11_draught {l : Launch} {K : Kt} {N : Nat}  {w : Mm} {x1 : Int32} {x2 : Int32} {x3 : Int32} {x4 : Int32} {zx : Int32} {zw : Mm} (h : fX11_draught N w x1 x2 x3 x4 = some (zx, zw)) : AW l K cX11_draught RX11 12 (some .int) rmX11_draught 0 0 ap_E (ap_F K (some (.int zx)) zw) w 0 [(0, .ref (K.1 0)), (1, .int x1), (2, .int x2), (3, .int x3), (4, .int x4)] [] := by
  unfold fX11_draught at h
  refine ap_iload_n dX11_draught_0 1 rfl rfl ?_
  refine ap_callS (As := [.int x1]) (st := []) (st1 := [.int (fX11_isCell x1)]) (mcX11_isCell  (w := w) (zx := fX11_isCell x1) rfl) cs_X11_91 ⟨rfl, rfl, by decide, by decide⟩ rfl (Nat.le_of_ble_eq_true rfl) ⟨Nat.zero_le _, Nat.zero_le _⟩ dX11_draught_1 rfl rfl ?_
  refine ap_if_eq (tgt := 35) dX11_draught_4 (by decide) (fun hc1 => ?_) (fun hc1 => ?_)
  · rw [if_pos hc1] at h
    refine ap_sub [0] rfl ?_
    exact AX11_draught_L35   h
  · rw [if_neg hc1] at h
    refine ap_iload_n dX11_draught_7 2 rfl rfl ?_
    refine ap_callS (As := [.int x2]) (st := []) (st1 := [.int (fX11_isHour x2)]) (mcX11_isHour  (w := w) (zx := fX11_isHour x2) rfl) cs_X11_161 ⟨rfl, rfl, by decide, by decide⟩ rfl (Nat.le_of_ble_eq_true rfl) ⟨Nat.zero_le _, Nat.zero_le _⟩ dX11_draught_8 rfl rfl ?_
    refine ap_if_eq (tgt := 35) dX11_draught_11 (by decide) (fun hc2 => ?_) (fun hc2 => ?_)
    · rw [if_pos hc2] at h
      refine ap_sub [0] rfl ?_
      exact AX11_draught_L35   h
    · rw [if_neg hc2] at h
      refine ap_iload_n dX11_draught_14 3 rfl rfl ?_
      refine ap_iconst (v := 0) dX11_draught_15 (by decide) ?_
      refine ap_bipush (v := 23) dX11_draught_16 (by decide) ?_
      refine ap_callS (As := [.int x3, .int (0 : Int32), .int (23 : Int32)]) (st := []) (st1 := [.int (fX11_within x3 (0 : Int32) (23 : Int32))]) (mcX11_within  (w := w) (zx := fX11_within x3 (0 : Int32) (23 : Int32)) rfl) cs_X11_73 ⟨rfl, rfl, by decide, by decide⟩ rfl (Nat.le_of_ble_eq_true rfl) ⟨Nat.zero_le _, Nat.zero_le _⟩ dX11_draught_18 rfl rfl ?_
      refine ap_if_eq (tgt := 35) dX11_draught_21 (by decide) (fun hc3 => ?_) (fun hc3 => ?_)
      · rw [if_pos hc3] at h
        refine ap_sub [0] rfl ?_
        exact AX11_draught_L35   h
      · rw [if_neg hc3] at h
        refine ap_iload dX11_draught_24 4 rfl ?_
        refine ap_iconst (v := 0) dX11_draught_26 (by decide) ?_
        refine ap_bipush (v := 10) dX11_draught_27 (by decide) ?_
        refine ap_callS (As := [.int x4, .int (0 : Int32), .int (10 : Int32)]) (st := []) (st1 := [.int (fX11_within x4 (0 : Int32) (10 : Int32))]) (mcX11_within  (w := w) (zx := fX11_within x4 (0 : Int32) (10 : Int32)) rfl) cs_X11_73 ⟨rfl, rfl, by decide, by decide⟩ rfl (Nat.le_of_ble_eq_true rfl) ⟨Nat.zero_le _, Nat.zero_le _⟩ dX11_draught_29 rfl rfl ?_
        refine ap_if_ne (tgt := 42) dX11_draught_32 (by decide) (fun hc4 => ?_) (fun hc4 => ?_)
        · rw [if_neg hc4] at h
          refine ap_iload_n dX11_draught_42 3 rfl rfl ?_
          refine ap_if_ne (tgt := 54) dX11_draught_43 (by decide) (fun hc5 => ?_) (fun hc5 => ?_)
          · rw [if_neg hc5] at h
            refine ap_aload_n dX11_draught_54 0 rfl rfl ?_
            refine ap_get (v := .ref (K.1 53)) fl_X11_36 ly_0 rfl rfl dX11_draught_55 ?_
            refine ap_iload_n dX11_draught_58 1 rfl rfl ?_
            refine ap_iload_n dX11_draught_59 2 rfl rfl ?_
            refine ap_iload_n dX11_draught_60 3 rfl rfl ?_
            obtain ⟨a6, ha6, h⟩ := Option.bind_eq_some_iff.mp h
            refine ap_callV (k := 53) (As := [.int x1, .int x2, .int x3]) (st := []) (st1 := [.int a6]) (mcX3_reaching  (w := w) ha6) cv_X11_189 rfl ly_53 ⟨rfl, rfl, by decide, by decide⟩ rfl (Nat.le_of_ble_eq_true rfl) ⟨Nat.zero_le _, Nat.zero_le _⟩ dX11_draught_61 rfl rfl ?_
            refine ap_aload_n dX11_draught_64 0 rfl rfl ?_
            refine ap_get (v := .ref (K.1 1)) fl_X11_12 ly_0 rfl rfl dX11_draught_65 ?_
            refine ap_get (v := .int (w.1 1 2)) fl_X11_122 ly_1 rfl rfl dX11_draught_68 ?_
            refine ap_iand dX11_draught_71 ?_
            refine ap_istore (i := 5) (lv' := [(5, .int (a6 &&& (w.1 1 2))), (0, .ref (K.1 0)), (1, .int x1), (2, .int x2), (3, .int x3), (4, .int x4)]) dX11_draught_72 (by decide) rfl ?_
            refine ap_lconst (v := 1) dX11_draught_74 (by decide) ?_
            refine ap_lstore (i := 6) (lv' := [(6, .long (1 : Int64)), (5, .int (a6 &&& (w.1 1 2))), (0, .ref (K.1 0)), (1, .int x1), (2, .int x2), (3, .int x3), (4, .int x4)]) dX11_draught_75 (by decide) rfl ?_
            refine ap_lconst (v := 1) dX11_draught_77 (by decide) ?_
            refine ap_lstore (i := 8) (lv' := [(8, .long (1 : Int64)), (6, .long (1 : Int64)), (5, .int (a6 &&& (w.1 1 2))), (0, .ref (K.1 0)), (1, .int x1), (2, .int x2), (3, .int x3), (4, .int x4)]) dX11_draught_78 (by decide) rfl ?_
            refine ap_iload dX11_draught_80 2 rfl ?_
            refine ap_callS (As := [.int (a6 &&& (w.1 1 2))]) (st := []) (st1 := [.int (fJ6_bitCount_0f7a4 (a6 &&& (w.1 1 2)))]) (mcJ6_bitCount_0f7a4  (w := w) (zx := fJ6_bitCount_0f7a4 (a6 &&& (w.1 1 2))) rfl) cs_X11_247 ⟨rfl, rfl, by decide, by decide⟩ rfl (Nat.le_of_ble_eq_true rfl) ⟨Nat.zero_le _, Nat.zero_le _⟩ dX11_draught_82 rfl rfl ?_
            refine ap_istore (i := 10) (lv' := [(10, .int (fJ6_bitCount_0f7a4 (a6 &&& (w.1 1 2)))), (8, .long (1 : Int64)), (6, .long (1 : Int64)), (5, .int (a6 &&& (w.1 1 2))), (0, .ref (K.1 0)), (1, .int x1), (2, .int x2), (3, .int x3), (4, .int x4)]) dX11_draught_85 (by decide) rfl ?_
            refine ap_iconst (v := 0) dX11_draught_87 (by decide) ?_
            refine ap_istore (i := 11) (lv' := [(11, .int (0 : Int32)), (10, .int (fJ6_bitCount_0f7a4 (a6 &&& (w.1 1 2)))), (8, .long (1 : Int64)), (6, .long (1 : Int64)), (5, .int (a6 &&& (w.1 1 2))), (0, .ref (K.1 0)), (1, .int x1), (2, .int x2), (3, .int x3), (4, .int x4)]) dX11_draught_88 (by decide) rfl ?_
            refine ap_sub [5, 9, 3, 2, 1, 0] rfl ?_
            exact AX11_draught_L90  N _ _ _ _ _ _ h
          · rw [if_pos hc5] at h
            refine ap_aload_n dX11_draught_46 0 rfl rfl ?_
            refine ap_lconst (v := 1) dX11_draught_47 (by decide) ?_
            refine ap_lconst (v := 1) dX11_draught_48 (by decide) ?_
            obtain ⟨m7, hm7, h⟩ := Option.bind_eq_some_iff.mp h
            refine ap_callV (k := 0) (As := [.long (1 : Int64), .long (1 : Int64)]) (st := []) (st1 := []) (mcX11_keepFraction  hm7) cv_X11_243 rfl ly_0 ⟨rfl, rfl, by decide, by decide⟩ rfl (Nat.le_of_ble_eq_true rfl) ⟨Nat.zero_le _, Nat.zero_le _⟩ dX11_draught_49 rfl rfl ?_
            refine ap_iconst (v := 1) dX11_draught_52 (by decide) ?_
            obtain ⟨rfl, rfl⟩ := Prod.mk.inj (Option.some.inj h)
            exact ap_iret rfl dX11_draught_53
        · rw [if_pos hc4] at h
          refine ap_sub [0] rfl ?_
          exact AX11_draught_L35   h
theorem mcX11_draught {l : Launch} {K : Kt} {N : Nat}  {w : Mm} {x1 : Int32} {x2 : Int32} {x3 : Int32} {x4 : Int32} {zx : Int32} {zw : Mm} (h : fX11_draught N w x1 x2 x3 x4 = some (zx, zw)) : MC l K yX11_draught cX11_draught 12 (some .int) rmX11_draught w [.ref (K.1 0), .int x1, .int x2, .int x3, .int x4] (some (.int zx)) zw :=
  MC.of (by decide) (Nat.le_of_ble_eq_true rfl) rfl (AX11_draught  h)
def fX11_nights_L38 (N : Nat) (w : Mm) : Option (Int32 × Mm) :=
ob2 (some (fX11_bad w (-2 : Int32))) fun a7 m8 =>
some (a7, m8)
set_option maxRecDepth 100000 in
set_option maxHeartbeats 4000000 in
theorem AX11_nights_L38 {l : Launch} {K : Kt} {N : Nat}   {w : Mm} {zx : Int32} {zw : Mm} (h : fX11_nights_L38 N w = some (zx, zw)) : AW l K cX11_nights RX11 5 (some .int) rmX11_nights 0 0 ap_E (ap_F K (some (.int zx)) zw) w 38 [(0, .ref (K.1 0))] [] := by
  unfold fX11_nights_L38 at h
  refine ap_aload_n dX11_nights_38 0 rfl rfl ?_
  refine ap_bipush (v := -2) dX11_nights_39 (by decide) ?_
  obtain ⟨a7, m8, ha7, h⟩ := ob2_iff h
  refine ap_callV (k := 0) (As := [.int (-2 : Int32)]) (st := []) (st1 := [.int a7]) (mcX11_bad  (Option.some.inj ha7)) cv_X11_77 rfl ly_0 ⟨rfl, rfl, by decide, by decide⟩ rfl (Nat.le_of_ble_eq_true rfl) ⟨Nat.zero_le _, Nat.zero_le _⟩ dX11_nights_41 rfl rfl ?_
  obtain ⟨rfl, rfl⟩ := Prod.mk.inj (Option.some.inj h)
  exact ap_iret rfl dX11_nights_44
def fX11_nights (N : Nat) (w : Mm) (x1 : Int32) (x2 : Int32) (x3 : Int32) (x4 : Int32) : Option (Int32 × Mm) :=
if (fX11_isOwner x1) = (0 : Int32) then (
fX11_nights_L38 N w)
else (
if (fX11_within x2 (0 : Int32) (999999 : Int32)) = (0 : Int32) then (
fX11_nights_L38 N w)
else (
if (fX11_within x3 (0 : Int32) (30 : Int32)) = (0 : Int32) then (
fX11_nights_L38 N w)
else (
if (fX11_within x4 (0 : Int32) (100 : Int32)) = (0 : Int32) then (
fX11_nights_L38 N w)
else (
Option.bind (fX3_layAll N w (0 : Int32)) fun m5 =>
Option.bind (fX3_acresOfNights N m5 x1 x2 x3 x4) fun a6 =>
some (a6, m5)))))
set_option maxRecDepth 100000 in
set_option maxHeartbeats 4000000 in
theorem AX11_nights {l : Launch} {K : Kt} {N : Nat}  {w : Mm} {x1 : Int32} {x2 : Int32} {x3 : Int32} {x4 : Int32} {zx : Int32} {zw : Mm} (h : fX11_nights N w x1 x2 x3 x4 = some (zx, zw)) : AW l K cX11_nights RX11 5 (some .int) rmX11_nights 0 0 ap_E (ap_F K (some (.int zx)) zw) w 0 [(0, .ref (K.1 0)), (1, .int x1), (2, .int x2), (3, .int x3), (4, .int x4)] [] := by
  unfold fX11_nights at h
  refine ap_iload_n dX11_nights_0 1 rfl rfl ?_
  refine ap_callS (As := [.int x1]) (st := []) (st1 := [.int (fX11_isOwner x1)]) (mcX11_isOwner  (w := w) (zx := fX11_isOwner x1) rfl) cs_X11_95 ⟨rfl, rfl, by decide, by decide⟩ rfl (Nat.le_of_ble_eq_true rfl) ⟨Nat.zero_le _, Nat.zero_le _⟩ dX11_nights_1 rfl rfl ?_
  refine ap_if_eq (tgt := 38) dX11_nights_4 (by decide) (fun hc1 => ?_) (fun hc1 => ?_)
  · rw [if_pos hc1] at h
    refine ap_sub [0] rfl ?_
    exact AX11_nights_L38   h
  · rw [if_neg hc1] at h
    refine ap_iload_n dX11_nights_7 2 rfl rfl ?_
    refine ap_iconst (v := 0) dX11_nights_8 (by decide) ?_
    refine ap_ldci (v := 999999) wd_857 dX11_nights_9 ?_
    refine ap_callS (As := [.int x2, .int (0 : Int32), .int (999999 : Int32)]) (st := []) (st1 := [.int (fX11_within x2 (0 : Int32) (999999 : Int32))]) (mcX11_within  (w := w) (zx := fX11_within x2 (0 : Int32) (999999 : Int32)) rfl) cs_X11_73 ⟨rfl, rfl, by decide, by decide⟩ rfl (Nat.le_of_ble_eq_true rfl) ⟨Nat.zero_le _, Nat.zero_le _⟩ dX11_nights_11 rfl rfl ?_
    refine ap_if_eq (tgt := 38) dX11_nights_14 (by decide) (fun hc2 => ?_) (fun hc2 => ?_)
    · rw [if_pos hc2] at h
      refine ap_sub [0] rfl ?_
      exact AX11_nights_L38   h
    · rw [if_neg hc2] at h
      refine ap_iload_n dX11_nights_17 3 rfl rfl ?_
      refine ap_iconst (v := 0) dX11_nights_18 (by decide) ?_
      refine ap_bipush (v := 30) dX11_nights_19 (by decide) ?_
      refine ap_callS (As := [.int x3, .int (0 : Int32), .int (30 : Int32)]) (st := []) (st1 := [.int (fX11_within x3 (0 : Int32) (30 : Int32))]) (mcX11_within  (w := w) (zx := fX11_within x3 (0 : Int32) (30 : Int32)) rfl) cs_X11_73 ⟨rfl, rfl, by decide, by decide⟩ rfl (Nat.le_of_ble_eq_true rfl) ⟨Nat.zero_le _, Nat.zero_le _⟩ dX11_nights_21 rfl rfl ?_
      refine ap_if_eq (tgt := 38) dX11_nights_24 (by decide) (fun hc3 => ?_) (fun hc3 => ?_)
      · rw [if_pos hc3] at h
        refine ap_sub [0] rfl ?_
        exact AX11_nights_L38   h
      · rw [if_neg hc3] at h
        refine ap_iload dX11_nights_27 4 rfl ?_
        refine ap_iconst (v := 0) dX11_nights_29 (by decide) ?_
        refine ap_bipush (v := 100) dX11_nights_30 (by decide) ?_
        refine ap_callS (As := [.int x4, .int (0 : Int32), .int (100 : Int32)]) (st := []) (st1 := [.int (fX11_within x4 (0 : Int32) (100 : Int32))]) (mcX11_within  (w := w) (zx := fX11_within x4 (0 : Int32) (100 : Int32)) rfl) cs_X11_73 ⟨rfl, rfl, by decide, by decide⟩ rfl (Nat.le_of_ble_eq_true rfl) ⟨Nat.zero_le _, Nat.zero_le _⟩ dX11_nights_32 rfl rfl ?_
        refine ap_if_ne (tgt := 45) dX11_nights_35 (by decide) (fun hc4 => ?_) (fun hc4 => ?_)
        · rw [if_neg hc4] at h
          refine ap_aload_n dX11_nights_45 0 rfl rfl ?_
          refine ap_get (v := .ref (K.1 53)) fl_X11_36 ly_0 rfl rfl dX11_nights_46 ?_
          refine ap_iconst (v := 0) dX11_nights_49 (by decide) ?_
          obtain ⟨m5, hm5, h⟩ := Option.bind_eq_some_iff.mp h
          refine ap_callV (k := 53) (As := [.int (0 : Int32)]) (st := []) (st1 := []) (mcX3_layAll  hm5) cv_X11_183 rfl ly_53 ⟨rfl, rfl, by decide, by decide⟩ rfl (Nat.le_of_ble_eq_true rfl) ⟨Nat.zero_le _, Nat.zero_le _⟩ dX11_nights_50 rfl rfl ?_
          refine ap_aload_n dX11_nights_53 0 rfl rfl ?_
          refine ap_get (v := .ref (K.1 53)) fl_X11_36 ly_0 rfl rfl dX11_nights_54 ?_
          refine ap_iload_n dX11_nights_57 1 rfl rfl ?_
          refine ap_iload_n dX11_nights_58 2 rfl rfl ?_
          refine ap_iload_n dX11_nights_59 3 rfl rfl ?_
          refine ap_iload dX11_nights_60 4 rfl ?_
          obtain ⟨a6, ha6, h⟩ := Option.bind_eq_some_iff.mp h
          refine ap_callV (k := 53) (As := [.int x1, .int x2, .int x3, .int x4]) (st := []) (st1 := [.int a6]) (mcX3_acresOfNights  (w := m5) ha6) cv_X11_255 rfl ly_53 ⟨rfl, rfl, by decide, by decide⟩ rfl (Nat.le_of_ble_eq_true rfl) ⟨Nat.zero_le _, Nat.zero_le _⟩ dX11_nights_62 rfl rfl ?_
          obtain ⟨rfl, rfl⟩ := Prod.mk.inj (Option.some.inj h)
          exact ap_iret rfl dX11_nights_65
        · rw [if_pos hc4] at h
          refine ap_sub [0] rfl ?_
          exact AX11_nights_L38   h
theorem mcX11_nights {l : Launch} {K : Kt} {N : Nat}  {w : Mm} {x1 : Int32} {x2 : Int32} {x3 : Int32} {x4 : Int32} {zx : Int32} {zw : Mm} (h : fX11_nights N w x1 x2 x3 x4 = some (zx, zw)) : MC l K yX11_nights cX11_nights 5 (some .int) rmX11_nights w [.ref (K.1 0), .int x1, .int x2, .int x3, .int x4] (some (.int zx)) zw :=
  MC.of (by decide) (Nat.le_of_ble_eq_true rfl) rfl (AX11_nights  h)
def fX11_part (w : Mm) (x1 : Int32) : (Int64 × Mm) :=
if (fX11_within x1 (0 : Int32) (1 : Int32)) = (0 : Int32) then (
(((fX11_bad w (-2 : Int32)).1).toInt64, (fX11_bad w (-2 : Int32)).2))
else (
if x1 = (0 : Int32) then (
((w.2 0 7), w))
else (
((w.2 0 8), w)))
set_option maxRecDepth 100000 in
set_option maxHeartbeats 4000000 in
theorem AX11_part {l : Launch} {K : Kt}  {w : Mm} {x1 : Int32} {zx : Int64} {zw : Mm} (h : fX11_part w x1 = (zx, zw)) : AW l K cX11_part RX11 2 (some .long) rmX11_part 0 0 ap_E (ap_F K (some (.long zx)) zw) w 0 [(0, .ref (K.1 0)), (1, .int x1)] [] := by
  unfold fX11_part at h
  refine ap_iload_n dX11_part_0 1 rfl rfl ?_
  refine ap_iconst (v := 0) dX11_part_1 (by decide) ?_
  refine ap_iconst (v := 1) dX11_part_2 (by decide) ?_
  refine ap_callS (As := [.int x1, .int (0 : Int32), .int (1 : Int32)]) (st := []) (st1 := [.int (fX11_within x1 (0 : Int32) (1 : Int32))]) (mcX11_within  (w := w) (zx := fX11_within x1 (0 : Int32) (1 : Int32)) rfl) cs_X11_73 ⟨rfl, rfl, by decide, by decide⟩ rfl (Nat.le_of_ble_eq_true rfl) ⟨Nat.zero_le _, Nat.zero_le _⟩ dX11_part_3 rfl rfl ?_
  refine ap_if_ne (tgt := 17) dX11_part_6 (by decide) (fun hc1 => ?_) (fun hc1 => ?_)
  · rw [if_neg hc1] at h
    refine ap_iload_n dX11_part_17 1 rfl rfl ?_
    refine ap_if_ne (tgt := 28) dX11_part_18 (by decide) (fun hc2 => ?_) (fun hc2 => ?_)
    · rw [if_neg hc2] at h
      refine ap_aload_n dX11_part_28 0 rfl rfl ?_
      refine ap_get (v := .long (w.2 0 8)) fl_X11_60 ly_0 rfl rfl dX11_part_29 ?_
      obtain ⟨rfl, rfl⟩ := Prod.mk.inj h
      exact ap_lret rfl dX11_part_32
    · rw [if_pos hc2] at h
      refine ap_aload_n dX11_part_21 0 rfl rfl ?_
      refine ap_get (v := .long (w.2 0 7)) fl_X11_56 ly_0 rfl rfl dX11_part_22 ?_
      refine ap_goto (tgt := 32) dX11_part_25 (by decide) ?_
      obtain ⟨rfl, rfl⟩ := Prod.mk.inj h
      exact ap_lret rfl dX11_part_32
  · rw [if_pos hc1] at h
    refine ap_aload_n dX11_part_9 0 rfl rfl ?_
    refine ap_bipush (v := -2) dX11_part_10 (by decide) ?_
    refine ap_callV (k := 0) (As := [.int (-2 : Int32)]) (st := []) (st1 := [.int ((fX11_bad w (-2 : Int32)).1)]) (mcX11_bad  (zx := (fX11_bad w (-2 : Int32)).1) (zw := (fX11_bad w (-2 : Int32)).2) rfl) cv_X11_77 rfl ly_0 ⟨rfl, rfl, by decide, by decide⟩ rfl (Nat.le_of_ble_eq_true rfl) ⟨Nat.zero_le _, Nat.zero_le _⟩ dX11_part_12 rfl rfl ?_
    refine ap_i2l (v := ((fX11_bad w (-2 : Int32)).1).toInt64) dX11_part_15 rfl ?_
    obtain ⟨rfl, rfl⟩ := Prod.mk.inj h
    exact ap_lret rfl dX11_part_16
theorem mcX11_part {l : Launch} {K : Kt}  {w : Mm} {x1 : Int32} {zx : Int64} {zw : Mm} (h : fX11_part w x1 = (zx, zw)) : MC l K yX11_part cX11_part 2 (some .long) rmX11_part w [.ref (K.1 0), .int x1] (some (.long zx)) zw :=
  MC.of (by decide) (Nat.le_of_ble_eq_true rfl) rfl (AX11_part  h)
def fX11_image (w : Mm) (x1 : Int32) : Option (Int32 × Mm) :=
if (fX11_within x1 (0 : Int32) (1 : Int32)) = (0 : Int32) then (
ob2 (some (fX11_bad w (-2 : Int32))) fun a5 m6 =>
some (a5, m6))
else (
Option.bind (rdR 2 x1) fun j2 =>
Option.bind (fX8_takeFrom (13 + 12 * j2) 1 w) fun m3 =>
Option.bind (wrA m3 50 2 x1 (vp_nar .boolean (1 : Int32))) fun m4 =>
some ((1 : Int32), m4))
set_option maxRecDepth 100000 in
set_option maxHeartbeats 4000000 in
theorem AX11_image {l : Launch} {K : Kt}  {w : Mm} {x1 : Int32} {zx : Int32} {zw : Mm} (h : fX11_image w x1 = some (zx, zw)) : AW l K cX11_image RX11 2 (some .int) rmX11_image 0 0 ap_E (ap_F K (some (.int zx)) zw) w 0 [(0, .ref (K.1 0)), (1, .int x1)] [] := by
  unfold fX11_image at h
  refine ap_iload_n dX11_image_0 1 rfl rfl ?_
  refine ap_iconst (v := 0) dX11_image_1 (by decide) ?_
  refine ap_iconst (v := 1) dX11_image_2 (by decide) ?_
  refine ap_callS (As := [.int x1, .int (0 : Int32), .int (1 : Int32)]) (st := []) (st1 := [.int (fX11_within x1 (0 : Int32) (1 : Int32))]) (mcX11_within  (w := w) (zx := fX11_within x1 (0 : Int32) (1 : Int32)) rfl) cs_X11_73 ⟨rfl, rfl, by decide, by decide⟩ rfl (Nat.le_of_ble_eq_true rfl) ⟨Nat.zero_le _, Nat.zero_le _⟩ dX11_image_3 rfl rfl ?_
  refine ap_if_ne (tgt := 16) dX11_image_6 (by decide) (fun hc1 => ?_) (fun hc1 => ?_)
  · rw [if_neg hc1] at h
    refine ap_aload_n dX11_image_16 0 rfl rfl ?_
    refine ap_get (v := .ref (K.1 49)) fl_X11_16 ly_0 rfl rfl dX11_image_17 ?_
    refine ap_iload_n dX11_image_20 1 rfl rfl ?_
    obtain ⟨j2, hj2, h⟩ := Option.bind_eq_some_iff.mp h
    refine ap_aald (t := 3) (ids := [13, 25]) (q := 13 + 12 * j2) (C := "CandleLand$Valley") ly_49 rfl hj2 (ap_k2 (rdR_some hj2).2.2) dX11_image_21 ?_
    refine ap_aload_n dX11_image_22 0 rfl rfl ?_
    refine ap_get (v := .ref (K.1 1)) fl_X11_12 ly_0 rfl rfl dX11_image_23 ?_
    obtain ⟨m3, hm3, h⟩ := Option.bind_eq_some_iff.mp h
    refine ap_callV (k := 13 + 12 * j2) (As := [.ref (K.1 1)]) (st := []) (st1 := []) (mcX8_takeFrom (isV_img (rdR_some hj2).2.2) isV_1 hm3) cv_X11_143 rfl (lyv_0 (isV_img (rdR_some hj2).2.2)) ⟨rfl, rfl, by decide, by decide⟩ rfl (Nat.le_of_ble_eq_true rfl) ⟨Nat.zero_le _, Nat.zero_le _⟩ dX11_image_26 rfl rfl ?_
    refine ap_aload_n dX11_image_29 0 rfl rfl ?_
    refine ap_get (v := .ref (K.1 50)) fl_X11_20 ly_0 rfl rfl dX11_image_30 ?_
    refine ap_iload_n dX11_image_33 1 rfl rfl ?_
    refine ap_iconst (v := 1) dX11_image_34 (by decide) ?_
    obtain ⟨m4, hm4, h⟩ := Option.bind_eq_some_iff.mp h
    refine ap_zast ly_50 hm4 dX11_image_35 ?_
    refine ap_iconst (v := 1) dX11_image_36 (by decide) ?_
    obtain ⟨rfl, rfl⟩ := Prod.mk.inj (Option.some.inj h)
    exact ap_iret rfl dX11_image_37
  · rw [if_pos hc1] at h
    refine ap_aload_n dX11_image_9 0 rfl rfl ?_
    refine ap_bipush (v := -2) dX11_image_10 (by decide) ?_
    obtain ⟨a5, m6, ha5, h⟩ := ob2_iff h
    refine ap_callV (k := 0) (As := [.int (-2 : Int32)]) (st := []) (st1 := [.int a5]) (mcX11_bad  (Option.some.inj ha5)) cv_X11_77 rfl ly_0 ⟨rfl, rfl, by decide, by decide⟩ rfl (Nat.le_of_ble_eq_true rfl) ⟨Nat.zero_le _, Nat.zero_le _⟩ dX11_image_12 rfl rfl ?_
    obtain ⟨rfl, rfl⟩ := Prod.mk.inj (Option.some.inj h)
    exact ap_iret rfl dX11_image_15
theorem mcX11_image {l : Launch} {K : Kt}  {w : Mm} {x1 : Int32} {zx : Int32} {zw : Mm} (h : fX11_image w x1 = some (zx, zw)) : MC l K yX11_image cX11_image 2 (some .int) rmX11_image w [.ref (K.1 0), .int x1] (some (.int zx)) zw :=
  MC.of (by decide) (Nat.le_of_ble_eq_true rfl) rfl (AX11_image  h)
def fX11_from (w : Mm) (x1 : Int32) : Option (Int32 × Mm) :=
if (fX11_within x1 (0 : Int32) (1 : Int32)) = (0 : Int32) then (
ob2 (some (fX11_bad w (-2 : Int32))) fun a8 m9 =>
some (a8, m9))
else (
Option.bind (rdA w 50 2 x1) fun a2 =>
if a2 = (0 : Int32) then (
ob2 (some (fX11_no w)) fun a6 m7 =>
some (a6, m7))
else (
Option.bind (rdR 2 x1) fun j4 =>
Option.bind (fX8_takeFrom 1 (13 + 12 * j4) w) fun m5 =>
some ((1 : Int32), m5)))
set_option maxRecDepth 100000 in
set_option maxHeartbeats 4000000 in
theorem AX11_from {l : Launch} {K : Kt}  {w : Mm} {x1 : Int32} {zx : Int32} {zw : Mm} (h : fX11_from w x1 = some (zx, zw)) : AW l K cX11_from RX11 2 (some .int) rmX11_from 0 0 ap_E (ap_F K (some (.int zx)) zw) w 0 [(0, .ref (K.1 0)), (1, .int x1)] [] := by
  unfold fX11_from at h
  refine ap_iload_n dX11_from_0 1 rfl rfl ?_
  refine ap_iconst (v := 0) dX11_from_1 (by decide) ?_
  refine ap_iconst (v := 1) dX11_from_2 (by decide) ?_
  refine ap_callS (As := [.int x1, .int (0 : Int32), .int (1 : Int32)]) (st := []) (st1 := [.int (fX11_within x1 (0 : Int32) (1 : Int32))]) (mcX11_within  (w := w) (zx := fX11_within x1 (0 : Int32) (1 : Int32)) rfl) cs_X11_73 ⟨rfl, rfl, by decide, by decide⟩ rfl (Nat.le_of_ble_eq_true rfl) ⟨Nat.zero_le _, Nat.zero_le _⟩ dX11_from_3 rfl rfl ?_
  refine ap_if_ne (tgt := 16) dX11_from_6 (by decide) (fun hc1 => ?_) (fun hc1 => ?_)
  · rw [if_neg hc1] at h
    refine ap_aload_n dX11_from_16 0 rfl rfl ?_
    refine ap_get (v := .ref (K.1 50)) fl_X11_20 ly_0 rfl rfl dX11_from_17 ?_
    refine ap_iload_n dX11_from_20 1 rfl rfl ?_
    obtain ⟨a2, ha2, h⟩ := Option.bind_eq_some_iff.mp h
    refine ap_zald ly_50 ha2 dX11_from_21 ?_
    refine ap_if_ne (tgt := 30) dX11_from_22 (by decide) (fun hc3 => ?_) (fun hc3 => ?_)
    · rw [if_neg hc3] at h
      refine ap_aload_n dX11_from_30 0 rfl rfl ?_
      refine ap_get (v := .ref (K.1 1)) fl_X11_12 ly_0 rfl rfl dX11_from_31 ?_
      refine ap_aload_n dX11_from_34 0 rfl rfl ?_
      refine ap_get (v := .ref (K.1 49)) fl_X11_16 ly_0 rfl rfl dX11_from_35 ?_
      refine ap_iload_n dX11_from_38 1 rfl rfl ?_
      obtain ⟨j4, hj4, h⟩ := Option.bind_eq_some_iff.mp h
      refine ap_aald (t := 3) (ids := [13, 25]) (q := 13 + 12 * j4) (C := "CandleLand$Valley") ly_49 rfl hj4 (ap_k2 (rdR_some hj4).2.2) dX11_from_39 ?_
      obtain ⟨m5, hm5, h⟩ := Option.bind_eq_some_iff.mp h
      refine ap_callV (k := 1) (As := [.ref (K.1 (13 + 12 * j4))]) (st := []) (st1 := []) (mcX8_takeFrom isV_1 (isV_img (rdR_some hj4).2.2) hm5) cv_X11_143 rfl ly_1 ⟨rfl, rfl, by decide, by decide⟩ rfl (Nat.le_of_ble_eq_true rfl) ⟨Nat.zero_le _, Nat.zero_le _⟩ dX11_from_40 rfl rfl ?_
      refine ap_iconst (v := 1) dX11_from_43 (by decide) ?_
      obtain ⟨rfl, rfl⟩ := Prod.mk.inj (Option.some.inj h)
      exact ap_iret rfl dX11_from_44
    · rw [if_pos hc3] at h
      refine ap_aload_n dX11_from_25 0 rfl rfl ?_
      obtain ⟨a6, m7, ha6, h⟩ := ob2_iff h
      refine ap_callV (k := 0) (As := []) (st := []) (st1 := [.int a6]) (mcX11_no  (Option.some.inj ha6)) cv_X11_119 rfl ly_0 ⟨rfl, rfl, by decide, by decide⟩ rfl (Nat.le_of_ble_eq_true rfl) ⟨Nat.zero_le _, Nat.zero_le _⟩ dX11_from_26 rfl rfl ?_
      obtain ⟨rfl, rfl⟩ := Prod.mk.inj (Option.some.inj h)
      exact ap_iret rfl dX11_from_29
  · rw [if_pos hc1] at h
    refine ap_aload_n dX11_from_9 0 rfl rfl ?_
    refine ap_bipush (v := -2) dX11_from_10 (by decide) ?_
    obtain ⟨a8, m9, ha8, h⟩ := ob2_iff h
    refine ap_callV (k := 0) (As := [.int (-2 : Int32)]) (st := []) (st1 := [.int a8]) (mcX11_bad  (Option.some.inj ha8)) cv_X11_77 rfl ly_0 ⟨rfl, rfl, by decide, by decide⟩ rfl (Nat.le_of_ble_eq_true rfl) ⟨Nat.zero_le _, Nat.zero_le _⟩ dX11_from_12 rfl rfl ?_
    obtain ⟨rfl, rfl⟩ := Prod.mk.inj (Option.some.inj h)
    exact ap_iret rfl dX11_from_15
theorem mcX11_from {l : Launch} {K : Kt}  {w : Mm} {x1 : Int32} {zx : Int32} {zw : Mm} (h : fX11_from w x1 = some (zx, zw)) : MC l K yX11_from cX11_from 2 (some .int) rmX11_from w [.ref (K.1 0), .int x1] (some (.int zx)) zw :=
  MC.of (by decide) (Nat.le_of_ble_eq_true rfl) rfl (AX11_from  h)
def fX11_status (w : Mm) (x1 : Int32) : (Int32 × Mm) :=
if x1 = (0 : Int32) then (
((w.1 0 9), w))
else if x1 = (1 : Int32) then (
((w.1 0 10), w))
else if x1 = (2 : Int32) then (
((w.1 0 11), w))
else (
((fX11_bad w (-1 : Int32)).1, (fX11_bad w (-1 : Int32)).2))
set_option maxRecDepth 100000 in
set_option maxHeartbeats 4000000 in
theorem AX11_status {l : Launch} {K : Kt}  {w : Mm} {x1 : Int32} {zx : Int32} {zw : Mm} (h : fX11_status w x1 = (zx, zw)) : AW l K cX11_status RX11 2 (some .int) rmX11_status 0 0 ap_E (ap_F K (some (.int zx)) zw) w 0 [(0, .ref (K.1 0)), (1, .int x1)] [] := by
  unfold fX11_status at h
  refine ap_iload_n dX11_status_0 1 rfl rfl ?_
  by_cases hc1 : x1 = (0 : Int32)
  · rw [if_pos hc1] at h
    refine ap_tabIn (off := 27) (tgt := 28) dX11_status_1 (by rw [hc1]; decide) (by rw [hc1]; decide) (by rw [hc1]; rfl) (by decide) ?_
    refine ap_aload_n dX11_status_28 0 rfl rfl ?_
    refine ap_get (v := .int (w.1 0 9)) fl_X11_63 ly_0 rfl rfl dX11_status_29 ?_
    obtain ⟨rfl, rfl⟩ := Prod.mk.inj h
    exact ap_iret rfl dX11_status_32
  rw [if_neg hc1] at h
  by_cases hc2 : x1 = (1 : Int32)
  · rw [if_pos hc2] at h
    refine ap_tabIn (off := 32) (tgt := 33) dX11_status_1 (by rw [hc2]; decide) (by rw [hc2]; decide) (by rw [hc2]; rfl) (by decide) ?_
    refine ap_aload_n dX11_status_33 0 rfl rfl ?_
    refine ap_get (v := .int (w.1 0 10)) fl_X11_67 ly_0 rfl rfl dX11_status_34 ?_
    obtain ⟨rfl, rfl⟩ := Prod.mk.inj h
    exact ap_iret rfl dX11_status_37
  rw [if_neg hc2] at h
  by_cases hc3 : x1 = (2 : Int32)
  · rw [if_pos hc3] at h
    refine ap_tabIn (off := 37) (tgt := 38) dX11_status_1 (by rw [hc3]; decide) (by rw [hc3]; decide) (by rw [hc3]; rfl) (by decide) ?_
    refine ap_aload_n dX11_status_38 0 rfl rfl ?_
    refine ap_get (v := .int (w.1 0 11)) fl_X11_70 ly_0 rfl rfl dX11_status_39 ?_
    obtain ⟨rfl, rfl⟩ := Prod.mk.inj h
    exact ap_iret rfl dX11_status_42
  rw [if_neg hc3] at h
  refine ap_tabOut (tgt := 43) dX11_status_1 (ap_out (fun z h1 h2 => by
    have h3 : z = 0 ∨ z = 1 ∨ z = 2 := by omega
    rcases h3 with rfl | rfl | rfl
    · exact fun e => hc1 (e.trans (by decide))
    · exact fun e => hc2 (e.trans (by decide))
    · exact fun e => hc3 (e.trans (by decide)))) (by decide) ?_
  refine ap_aload_n dX11_status_43 0 rfl rfl ?_
  refine ap_iconst (v := -1) dX11_status_44 (by decide) ?_
  refine ap_callV (k := 0) (As := [.int (-1 : Int32)]) (st := []) (st1 := [.int ((fX11_bad w (-1 : Int32)).1)]) (mcX11_bad  (zx := (fX11_bad w (-1 : Int32)).1) (zw := (fX11_bad w (-1 : Int32)).2) rfl) cv_X11_77 rfl ly_0 ⟨rfl, rfl, by decide, by decide⟩ rfl (Nat.le_of_ble_eq_true rfl) ⟨Nat.zero_le _, Nat.zero_le _⟩ dX11_status_45 rfl rfl ?_
  obtain ⟨rfl, rfl⟩ := Prod.mk.inj h
  exact ap_iret rfl dX11_status_48
theorem mcX11_status {l : Launch} {K : Kt}  {w : Mm} {x1 : Int32} {zx : Int32} {zw : Mm} (h : fX11_status w x1 = (zx, zw)) : MC l K yX11_status cX11_status 2 (some .int) rmX11_status w [.ref (K.1 0), .int x1] (some (.int zx)) zw :=
  MC.of (by decide) (Nat.le_of_ble_eq_true rfl) rfl (AX11_status  h)
def fX11_howMany (w : Mm) (x1 : Int32) : Int32 :=
if x1 = (0 : Int32) then (
(w.1 1 1))
else if x1 = (1 : Int32) then (
(w.1 1 0))
else if x1 = (2 : Int32) then (
(w.1 1 2))
else if x1 = (3 : Int32) then (
(w.1 1 8))
else if x1 = (4 : Int32) then (
(w.1 1 10))
else if x1 = (5 : Int32) then (
(w.1 1 14))
else (
(w.1 51 1))
set_option maxRecDepth 100000 in
set_option maxHeartbeats 4000000 in
theorem AX11_howMany {l : Launch} {K : Kt} {w : Mm}  {x1 : Int32} {zx : Int32} (h : fX11_howMany w x1 = zx) : AW l K cX11_howMany RX11 2 (some .int) rmX11_howMany 0 0 ap_E (ap_F K (some (.int zx)) w) w 0 [(0, .ref (K.1 0)), (1, .int x1)] [] := by
  unfold fX11_howMany at h
  refine ap_iload_n dX11_howMany_0 1 rfl rfl ?_
  by_cases hc1 : x1 = (0 : Int32)
  · rw [if_pos hc1] at h
    refine ap_tabIn (off := 39) (tgt := 40) dX11_howMany_1 (by rw [hc1]; decide) (by rw [hc1]; decide) (by rw [hc1]; rfl) (by decide) ?_
    refine ap_aload_n dX11_howMany_40 0 rfl rfl ?_
    refine ap_get (v := .ref (K.1 1)) fl_X11_12 ly_0 rfl rfl dX11_howMany_41 ?_
    refine ap_get (v := .int (w.1 1 1)) fl_X11_81 ly_1 rfl rfl dX11_howMany_44 ?_
    subst h
    exact ap_iret rfl dX11_howMany_47
  rw [if_neg hc1] at h
  by_cases hc2 : x1 = (1 : Int32)
  · rw [if_pos hc2] at h
    refine ap_tabIn (off := 47) (tgt := 48) dX11_howMany_1 (by rw [hc2]; decide) (by rw [hc2]; decide) (by rw [hc2]; rfl) (by decide) ?_
    refine ap_aload_n dX11_howMany_48 0 rfl rfl ?_
    refine ap_get (v := .ref (K.1 1)) fl_X11_12 ly_0 rfl rfl dX11_howMany_49 ?_
    refine ap_get (v := .int (w.1 1 0)) fl_X11_88 ly_1 rfl rfl dX11_howMany_52 ?_
    subst h
    exact ap_iret rfl dX11_howMany_55
  rw [if_neg hc2] at h
  by_cases hc3 : x1 = (2 : Int32)
  · rw [if_pos hc3] at h
    refine ap_tabIn (off := 55) (tgt := 56) dX11_howMany_1 (by rw [hc3]; decide) (by rw [hc3]; decide) (by rw [hc3]; rfl) (by decide) ?_
    refine ap_aload_n dX11_howMany_56 0 rfl rfl ?_
    refine ap_get (v := .ref (K.1 1)) fl_X11_12 ly_0 rfl rfl dX11_howMany_57 ?_
    refine ap_get (v := .int (w.1 1 2)) fl_X11_122 ly_1 rfl rfl dX11_howMany_60 ?_
    subst h
    exact ap_iret rfl dX11_howMany_63
  rw [if_neg hc3] at h
  by_cases hc4 : x1 = (3 : Int32)
  · rw [if_pos hc4] at h
    refine ap_tabIn (off := 63) (tgt := 64) dX11_howMany_1 (by rw [hc4]; decide) (by rw [hc4]; decide) (by rw [hc4]; rfl) (by decide) ?_
    refine ap_aload_n dX11_howMany_64 0 rfl rfl ?_
    refine ap_get (v := .ref (K.1 1)) fl_X11_12 ly_0 rfl rfl dX11_howMany_65 ?_
    refine ap_get (v := .int (w.1 1 8)) fl_X11_192 ly_1 rfl rfl dX11_howMany_68 ?_
    subst h
    exact ap_iret rfl dX11_howMany_71
  rw [if_neg hc4] at h
  by_cases hc5 : x1 = (4 : Int32)
  · rw [if_pos hc5] at h
    refine ap_tabIn (off := 71) (tgt := 72) dX11_howMany_1 (by rw [hc5]; decide) (by rw [hc5]; decide) (by rw [hc5]; rfl) (by decide) ?_
    refine ap_aload_n dX11_howMany_72 0 rfl rfl ?_
    refine ap_get (v := .ref (K.1 1)) fl_X11_12 ly_0 rfl rfl dX11_howMany_73 ?_
    refine ap_get (v := .int (w.1 1 10)) fl_X11_225 ly_1 rfl rfl dX11_howMany_76 ?_
    subst h
    exact ap_iret rfl dX11_howMany_79
  rw [if_neg hc5] at h
  by_cases hc6 : x1 = (5 : Int32)
  · rw [if_pos hc6] at h
    refine ap_tabIn (off := 79) (tgt := 80) dX11_howMany_1 (by rw [hc6]; decide) (by rw [hc6]; decide) (by rw [hc6]; rfl) (by decide) ?_
    refine ap_aload_n dX11_howMany_80 0 rfl rfl ?_
    refine ap_get (v := .ref (K.1 1)) fl_X11_12 ly_0 rfl rfl dX11_howMany_81 ?_
    refine ap_get (v := .int (w.1 1 14)) fl_X11_125 ly_1 rfl rfl dX11_howMany_84 ?_
    subst h
    exact ap_iret rfl dX11_howMany_87
  rw [if_neg hc6] at h
  refine ap_tabOut (tgt := 88) dX11_howMany_1 (ap_out (fun z h1 h2 => by
    have h3 : z = 0 ∨ z = 1 ∨ z = 2 ∨ z = 3 ∨ z = 4 ∨ z = 5 := by omega
    rcases h3 with rfl | rfl | rfl | rfl | rfl | rfl
    · exact fun e => hc1 (e.trans (by decide))
    · exact fun e => hc2 (e.trans (by decide))
    · exact fun e => hc3 (e.trans (by decide))
    · exact fun e => hc4 (e.trans (by decide))
    · exact fun e => hc5 (e.trans (by decide))
    · exact fun e => hc6 (e.trans (by decide)))) (by decide) ?_
  refine ap_aload_n dX11_howMany_88 0 rfl rfl ?_
  refine ap_get (v := .ref (K.1 51)) fl_X11_27 ly_0 rfl rfl dX11_howMany_89 ?_
  refine ap_get (v := .int (w.1 51 1)) fl_X11_131 ly_51 rfl rfl dX11_howMany_92 ?_
  subst h
  exact ap_iret rfl dX11_howMany_95
theorem mcX11_howMany {l : Launch} {K : Kt} {w : Mm}  {x1 : Int32} {zx : Int32} (h : fX11_howMany w x1 = zx) : MC l K yX11_howMany cX11_howMany 2 (some .int) rmX11_howMany w [.ref (K.1 0), .int x1] (some (.int zx)) w :=
  MC.of (by decide) (Nat.le_of_ble_eq_true rfl) rfl (AX11_howMany  h)
def fX11_count (w : Mm) (x1 : Int32) : (Int32 × Mm) :=
if (fX11_within x1 (0 : Int32) (6 : Int32)) = (0 : Int32) then (
((fX11_bad w (-2 : Int32)).1, (fX11_bad w (-2 : Int32)).2))
else (
((fX11_howMany w x1), w))
set_option maxRecDepth 100000 in
set_option maxHeartbeats 4000000 in
theorem AX11_count {l : Launch} {K : Kt}  {w : Mm} {x1 : Int32} {zx : Int32} {zw : Mm} (h : fX11_count w x1 = (zx, zw)) : AW l K cX11_count RX11 2 (some .int) rmX11_count 0 0 ap_E (ap_F K (some (.int zx)) zw) w 0 [(0, .ref (K.1 0)), (1, .int x1)] [] := by
  unfold fX11_count at h
  refine ap_iload_n dX11_count_0 1 rfl rfl ?_
  refine ap_iconst (v := 0) dX11_count_1 (by decide) ?_
  refine ap_bipush (v := 6) dX11_count_2 (by decide) ?_
  refine ap_callS (As := [.int x1, .int (0 : Int32), .int (6 : Int32)]) (st := []) (st1 := [.int (fX11_within x1 (0 : Int32) (6 : Int32))]) (mcX11_within  (w := w) (zx := fX11_within x1 (0 : Int32) (6 : Int32)) rfl) cs_X11_73 ⟨rfl, rfl, by decide, by decide⟩ rfl (Nat.le_of_ble_eq_true rfl) ⟨Nat.zero_le _, Nat.zero_le _⟩ dX11_count_4 rfl rfl ?_
  refine ap_if_eq (tgt := 18) dX11_count_7 (by decide) (fun hc1 => ?_) (fun hc1 => ?_)
  · rw [if_pos hc1] at h
    refine ap_aload_n dX11_count_18 0 rfl rfl ?_
    refine ap_bipush (v := -2) dX11_count_19 (by decide) ?_
    refine ap_callV (k := 0) (As := [.int (-2 : Int32)]) (st := []) (st1 := [.int ((fX11_bad w (-2 : Int32)).1)]) (mcX11_bad  (zx := (fX11_bad w (-2 : Int32)).1) (zw := (fX11_bad w (-2 : Int32)).2) rfl) cv_X11_77 rfl ly_0 ⟨rfl, rfl, by decide, by decide⟩ rfl (Nat.le_of_ble_eq_true rfl) ⟨Nat.zero_le _, Nat.zero_le _⟩ dX11_count_21 rfl rfl ?_
    obtain ⟨rfl, rfl⟩ := Prod.mk.inj h
    exact ap_iret rfl dX11_count_24
  · rw [if_neg hc1] at h
    refine ap_aload_n dX11_count_10 0 rfl rfl ?_
    refine ap_iload_n dX11_count_11 1 rfl rfl ?_
    refine ap_callV (k := 0) (As := [.int x1]) (st := []) (st1 := [.int (fX11_howMany w x1)]) (mcX11_howMany  (w := w) (zx := fX11_howMany w x1) rfl) cv_X11_259 rfl ly_0 ⟨rfl, rfl, by decide, by decide⟩ rfl (Nat.le_of_ble_eq_true rfl) ⟨Nat.zero_le _, Nat.zero_le _⟩ dX11_count_12 rfl rfl ?_
    refine ap_goto (tgt := 24) dX11_count_15 (by decide) ?_
    obtain ⟨rfl, rfl⟩ := Prod.mk.inj h
    exact ap_iret rfl dX11_count_24
theorem mcX11_count {l : Launch} {K : Kt}  {w : Mm} {x1 : Int32} {zx : Int32} {zw : Mm} (h : fX11_count w x1 = (zx, zw)) : MC l K yX11_count cX11_count 2 (some .int) rmX11_count w [.ref (K.1 0), .int x1] (some (.int zx)) zw :=
  MC.of (by decide) (Nat.le_of_ble_eq_true rfl) rfl (AX11_count  h)
def fX11_digest_L25 (N : Nat) (k6 : Int64 → Int32 → Option Int64) (w : Mm) (x1 : Int64) (x3 : Int32) : Option Int64 :=
k6 x1 (x3 + 1)
set_option maxRecDepth 100000 in
set_option maxHeartbeats 4000000 in
theorem AX11_digest_L25 {l : Launch} {K : Kt} {N : Nat} {w : Mm} {k6 : Int64 → Int32 → Option Int64} (hk6 : ∀ (x1 : Int64) (x3 : Int32) (zx : Int64), k6 x1 x3 = some zx → AW l K cX11_digest RX11 4 (some .long) rmX11_digest 0 0 ap_E (ap_F K (some (.long zx)) w) w 6 [(0, .ref (K.1 0)), (1, .long x1), (3, .int x3)] [])  {x1 : Int64} {x3 : Int32} {zx : Int64} (h : fX11_digest_L25 N k6 w x1 x3 = some zx) : AW l K cX11_digest RX11 4 (some .long) rmX11_digest 0 0 ap_E (ap_F K (some (.long zx)) w) w 25 [(0, .ref (K.1 0)), (1, .long x1), (3, .int x3)] [] := by
  unfold fX11_digest_L25 at h
  refine ap_iinc (v := x3 + 1) (lv' := [(3, .int (x3 + 1)), (0, .ref (K.1 0)), (1, .long x1)]) dX11_digest_25 2 rfl rfl (by decide) rfl ?_
  refine ap_goto (tgt := 6) dX11_digest_28 (by decide) ?_
  refine ap_sub [1, 2, 0] rfl ?_
  exact hk6 _ _ _ h
def fX11_digest_L6 (N : Nat) (w : Mm) : Nat → Int64 → Int32 → Option Int64
  | 0, _, _ => none
  | n0 + 1, x1, x3 => if (6 : Int32) < x3 then (
Option.bind (fX8_mix N 1 w x1) fun a2 =>
some (((31 : Int64) * (((31 : Int64) * a2) + (w.2 0 7))) + (w.2 0 8)))
else (
fX11_digest_L25 N (fX11_digest_L6 N w n0) w (((31 : Int64) * x1) + (fX11_howMany w x3).toInt64) x3)
set_option maxRecDepth 100000 in
set_option maxHeartbeats 4000000 in
theorem AX11_digest_L6 {l : Launch} {K : Kt} {N : Nat} {w : Mm}   : ∀ (n0 : Nat) (x1 : Int64) (x3 : Int32) {zx : Int64}, fX11_digest_L6 N w n0 x1 x3 = some zx → AW l K cX11_digest RX11 4 (some .long) rmX11_digest 0 0 ap_E (ap_F K (some (.long zx)) w) w 6 [(0, .ref (K.1 0)), (1, .long x1), (3, .int x3)] [] := by
  intro n0
  induction n0 with
  | zero =>
    intro x1 x3 zx h
    cases h
  | succ n0 ih =>
    intro x1 x3 zx h
    rw [fX11_digest_L6] at h
    refine ap_iload_n dX11_digest_6 2 rfl rfl ?_
    refine ap_bipush (v := 6) dX11_digest_7 (by decide) ?_
    refine ap_icmp_gt (tgt := 31) dX11_digest_9 (by decide) (fun hc1 => ?_) (fun hc1 => ?_)
    · rw [if_pos hc1] at h
      refine ap_aload_n dX11_digest_31 0 rfl rfl ?_
      refine ap_get (v := .ref (K.1 1)) fl_X11_12 ly_0 rfl rfl dX11_digest_32 ?_
      refine ap_lload_n dX11_digest_35 1 rfl rfl ?_
      obtain ⟨a2, ha2, h⟩ := Option.bind_eq_some_iff.mp h
      refine ap_callV (k := 1) (As := [.long x1]) (st := []) (st1 := [.long a2]) (mcX8_mix isV_1 (w := w) ha2) cv_X11_266 rfl ly_1 ⟨rfl, rfl, by decide, by decide⟩ rfl (Nat.le_of_ble_eq_true rfl) ⟨Nat.zero_le _, Nat.zero_le _⟩ dX11_digest_36 rfl rfl ?_
      refine ap_lstore_n (i := 1) (lv' := [(1, .long a2), (0, .ref (K.1 0)), (3, .int x3)]) dX11_digest_39 rfl (by decide) rfl ?_
      refine ap_ldc2 (v := 31) wd_896 dX11_digest_40 ?_
      refine ap_lload_n dX11_digest_43 0 rfl rfl ?_
      refine ap_lmul dX11_digest_44 ?_
      refine ap_aload_n dX11_digest_45 1 rfl rfl ?_
      refine ap_get (v := .long (w.2 0 7)) fl_X11_56 ly_0 rfl rfl dX11_digest_46 ?_
      refine ap_ladd dX11_digest_49 ?_
      refine ap_lstore_n (i := 1) (lv' := [(1, .long (((31 : Int64) * a2) + (w.2 0 7))), (0, .ref (K.1 0)), (3, .int x3)]) dX11_digest_50 rfl (by decide) rfl ?_
      refine ap_ldc2 (v := 31) wd_896 dX11_digest_51 ?_
      refine ap_lload_n dX11_digest_54 0 rfl rfl ?_
      refine ap_lmul dX11_digest_55 ?_
      refine ap_aload_n dX11_digest_56 1 rfl rfl ?_
      refine ap_get (v := .long (w.2 0 8)) fl_X11_60 ly_0 rfl rfl dX11_digest_57 ?_
      refine ap_ladd dX11_digest_60 ?_
      obtain rfl := Option.some.inj h
      exact ap_lret rfl dX11_digest_61
    · rw [if_neg hc1] at h
      refine ap_ldc2 (v := 31) wd_896 dX11_digest_12 ?_
      refine ap_lload_n dX11_digest_15 1 rfl rfl ?_
      refine ap_lmul dX11_digest_16 ?_
      refine ap_aload_n dX11_digest_17 0 rfl rfl ?_
      refine ap_iload_n dX11_digest_18 2 rfl rfl ?_
      refine ap_callV (k := 0) (As := [.int x3]) (st := [.long ((31 : Int64) * x1)]) (st1 := [.int (fX11_howMany w x3), .long ((31 : Int64) * x1)]) (mcX11_howMany  (w := w) (zx := fX11_howMany w x3) rfl) cv_X11_259 rfl ly_0 ⟨rfl, rfl, by decide, by decide⟩ rfl (Nat.le_of_ble_eq_true rfl) ⟨Nat.zero_le _, Nat.zero_le _⟩ dX11_digest_19 rfl rfl ?_
      refine ap_i2l (v := (fX11_howMany w x3).toInt64) dX11_digest_22 rfl ?_
      refine ap_ladd dX11_digest_23 ?_
      refine ap_lstore_n (i := 1) (lv' := [(1, .long (((31 : Int64) * x1) + (fX11_howMany w x3).toInt64)), (0, .ref (K.1 0)), (3, .int x3)]) dX11_digest_24 rfl (by decide) rfl ?_
      refine ap_sub [1, 0, 2] rfl ?_
      exact AX11_digest_L25 (fun q0 q1 q2 hq => ih q0 q1 hq)  h
def fX11_digest (N : Nat) (w : Mm) : Option Int64 :=
fX11_digest_L6 N w N (991 : Int64) (0 : Int32)
set_option maxRecDepth 100000 in
set_option maxHeartbeats 4000000 in
theorem AX11_digest {l : Launch} {K : Kt} {N : Nat} {w : Mm}  {zx : Int64} (h : fX11_digest N w = some zx) : AW l K cX11_digest RX11 4 (some .long) rmX11_digest 0 0 ap_E (ap_F K (some (.long zx)) w) w 0 [(0, .ref (K.1 0))] [] := by
  unfold fX11_digest at h
  refine ap_ldc2 (v := 991) wd_895 dX11_digest_0 ?_
  refine ap_lstore_n (i := 1) (lv' := [(1, .long (991 : Int64)), (0, .ref (K.1 0))]) dX11_digest_3 rfl (by decide) rfl ?_
  refine ap_iconst (v := 0) dX11_digest_4 (by decide) ?_
  refine ap_istore_n (i := 3) (lv' := [(3, .int (0 : Int32)), (1, .long (991 : Int64)), (0, .ref (K.1 0))]) dX11_digest_5 rfl (by decide) rfl ?_
  refine ap_sub [2, 1, 0] rfl ?_
  exact AX11_digest_L6  N _ _ h
theorem mcX11_digest {l : Launch} {K : Kt} {N : Nat} {w : Mm}  {zx : Int64} (h : fX11_digest N w = some zx) : MC l K yX11_digest cX11_digest 4 (some .long) rmX11_digest w [.ref (K.1 0)] (some (.long zx)) w :=
  MC.of (by decide) (Nat.le_of_ble_eq_true rfl) rfl (AX11_digest  h)
def fX12_in_L17  : Int32 :=
(0 : Int32)
set_option maxRecDepth 100000 in
set_option maxHeartbeats 4000000 in
theorem AX12_in_L17 {l : Launch} {K : Kt} {w : Mm}   {zx : Int32} (h : fX12_in_L17 = zx) : AW l K cX12_in RX12 6 (some .boolean) rmX12_in 0 0 ap_E (ap_F K (some (.int zx)) w) w 17 [] [] := by
  unfold fX12_in_L17 at h
  refine ap_iconst (v := 0) dX12_in_17 (by decide) ?_
  subst h
  exact ap_zret rfl (Or.inl rfl) dX12_in_18
def fX12_in (x0 : Int64) (x2 : Int64) (x4 : Int64) : Int32 :=
if (lg_cmp x0 x2) < (0 : Int32) then (
fX12_in_L17)
else (
if (0 : Int32) < (lg_cmp x0 x4) then (
fX12_in_L17)
else (
(1 : Int32)))
theorem zX12_in {x0 : Int64} {x2 : Int64} {x4 : Int64} : fX12_in x0 x2 x4 = 0 ∨ fX12_in x0 x2 x4 = 1 := by
  unfold fX12_in
  (try simp only [fX12_in, fX12_in_L17])
  repeat (first | exact Or.inl rfl | exact Or.inr rfl | fail | split)
set_option maxRecDepth 100000 in
set_option maxHeartbeats 4000000 in
theorem AX12_in {l : Launch} {K : Kt} {w : Mm}  {x0 : Int64} {x2 : Int64} {x4 : Int64} {zx : Int32} (h : fX12_in x0 x2 x4 = zx) : AW l K cX12_in RX12 6 (some .boolean) rmX12_in 0 0 ap_E (ap_F K (some (.int zx)) w) w 0 [(0, .long x0), (2, .long x2), (4, .long x4)] [] := by
  unfold fX12_in at h
  refine ap_lload_n dX12_in_0 0 rfl rfl ?_
  refine ap_lload_n dX12_in_1 1 rfl rfl ?_
  refine ap_lcmp dX12_in_2 ?_
  refine ap_if_lt (tgt := 17) dX12_in_3 (by decide) (fun hc1 => ?_) (fun hc1 => ?_)
  · rw [if_pos hc1] at h
    refine ap_sub [] rfl ?_
    exact AX12_in_L17   h
  · rw [if_neg hc1] at h
    refine ap_lload_n dX12_in_6 0 rfl rfl ?_
    refine ap_lload dX12_in_7 2 rfl ?_
    refine ap_lcmp dX12_in_9 ?_
    refine ap_if_gt (tgt := 17) dX12_in_10 (by decide) (fun hc2 => ?_) (fun hc2 => ?_)
    · rw [if_pos hc2] at h
      refine ap_sub [] rfl ?_
      exact AX12_in_L17   h
    · rw [if_neg hc2] at h
      refine ap_iconst (v := 1) dX12_in_13 (by decide) ?_
      refine ap_goto (tgt := 18) dX12_in_14 (by decide) ?_
      subst h
      exact ap_zret rfl (Or.inr rfl) dX12_in_18
theorem mcX12_in {l : Launch} {K : Kt} {w : Mm}  {x0 : Int64} {x2 : Int64} {x4 : Int64} {zx : Int32} (h : fX12_in x0 x2 x4 = zx) : MC l K yX12_in cX12_in 6 (some .boolean) rmX12_in w [.long x0, .long x2, .long x4] (some (.int zx)) w :=
  MC.of (by decide) (Nat.le_of_ble_eq_true rfl) rfl (AX12_in  h)
def fX12_bad (w : Mm) (x1 : Int32) : (Int32 × Mm) :=
(x1, (sI w 81 0 ((w.1 81 0) + (1 : Int32))))
set_option maxRecDepth 100000 in
set_option maxHeartbeats 4000000 in
theorem AX12_bad {l : Launch} {K : Kt}  {w : Mm} {x1 : Int32} {zx : Int32} {zw : Mm} (h : fX12_bad w x1 = (zx, zw)) : AW l K cX12_bad RX12 2 (some .int) rmX12_bad 0 0 ap_E (ap_F K (some (.int zx)) zw) w 0 [(0, .ref (K.1 77)), (1, .int x1)] [] := by
  unfold fX12_bad at h
  refine ap_aload_n dX12_bad_0 0 rfl rfl ?_
  refine ap_get (v := .ref (K.1 81)) fl_X12_20 ly_77 rfl rfl dX12_bad_1 ?_
  refine ap_iconst (v := 0) dX12_bad_4 (by decide) ?_
  refine ap_dup2 dX12_bad_5 rfl rfl ?_
  refine ap_iald (x := (w.1 81 0)) ly_81 (rdA_c (by decide) (by decide)) dX12_bad_6 ?_
  refine ap_iconst (v := 1) dX12_bad_7 (by decide) ?_
  refine ap_iadd dX12_bad_8 ?_
  refine ap_iast (w1 := sI w 81 0 ((w.1 81 0) + (1 : Int32))) ly_81 (wrA_c (by decide) (by decide)) dX12_bad_9 ?_
  refine ap_iload_n dX12_bad_10 1 rfl rfl ?_
  obtain ⟨rfl, rfl⟩ := Prod.mk.inj h
  exact ap_iret rfl dX12_bad_11
theorem mcX12_bad {l : Launch} {K : Kt}  {w : Mm} {x1 : Int32} {zx : Int32} {zw : Mm} (h : fX12_bad w x1 = (zx, zw)) : MC l K yX12_bad cX12_bad 2 (some .int) rmX12_bad w [.ref (K.1 77), .int x1] (some (.int zx)) zw :=
  MC.of (by decide) (Nat.le_of_ble_eq_true rfl) rfl (AX12_bad  h)
def fX12_no (w : Mm) : (Int32 × Mm) :=
((-3 : Int32), (sI w 81 1 ((w.1 81 1) + (1 : Int32))))
set_option maxRecDepth 100000 in
set_option maxHeartbeats 4000000 in
theorem AX12_no {l : Launch} {K : Kt}  {w : Mm} {zx : Int32} {zw : Mm} (h : fX12_no w = (zx, zw)) : AW l K cX12_no RX12 1 (some .int) rmX12_no 0 0 ap_E (ap_F K (some (.int zx)) zw) w 0 [(0, .ref (K.1 77))] [] := by
  unfold fX12_no at h
  refine ap_aload_n dX12_no_0 0 rfl rfl ?_
  refine ap_get (v := .ref (K.1 81)) fl_X12_20 ly_77 rfl rfl dX12_no_1 ?_
  refine ap_iconst (v := 1) dX12_no_4 (by decide) ?_
  refine ap_dup2 dX12_no_5 rfl rfl ?_
  refine ap_iald (x := (w.1 81 1)) ly_81 (rdA_c (by decide) (by decide)) dX12_no_6 ?_
  refine ap_iconst (v := 1) dX12_no_7 (by decide) ?_
  refine ap_iadd dX12_no_8 ?_
  refine ap_iast (w1 := sI w 81 1 ((w.1 81 1) + (1 : Int32))) ly_81 (wrA_c (by decide) (by decide)) dX12_no_9 ?_
  refine ap_bipush (v := -3) dX12_no_10 (by decide) ?_
  obtain ⟨rfl, rfl⟩ := Prod.mk.inj h
  exact ap_iret rfl dX12_no_12
theorem mcX12_no {l : Launch} {K : Kt}  {w : Mm} {zx : Int32} {zw : Mm} (h : fX12_no w = (zx, zw)) : MC l K yX12_no cX12_no 1 (some .int) rmX12_no w [.ref (K.1 77)] (some (.int zx)) zw :=
  MC.of (by decide) (Nat.le_of_ble_eq_true rfl) rfl (AX12_no  h)
def fX12_full (w : Mm) : (Int32 × Mm) :=
((-4 : Int32), (sI w 81 2 ((w.1 81 2) + (1 : Int32))))
set_option maxRecDepth 100000 in
set_option maxHeartbeats 4000000 in
theorem AX12_full {l : Launch} {K : Kt}  {w : Mm} {zx : Int32} {zw : Mm} (h : fX12_full w = (zx, zw)) : AW l K cX12_full RX12 1 (some .int) rmX12_full 0 0 ap_E (ap_F K (some (.int zx)) zw) w 0 [(0, .ref (K.1 77))] [] := by
  unfold fX12_full at h
  refine ap_aload_n dX12_full_0 0 rfl rfl ?_
  refine ap_get (v := .ref (K.1 81)) fl_X12_20 ly_77 rfl rfl dX12_full_1 ?_
  refine ap_iconst (v := 2) dX12_full_4 (by decide) ?_
  refine ap_dup2 dX12_full_5 rfl rfl ?_
  refine ap_iald (x := (w.1 81 2)) ly_81 (rdA_c (by decide) (by decide)) dX12_full_6 ?_
  refine ap_iconst (v := 1) dX12_full_7 (by decide) ?_
  refine ap_iadd dX12_full_8 ?_
  refine ap_iast (w1 := sI w 81 2 ((w.1 81 2) + (1 : Int32))) ly_81 (wrA_c (by decide) (by decide)) dX12_full_9 ?_
  refine ap_bipush (v := -4) dX12_full_10 (by decide) ?_
  obtain ⟨rfl, rfl⟩ := Prod.mk.inj h
  exact ap_iret rfl dX12_full_12
theorem mcX12_full {l : Launch} {K : Kt}  {w : Mm} {zx : Int32} {zw : Mm} (h : fX12_full w = (zx, zw)) : MC l K yX12_full cX12_full 1 (some .int) rmX12_full w [.ref (K.1 77)] (some (.int zx)) zw :=
  MC.of (by decide) (Nat.le_of_ble_eq_true rfl) rfl (AX12_full  h)
def fX12_bits_L4 (N : Nat) : Nat → Int32 → Int32 → Option Int32
  | 0, _, _ => none
  | n0 + 1, x1, x2 => if x2 ≤ (0 : Int32) then (
some x1)
else (
(fX12_bits_L4 N n0) (x1 + (x2 &&& (1 : Int32))) (x2 >>> ((1 : Int32) &&& 31)))
set_option maxRecDepth 100000 in
set_option maxHeartbeats 4000000 in
theorem AX12_bits_L4 {l : Launch} {K : Kt} {N : Nat} {w : Mm}   : ∀ (n0 : Nat) (x1 : Int32) (x2 : Int32) {zx : Int32}, fX12_bits_L4 N n0 x1 x2 = some zx → AW l K cX12_bits RX12 3 (some .int) rmX12_bits 0 0 ap_E (ap_F K (some (.int zx)) w) w 4 [(1, .int x1), (2, .int x2)] [] := by
  intro n0
  induction n0 with
  | zero =>
    intro x1 x2 zx h
    cases h
  | succ n0 ih =>
    intro x1 x2 zx h
    rw [fX12_bits_L4] at h
    refine ap_iload_n dX12_bits_4 1 rfl rfl ?_
    refine ap_if_le (tgt := 21) dX12_bits_5 (by decide) (fun hc1 => ?_) (fun hc1 => ?_)
    · rw [if_pos hc1] at h
      refine ap_iload_n dX12_bits_21 0 rfl rfl ?_
      obtain rfl := Option.some.inj h
      exact ap_iret rfl dX12_bits_22
    · rw [if_neg hc1] at h
      refine ap_iload_n dX12_bits_8 0 rfl rfl ?_
      refine ap_iload_n dX12_bits_9 1 rfl rfl ?_
      refine ap_iconst (v := 1) dX12_bits_10 (by decide) ?_
      refine ap_iand dX12_bits_11 ?_
      refine ap_iadd dX12_bits_12 ?_
      refine ap_istore_n (i := 1) (lv' := [(1, .int (x1 + (x2 &&& (1 : Int32)))), (2, .int x2)]) dX12_bits_13 rfl (by decide) rfl ?_
      refine ap_iload_n dX12_bits_14 1 rfl rfl ?_
      refine ap_iconst (v := 1) dX12_bits_15 (by decide) ?_
      refine ap_ishr dX12_bits_16 ?_
      refine ap_istore_n (i := 2) (lv' := [(2, .int (x2 >>> ((1 : Int32) &&& 31))), (1, .int (x1 + (x2 &&& (1 : Int32))))]) dX12_bits_17 rfl (by decide) rfl ?_
      refine ap_goto (tgt := 4) dX12_bits_18 (by decide) ?_
      refine ap_sub [1, 0] rfl ?_
      exact ih _ _ h
def fX12_bits (N : Nat) (x0 : Int32) : Option Int32 :=
fX12_bits_L4 N N (0 : Int32) x0
set_option maxRecDepth 100000 in
set_option maxHeartbeats 4000000 in
theorem AX12_bits {l : Launch} {K : Kt} {N : Nat} {w : Mm}  {x0 : Int32} {zx : Int32} (h : fX12_bits N x0 = some zx) : AW l K cX12_bits RX12 3 (some .int) rmX12_bits 0 0 ap_E (ap_F K (some (.int zx)) w) w 0 [(0, .int x0)] [] := by
  unfold fX12_bits at h
  refine ap_iconst (v := 0) dX12_bits_0 (by decide) ?_
  refine ap_istore_n (i := 1) (lv' := [(1, .int (0 : Int32)), (0, .int x0)]) dX12_bits_1 rfl (by decide) rfl ?_
  refine ap_iload_n dX12_bits_2 1 rfl rfl ?_
  refine ap_istore_n (i := 2) (lv' := [(2, .int x0), (1, .int (0 : Int32)), (0, .int x0)]) dX12_bits_3 rfl (by decide) rfl ?_
  refine ap_sub [1, 0] rfl ?_
  exact AX12_bits_L4  N _ _ h
theorem mcX12_bits {l : Launch} {K : Kt} {N : Nat} {w : Mm}  {x0 : Int32} {zx : Int32} (h : fX12_bits N x0 = some zx) : MC l K yX12_bits cX12_bits 3 (some .int) rmX12_bits w [.int x0] (some (.int zx)) w :=
  MC.of (by decide) (Nat.le_of_ble_eq_true rfl) rfl (AX12_bits  h)
def fX12_begin_L2 (N : Nat) (a : Nat) (n : Nat) : Nat → Mm → Int32 → Int32 → Option Mm
  | 0, _, _, _ => none
  | n0 + 1, w, x1, x2 => if (65 : Int32) ≤ x2 then (
Option.bind (wrA w a n (1 : Int32) x1) fun m2 =>
some m2)
else (
Option.bind (wrA w a n x2 (0 : Int32)) fun m3 =>
(fX12_begin_L2 N a n n0) m3 x1 (x2 + 1))
set_option maxRecDepth 100000 in
set_option maxHeartbeats 4000000 in
theorem AX12_begin_L2 {l : Launch} {K : Kt} {N : Nat} {a : Nat} {n : Nat}  (ha : LAY[a]? = some (.inr (.inl (0, n)))) : ∀ (n0 : Nat) (w : Mm) (x1 : Int32) (x2 : Int32) {zw : Mm}, fX12_begin_L2 N a n n0 w x1 x2 = some zw → AW l K cX12_begin RX12 3 none rmX12_begin 0 0 ap_E (ap_F K none zw) w 2 [(0, .ref (K.1 a)), (1, .int x1), (2, .int x2)] [] := by
  intro n0
  induction n0 with
  | zero =>
    intro w x1 x2 zw h
    cases h
  | succ n0 ih =>
    intro w x1 x2 zw h
    rw [fX12_begin_L2] at h
    refine ap_iload_n dX12_begin_2 2 rfl rfl ?_
    refine ap_bipush (v := 65) dX12_begin_3 (by decide) ?_
    refine ap_icmp_ge (tgt := 18) dX12_begin_5 (by decide) (fun hc1 => ?_) (fun hc1 => ?_)
    · rw [if_pos hc1] at h
      refine ap_aload_n dX12_begin_18 0 rfl rfl ?_
      refine ap_iconst (v := 1) dX12_begin_19 (by decide) ?_
      refine ap_iload_n dX12_begin_20 1 rfl rfl ?_
      obtain ⟨m2, hm2, h⟩ := Option.bind_eq_some_iff.mp h
      refine ap_iast ha hm2 dX12_begin_21 ?_
      obtain rfl := Option.some.inj h
      exact ap_vret rfl dX12_begin_22
    · rw [if_neg hc1] at h
      refine ap_aload_n dX12_begin_8 0 rfl rfl ?_
      refine ap_iload_n dX12_begin_9 2 rfl rfl ?_
      refine ap_iconst (v := 0) dX12_begin_10 (by decide) ?_
      obtain ⟨m3, hm3, h⟩ := Option.bind_eq_some_iff.mp h
      refine ap_iast ha hm3 dX12_begin_11 ?_
      refine ap_iinc (v := x2 + 1) (lv' := [(2, .int (x2 + 1)), (0, .ref (K.1 a)), (1, .int x1)]) dX12_begin_12 2 rfl rfl (by decide) rfl ?_
      refine ap_goto (tgt := 2) dX12_begin_15 (by decide) ?_
      refine ap_sub [1, 2, 0] rfl ?_
      exact ih _ _ _ h
def fX12_begin (N : Nat) (a : Nat) (n : Nat) (w : Mm) (x1 : Int32) : Option Mm :=
fX12_begin_L2 N a n N w x1 (0 : Int32)
set_option maxRecDepth 100000 in
set_option maxHeartbeats 4000000 in
theorem AX12_begin {l : Launch} {K : Kt} {N : Nat} {a : Nat} {n : Nat} (ha : LAY[a]? = some (.inr (.inl (0, n)))) {w : Mm} {x1 : Int32} {zw : Mm} (h : fX12_begin N a n w x1 = some zw) : AW l K cX12_begin RX12 3 none rmX12_begin 0 0 ap_E (ap_F K none zw) w 0 [(0, .ref (K.1 a)), (1, .int x1)] [] := by
  unfold fX12_begin at h
  refine ap_iconst (v := 0) dX12_begin_0 (by decide) ?_
  refine ap_istore_n (i := 2) (lv' := [(2, .int (0 : Int32)), (0, .ref (K.1 a)), (1, .int x1)]) dX12_begin_1 rfl (by decide) rfl ?_
  refine ap_sub [1, 2, 0] rfl ?_
  exact AX12_begin_L2 ha N _ _ _ h
theorem mcX12_begin {l : Launch} {K : Kt} {N : Nat} {a : Nat} {n : Nat} (ha : LAY[a]? = some (.inr (.inl (0, n)))) {w : Mm} {x1 : Int32} {zw : Mm} (h : fX12_begin N a n w x1 = some zw) : MC l K yX12_begin cX12_begin 3 none rmX12_begin w [.ref (K.1 a), .int x1] none zw :=
  MC.of (by decide) (Nat.le_of_ble_eq_true rfl) rfl (AX12_begin ha h)
def fX12_candles (w : Mm) : Int32 :=
(w.1 78 0)
set_option maxRecDepth 100000 in
set_option maxHeartbeats 4000000 in
theorem AX12_candles {l : Launch} {K : Kt} {w : Mm}  {zx : Int32} (h : fX12_candles w = zx) : AW l K cX12_candles RX12 1 (some .int) rmX12_candles 0 0 ap_E (ap_F K (some (.int zx)) w) w 0 [(0, .ref (K.1 77))] [] := by
  unfold fX12_candles at h
  refine ap_aload_n dX12_candles_0 0 rfl rfl ?_
  refine ap_get (v := .ref (K.1 78)) fl_X12_7 ly_77 rfl rfl dX12_candles_1 ?_
  refine ap_iconst (v := 0) dX12_candles_4 (by decide) ?_
  refine ap_iald (x := (w.1 78 0)) ly_78 (rdA_c (by decide) (by decide)) dX12_candles_5 ?_
  subst h
  exact ap_iret rfl dX12_candles_6
theorem mcX12_candles {l : Launch} {K : Kt} {w : Mm}  {zx : Int32} (h : fX12_candles w = zx) : MC l K yX12_candles cX12_candles 1 (some .int) rmX12_candles w [.ref (K.1 77)] (some (.int zx)) w :=
  MC.of (by decide) (Nat.le_of_ble_eq_true rfl) rfl (AX12_candles  h)
def fX12_isCandle (w : Mm) (x1 : Int32) : Int32 :=
(fX12_in x1.toInt64 (0 : Int64) (((fX12_candles w) - (1 : Int32)).toInt64))
set_option maxRecDepth 100000 in
set_option maxHeartbeats 4000000 in
theorem AX12_isCandle {l : Launch} {K : Kt} {w : Mm}  {x1 : Int32} {zx : Int32} (h : fX12_isCandle w x1 = zx) : AW l K cX12_isCandle RX12 2 (some .boolean) rmX12_isCandle 0 0 ap_E (ap_F K (some (.int zx)) w) w 0 [(0, .ref (K.1 77)), (1, .int x1)] [] := by
  unfold fX12_isCandle at h
  refine ap_iload_n dX12_isCandle_0 1 rfl rfl ?_
  refine ap_i2l (v := x1.toInt64) dX12_isCandle_1 rfl ?_
  refine ap_lconst (v := 0) dX12_isCandle_2 (by decide) ?_
  refine ap_aload_n dX12_isCandle_3 0 rfl rfl ?_
  refine ap_callV (k := 77) (As := []) (st := [.long (0 : Int64), .long x1.toInt64]) (st1 := [.int (fX12_candles w), .long (0 : Int64), .long x1.toInt64]) (mcX12_candles  (w := w) (zx := fX12_candles w) rfl) cv_X12_57 rfl ly_77 ⟨rfl, rfl, by decide, by decide⟩ rfl (Nat.le_of_ble_eq_true rfl) ⟨Nat.zero_le _, Nat.zero_le _⟩ dX12_isCandle_4 rfl rfl ?_
  refine ap_iconst (v := 1) dX12_isCandle_7 (by decide) ?_
  refine ap_isub dX12_isCandle_8 ?_
  refine ap_i2l (v := ((fX12_candles w) - (1 : Int32)).toInt64) dX12_isCandle_9 rfl ?_
  refine ap_callS (As := [.long x1.toInt64, .long (0 : Int64), .long (((fX12_candles w) - (1 : Int32)).toInt64)]) (st := []) (st1 := [.int (fX12_in x1.toInt64 (0 : Int64) (((fX12_candles w) - (1 : Int32)).toInt64))]) (mcX12_in  (w := w) (zx := fX12_in x1.toInt64 (0 : Int64) (((fX12_candles w) - (1 : Int32)).toInt64)) rfl) cs_X12_61 ⟨rfl, rfl, by decide, by decide⟩ rfl (Nat.le_of_ble_eq_true rfl) ⟨Nat.zero_le _, Nat.zero_le _⟩ dX12_isCandle_10 rfl rfl ?_
  subst h
  exact ap_zret rfl zX12_in dX12_isCandle_13
theorem mcX12_isCandle {l : Launch} {K : Kt} {w : Mm}  {x1 : Int32} {zx : Int32} (h : fX12_isCandle w x1 = zx) : MC l K yX12_isCandle cX12_isCandle 2 (some .boolean) rmX12_isCandle w [.ref (K.1 77), .int x1] (some (.int zx)) w :=
  MC.of (by decide) (Nat.le_of_ble_eq_true rfl) rfl (AX12_isCandle  h)
def fX12_isCell (x0 : Int32) : Int32 :=
(fX12_in x0.toInt64 (0 : Int64) (63 : Int64))
set_option maxRecDepth 100000 in
set_option maxHeartbeats 4000000 in
theorem AX12_isCell {l : Launch} {K : Kt} {w : Mm}  {x0 : Int32} {zx : Int32} (h : fX12_isCell x0 = zx) : AW l K cX12_isCell RX12 1 (some .boolean) rmX12_isCell 0 0 ap_E (ap_F K (some (.int zx)) w) w 0 [(0, .int x0)] [] := by
  unfold fX12_isCell at h
  refine ap_iload_n dX12_isCell_0 0 rfl rfl ?_
  refine ap_i2l (v := x0.toInt64) dX12_isCell_1 rfl ?_
  refine ap_lconst (v := 0) dX12_isCell_2 (by decide) ?_
  refine ap_ldc2 (v := 63) wd_1009 dX12_isCell_3 ?_
  refine ap_callS (As := [.long x0.toInt64, .long (0 : Int64), .long (63 : Int64)]) (st := []) (st1 := [.int (fX12_in x0.toInt64 (0 : Int64) (63 : Int64))]) (mcX12_in  (w := w) (zx := fX12_in x0.toInt64 (0 : Int64) (63 : Int64)) rfl) cs_X12_61 ⟨rfl, rfl, by decide, by decide⟩ rfl (Nat.le_of_ble_eq_true rfl) ⟨Nat.zero_le _, Nat.zero_le _⟩ dX12_isCell_6 rfl rfl ?_
  subst h
  exact ap_zret rfl zX12_in dX12_isCell_9
theorem mcX12_isCell {l : Launch} {K : Kt} {w : Mm}  {x0 : Int32} {zx : Int32} (h : fX12_isCell x0 = zx) : MC l K yX12_isCell cX12_isCell 1 (some .boolean) rmX12_isCell w [.int x0] (some (.int zx)) w :=
  MC.of (by decide) (Nat.le_of_ble_eq_true rfl) rfl (AX12_isCell  h)
def fX12_isHour (x0 : Int32) : Int32 :=
(fX12_in x0.toInt64 (0 : Int64) (11 : Int64))
set_option maxRecDepth 100000 in
set_option maxHeartbeats 4000000 in
theorem AX12_isHour {l : Launch} {K : Kt} {w : Mm}  {x0 : Int32} {zx : Int32} (h : fX12_isHour x0 = zx) : AW l K cX12_isHour RX12 1 (some .boolean) rmX12_isHour 0 0 ap_E (ap_F K (some (.int zx)) w) w 0 [(0, .int x0)] [] := by
  unfold fX12_isHour at h
  refine ap_iload_n dX12_isHour_0 0 rfl rfl ?_
  refine ap_i2l (v := x0.toInt64) dX12_isHour_1 rfl ?_
  refine ap_lconst (v := 0) dX12_isHour_2 (by decide) ?_
  refine ap_ldc2 (v := 11) wd_1069 dX12_isHour_3 ?_
  refine ap_callS (As := [.long x0.toInt64, .long (0 : Int64), .long (11 : Int64)]) (st := []) (st1 := [.int (fX12_in x0.toInt64 (0 : Int64) (11 : Int64))]) (mcX12_in  (w := w) (zx := fX12_in x0.toInt64 (0 : Int64) (11 : Int64)) rfl) cs_X12_61 ⟨rfl, rfl, by decide, by decide⟩ rfl (Nat.le_of_ble_eq_true rfl) ⟨Nat.zero_le _, Nat.zero_le _⟩ dX12_isHour_6 rfl rfl ?_
  subst h
  exact ap_zret rfl zX12_in dX12_isHour_9
theorem mcX12_isHour {l : Launch} {K : Kt} {w : Mm}  {x0 : Int32} {zx : Int32} (h : fX12_isHour x0 = zx) : MC l K yX12_isHour cX12_isHour 1 (some .boolean) rmX12_isHour w [.int x0] (some (.int zx)) w :=
  MC.of (by decide) (Nat.le_of_ble_eq_true rfl) rfl (AX12_isHour  h)
def fX12_isOwner (x0 : Int32) : Int32 :=
(fX12_in x0.toInt64 (0 : Int64) (3 : Int64))
set_option maxRecDepth 100000 in
set_option maxHeartbeats 4000000 in
theorem AX12_isOwner {l : Launch} {K : Kt} {w : Mm}  {x0 : Int32} {zx : Int32} (h : fX12_isOwner x0 = zx) : AW l K cX12_isOwner RX12 1 (some .boolean) rmX12_isOwner 0 0 ap_E (ap_F K (some (.int zx)) w) w 0 [(0, .int x0)] [] := by
  unfold fX12_isOwner at h
  refine ap_iload_n dX12_isOwner_0 0 rfl rfl ?_
  refine ap_i2l (v := x0.toInt64) dX12_isOwner_1 rfl ?_
  refine ap_lconst (v := 0) dX12_isOwner_2 (by decide) ?_
  refine ap_ldc2 (v := 3) wd_1017 dX12_isOwner_3 ?_
  refine ap_callS (As := [.long x0.toInt64, .long (0 : Int64), .long (3 : Int64)]) (st := []) (st1 := [.int (fX12_in x0.toInt64 (0 : Int64) (3 : Int64))]) (mcX12_in  (w := w) (zx := fX12_in x0.toInt64 (0 : Int64) (3 : Int64)) rfl) cs_X12_61 ⟨rfl, rfl, by decide, by decide⟩ rfl (Nat.le_of_ble_eq_true rfl) ⟨Nat.zero_le _, Nat.zero_le _⟩ dX12_isOwner_6 rfl rfl ?_
  subst h
  exact ap_zret rfl zX12_in dX12_isOwner_9
theorem mcX12_isOwner {l : Launch} {K : Kt} {w : Mm}  {x0 : Int32} {zx : Int32} (h : fX12_isOwner x0 = zx) : MC l K yX12_isOwner cX12_isOwner 1 (some .boolean) rmX12_isOwner w [.int x0] (some (.int zx)) w :=
  MC.of (by decide) (Nat.le_of_ble_eq_true rfl) rfl (AX12_isOwner  h)
def fX12_isLight (x0 : Int32) : Int32 :=
(fX12_in x0.toInt64 (1 : Int64) (20 : Int64))
set_option maxRecDepth 100000 in
set_option maxHeartbeats 4000000 in
theorem AX12_isLight {l : Launch} {K : Kt} {w : Mm}  {x0 : Int32} {zx : Int32} (h : fX12_isLight x0 = zx) : AW l K cX12_isLight RX12 1 (some .boolean) rmX12_isLight 0 0 ap_E (ap_F K (some (.int zx)) w) w 0 [(0, .int x0)] [] := by
  unfold fX12_isLight at h
  refine ap_iload_n dX12_isLight_0 0 rfl rfl ?_
  refine ap_i2l (v := x0.toInt64) dX12_isLight_1 rfl ?_
  refine ap_lconst (v := 1) dX12_isLight_2 (by decide) ?_
  refine ap_ldc2 (v := 20) wd_1013 dX12_isLight_3 ?_
  refine ap_callS (As := [.long x0.toInt64, .long (1 : Int64), .long (20 : Int64)]) (st := []) (st1 := [.int (fX12_in x0.toInt64 (1 : Int64) (20 : Int64))]) (mcX12_in  (w := w) (zx := fX12_in x0.toInt64 (1 : Int64) (20 : Int64)) rfl) cs_X12_61 ⟨rfl, rfl, by decide, by decide⟩ rfl (Nat.le_of_ble_eq_true rfl) ⟨Nat.zero_le _, Nat.zero_le _⟩ dX12_isLight_6 rfl rfl ?_
  subst h
  exact ap_zret rfl zX12_in dX12_isLight_9
theorem mcX12_isLight {l : Launch} {K : Kt} {w : Mm}  {x0 : Int32} {zx : Int32} (h : fX12_isLight x0 = zx) : MC l K yX12_isLight cX12_isLight 1 (some .boolean) rmX12_isLight w [.int x0] (some (.int zx)) w :=
  MC.of (by decide) (Nat.le_of_ble_eq_true rfl) rfl (AX12_isLight  h)
def fX12_get (w : Mm) (x1 : Int32) (x2 : Int32) : Option Int32 :=
Option.bind (rdA w 78 129 (((6 : Int32) + ((5 : Int32) * x1)) + x2)) fun a1 =>
some a1
set_option maxRecDepth 100000 in
set_option maxHeartbeats 4000000 in
theorem AX12_get {l : Launch} {K : Kt} {w : Mm}  {x1 : Int32} {x2 : Int32} {zx : Int32} (h : fX12_get w x1 x2 = some zx) : AW l K cX12_get RX12 3 (some .int) rmX12_get 0 0 ap_E (ap_F K (some (.int zx)) w) w 0 [(0, .ref (K.1 77)), (1, .int x1), (2, .int x2)] [] := by
  unfold fX12_get at h
  refine ap_aload_n dX12_get_0 0 rfl rfl ?_
  refine ap_get (v := .ref (K.1 78)) fl_X12_7 ly_77 rfl rfl dX12_get_1 ?_
  refine ap_bipush (v := 6) dX12_get_4 (by decide) ?_
  refine ap_iconst (v := 5) dX12_get_6 (by decide) ?_
  refine ap_iload_n dX12_get_7 1 rfl rfl ?_
  refine ap_imul dX12_get_8 ?_
  refine ap_iadd dX12_get_9 ?_
  refine ap_iload_n dX12_get_10 2 rfl rfl ?_
  refine ap_iadd dX12_get_11 ?_
  obtain ⟨a1, ha1, h⟩ := Option.bind_eq_some_iff.mp h
  refine ap_iald ly_78 ha1 dX12_get_12 ?_
  obtain rfl := Option.some.inj h
  exact ap_iret rfl dX12_get_13
theorem mcX12_get {l : Launch} {K : Kt} {w : Mm}  {x1 : Int32} {x2 : Int32} {zx : Int32} (h : fX12_get w x1 x2 = some zx) : MC l K yX12_get cX12_get 3 (some .int) rmX12_get w [.ref (K.1 77), .int x1, .int x2] (some (.int zx)) w :=
  MC.of (by decide) (Nat.le_of_ble_eq_true rfl) rfl (AX12_get  h)
def fX12_valley (N : Nat) (w : Mm) (x1 : Int32) : Option (Int32 × Mm) :=
if (fX12_in x1.toInt64 (0 : Int64) (9 : Int64)) = (0 : Int32) then (
ob2 (some (fX12_bad w (-2 : Int32))) fun a3 m4 =>
some (a3, m4))
else (
Option.bind (fX12_begin N 78 129 w x1) fun m2 =>
some ((fX12_candles w), m2))
set_option maxRecDepth 100000 in
set_option maxHeartbeats 4000000 in
theorem AX12_valley {l : Launch} {K : Kt} {N : Nat}  {w : Mm} {x1 : Int32} {zx : Int32} {zw : Mm} (h : fX12_valley N w x1 = some (zx, zw)) : AW l K cX12_valley RX12 3 (some .int) rmX12_valley 0 0 ap_E (ap_F K (some (.int zx)) zw) w 0 [(0, .ref (K.1 77)), (1, .int x1)] [] := by
  unfold fX12_valley at h
  refine ap_iload_n dX12_valley_0 1 rfl rfl ?_
  refine ap_i2l (v := x1.toInt64) dX12_valley_1 rfl ?_
  refine ap_lconst (v := 0) dX12_valley_2 (by decide) ?_
  refine ap_ldc2 (v := 9) wd_982 dX12_valley_3 ?_
  refine ap_callS (As := [.long x1.toInt64, .long (0 : Int64), .long (9 : Int64)]) (st := []) (st1 := [.int (fX12_in x1.toInt64 (0 : Int64) (9 : Int64))]) (mcX12_in  (w := w) (zx := fX12_in x1.toInt64 (0 : Int64) (9 : Int64)) rfl) cs_X12_61 ⟨rfl, rfl, by decide, by decide⟩ rfl (Nat.le_of_ble_eq_true rfl) ⟨Nat.zero_le _, Nat.zero_le _⟩ dX12_valley_6 rfl rfl ?_
  refine ap_if_ne (tgt := 19) dX12_valley_9 (by decide) (fun hc1 => ?_) (fun hc1 => ?_)
  · rw [if_neg hc1] at h
    refine ap_aload_n dX12_valley_19 0 rfl rfl ?_
    refine ap_callV (k := 77) (As := []) (st := []) (st1 := [.int (fX12_candles w)]) (mcX12_candles  (w := w) (zx := fX12_candles w) rfl) cv_X12_57 rfl ly_77 ⟨rfl, rfl, by decide, by decide⟩ rfl (Nat.le_of_ble_eq_true rfl) ⟨Nat.zero_le _, Nat.zero_le _⟩ dX12_valley_20 rfl rfl ?_
    refine ap_istore_n (i := 2) (lv' := [(2, .int (fX12_candles w)), (0, .ref (K.1 77)), (1, .int x1)]) dX12_valley_23 rfl (by decide) rfl ?_
    refine ap_aload_n dX12_valley_24 1 rfl rfl ?_
    refine ap_get (v := .ref (K.1 78)) fl_X12_7 ly_77 rfl rfl dX12_valley_25 ?_
    refine ap_iload_n dX12_valley_28 2 rfl rfl ?_
    obtain ⟨m2, hm2, h⟩ := Option.bind_eq_some_iff.mp h
    refine ap_callS (As := [.ref (K.1 78), .int x1]) (st := []) (st1 := []) (mcX12_begin ly_78 hm2) cs_X12_79 ⟨rfl, rfl, by decide, by decide⟩ rfl (Nat.le_of_ble_eq_true rfl) ⟨Nat.zero_le _, Nat.zero_le _⟩ dX12_valley_29 rfl rfl ?_
    refine ap_iload_n dX12_valley_32 0 rfl rfl ?_
    obtain ⟨rfl, rfl⟩ := Prod.mk.inj (Option.some.inj h)
    exact ap_iret rfl dX12_valley_33
  · rw [if_pos hc1] at h
    refine ap_aload_n dX12_valley_12 0 rfl rfl ?_
    refine ap_bipush (v := -2) dX12_valley_13 (by decide) ?_
    obtain ⟨a3, m4, ha3, h⟩ := ob2_iff h
    refine ap_callV (k := 77) (As := [.int (-2 : Int32)]) (st := []) (st1 := [.int a3]) (mcX12_bad  (Option.some.inj ha3)) cv_X12_75 rfl ly_77 ⟨rfl, rfl, by decide, by decide⟩ rfl (Nat.le_of_ble_eq_true rfl) ⟨Nat.zero_le _, Nat.zero_le _⟩ dX12_valley_15 rfl rfl ?_
    obtain ⟨rfl, rfl⟩ := Prod.mk.inj (Option.some.inj h)
    exact ap_iret rfl dX12_valley_18
theorem mcX12_valley {l : Launch} {K : Kt} {N : Nat}  {w : Mm} {x1 : Int32} {zx : Int32} {zw : Mm} (h : fX12_valley N w x1 = some (zx, zw)) : MC l K yX12_valley cX12_valley 3 (some .int) rmX12_valley w [.ref (K.1 77), .int x1] (some (.int zx)) zw :=
  MC.of (by decide) (Nat.le_of_ble_eq_true rfl) rfl (AX12_valley  h)
def fX12_fog (w : Mm) (x1 : Int32) : (Int32 × Mm) :=
if (fX12_in x1.toInt64 (0 : Int64) (9 : Int64)) = (0 : Int32) then (
((fX12_bad w (-2 : Int32)).1, (fX12_bad w (-2 : Int32)).2))
else (
((w.1 78 1), (sI w 78 1 x1)))
set_option maxRecDepth 100000 in
set_option maxHeartbeats 4000000 in
theorem AX12_fog {l : Launch} {K : Kt}  {w : Mm} {x1 : Int32} {zx : Int32} {zw : Mm} (h : fX12_fog w x1 = (zx, zw)) : AW l K cX12_fog RX12 3 (some .int) rmX12_fog 0 0 ap_E (ap_F K (some (.int zx)) zw) w 0 [(0, .ref (K.1 77)), (1, .int x1)] [] := by
  unfold fX12_fog at h
  refine ap_iload_n dX12_fog_0 1 rfl rfl ?_
  refine ap_i2l (v := x1.toInt64) dX12_fog_1 rfl ?_
  refine ap_lconst (v := 0) dX12_fog_2 (by decide) ?_
  refine ap_ldc2 (v := 9) wd_982 dX12_fog_3 ?_
  refine ap_callS (As := [.long x1.toInt64, .long (0 : Int64), .long (9 : Int64)]) (st := []) (st1 := [.int (fX12_in x1.toInt64 (0 : Int64) (9 : Int64))]) (mcX12_in  (w := w) (zx := fX12_in x1.toInt64 (0 : Int64) (9 : Int64)) rfl) cs_X12_61 ⟨rfl, rfl, by decide, by decide⟩ rfl (Nat.le_of_ble_eq_true rfl) ⟨Nat.zero_le _, Nat.zero_le _⟩ dX12_fog_6 rfl rfl ?_
  refine ap_if_ne (tgt := 19) dX12_fog_9 (by decide) (fun hc1 => ?_) (fun hc1 => ?_)
  · rw [if_neg hc1] at h
    refine ap_aload_n dX12_fog_19 0 rfl rfl ?_
    refine ap_get (v := .ref (K.1 78)) fl_X12_7 ly_77 rfl rfl dX12_fog_20 ?_
    refine ap_iconst (v := 1) dX12_fog_23 (by decide) ?_
    refine ap_iald (x := (w.1 78 1)) ly_78 (rdA_c (by decide) (by decide)) dX12_fog_24 ?_
    refine ap_istore_n (i := 2) (lv' := [(2, .int (w.1 78 1)), (0, .ref (K.1 77)), (1, .int x1)]) dX12_fog_25 rfl (by decide) rfl ?_
    refine ap_aload_n dX12_fog_26 1 rfl rfl ?_
    refine ap_get (v := .ref (K.1 78)) fl_X12_7 ly_77 rfl rfl dX12_fog_27 ?_
    refine ap_iconst (v := 1) dX12_fog_30 (by decide) ?_
    refine ap_iload_n dX12_fog_31 2 rfl rfl ?_
    refine ap_iast (w1 := sI w 78 1 x1) ly_78 (wrA_c (by decide) (by decide)) dX12_fog_32 ?_
    refine ap_iload_n dX12_fog_33 0 rfl rfl ?_
    obtain ⟨rfl, rfl⟩ := Prod.mk.inj h
    exact ap_iret rfl dX12_fog_34
  · rw [if_pos hc1] at h
    refine ap_aload_n dX12_fog_12 0 rfl rfl ?_
    refine ap_bipush (v := -2) dX12_fog_13 (by decide) ?_
    refine ap_callV (k := 77) (As := [.int (-2 : Int32)]) (st := []) (st1 := [.int ((fX12_bad w (-2 : Int32)).1)]) (mcX12_bad  (zx := (fX12_bad w (-2 : Int32)).1) (zw := (fX12_bad w (-2 : Int32)).2) rfl) cv_X12_75 rfl ly_77 ⟨rfl, rfl, by decide, by decide⟩ rfl (Nat.le_of_ble_eq_true rfl) ⟨Nat.zero_le _, Nat.zero_le _⟩ dX12_fog_15 rfl rfl ?_
    obtain ⟨rfl, rfl⟩ := Prod.mk.inj h
    exact ap_iret rfl dX12_fog_18
theorem mcX12_fog {l : Launch} {K : Kt}  {w : Mm} {x1 : Int32} {zx : Int32} {zw : Mm} (h : fX12_fog w x1 = (zx, zw)) : MC l K yX12_fog cX12_fog 3 (some .int) rmX12_fog w [.ref (K.1 77), .int x1] (some (.int zx)) zw :=
  MC.of (by decide) (Nat.le_of_ble_eq_true rfl) rfl (AX12_fog  h)

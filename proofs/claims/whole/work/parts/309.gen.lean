def fX12_put_L15 (N : Nat) (w : Mm) : Option (Int32 × Mm) :=
ob2 (some (fX12_bad w (-2 : Int32))) fun a10 m11 =>
some (a10, m11)
set_option maxRecDepth 100000 in
set_option maxHeartbeats 4000000 in
theorem AX12_put_L15 {l : Launch} {K : Kt} {N : Nat}   {w : Mm} {zx : Int32} {zw : Mm} (h : fX12_put_L15 N w = some (zx, zw)) : AW l K cX12_put RX12 7 (some .int) rmX12_put 0 0 ap_E (ap_F K (some (.int zx)) zw) w 15 [(0, .ref (K.1 77))] [] := by
  unfold fX12_put_L15 at h
  refine ap_aload_n dX12_put_15 0 rfl rfl ?_
  refine ap_bipush (v := -2) dX12_put_16 (by decide) ?_
  obtain ⟨a10, m11, ha10, h⟩ := ob2_iff h
  refine ap_callV (k := 77) (As := [.int (-2 : Int32)]) (st := []) (st1 := [.int a10]) (mcX12_bad  (Option.some.inj ha10)) cv_X12_75 rfl ly_77 ⟨rfl, rfl, by decide, by decide⟩ rfl (Nat.le_of_ble_eq_true rfl) ⟨Nat.zero_le _, Nat.zero_le _⟩ dX12_put_18 rfl rfl ?_
  obtain ⟨rfl, rfl⟩ := Prod.mk.inj (Option.some.inj h)
  exact ap_iret rfl dX12_put_21
def fX12_put_L75 (N : Nat) (k34 : Mm → Int32 → Int32 → Int32 → Int32 → Int32 → Option (Int32 × Mm)) (w : Mm) (x1 : Int32) (x2 : Int32) (x4 : Int32) (x5 : Int32) (x6 : Int32) (t0 : Int32) : Option (Int32 × Mm) :=
if x6 ≤ x4 then (
k34 w x1 x2 t0 x4 (x5 + 1))
else (
k34 w x1 x2 t0 x6 (x5 + 1))
set_option maxRecDepth 100000 in
set_option maxHeartbeats 4000000 in
theorem AX12_put_L75 {l : Launch} {K : Kt} {N : Nat} {k34 : Mm → Int32 → Int32 → Int32 → Int32 → Int32 → Option (Int32 × Mm)} (hk34 : ∀ (w : Mm) (x1 : Int32) (x2 : Int32) (x3 : Int32) (x4 : Int32) (x5 : Int32) (zx : Int32) (zw : Mm), k34 w x1 x2 x3 x4 x5 = some (zx, zw) → AW l K cX12_put RX12 7 (some .int) rmX12_put 0 0 ap_E (ap_F K (some (.int zx)) zw) w 34 [(0, .ref (K.1 77)), (1, .int x1), (2, .int x2), (3, .int x3), (4, .int x4), (5, .int x5)] [])  {w : Mm} {x1 : Int32} {x2 : Int32} {x4 : Int32} {x5 : Int32} {x6 : Int32} {t0 : Int32} {zx : Int32} {zw : Mm} (h : fX12_put_L75 N k34 w x1 x2 x4 x5 x6 t0 = some (zx, zw)) : AW l K cX12_put RX12 7 (some .int) rmX12_put 0 0 ap_E (ap_F K (some (.int zx)) zw) w 75 [(0, .ref (K.1 77)), (1, .int x1), (2, .int x2), (4, .int x4), (5, .int x5), (6, .int x6)] [.int t0] := by
  unfold fX12_put_L75 at h
  refine ap_istore_n (i := 3) (lv' := [(3, .int t0), (0, .ref (K.1 77)), (1, .int x1), (2, .int x2), (4, .int x4), (5, .int x5), (6, .int x6)]) dX12_put_75 rfl (by decide) rfl ?_
  refine ap_iload dX12_put_76 6 rfl ?_
  refine ap_iload dX12_put_78 4 rfl ?_
  refine ap_icmp_le (tgt := 88) dX12_put_80 (by decide) (fun hc9 => ?_) (fun hc9 => ?_)
  · rw [if_pos hc9] at h
    refine ap_iload dX12_put_88 4 rfl ?_
    refine ap_istore (i := 4) (lv' := [(4, .int x4), (3, .int t0), (0, .ref (K.1 77)), (1, .int x1), (2, .int x2), (5, .int x5), (6, .int x6)]) dX12_put_90 (by decide) rfl ?_
    refine ap_iinc (v := x5 + 1) (lv' := [(5, .int (x5 + 1)), (4, .int x4), (3, .int t0), (0, .ref (K.1 77)), (1, .int x1), (2, .int x2), (6, .int x6)]) dX12_put_92 5 rfl rfl (by decide) rfl ?_
    refine ap_goto (tgt := 34) dX12_put_95 (by decide) ?_
    refine ap_sub [3, 4, 5, 2, 1, 0] rfl ?_
    exact hk34 _ _ _ _ _ _ _ _ h
  · rw [if_neg hc9] at h
    refine ap_iload dX12_put_83 6 rfl ?_
    refine ap_goto (tgt := 90) dX12_put_85 (by decide) ?_
    refine ap_istore (i := 4) (lv' := [(4, .int x6), (3, .int t0), (0, .ref (K.1 77)), (1, .int x1), (2, .int x2), (5, .int x5), (6, .int x6)]) dX12_put_90 (by decide) rfl ?_
    refine ap_iinc (v := x5 + 1) (lv' := [(5, .int (x5 + 1)), (4, .int x6), (3, .int t0), (0, .ref (K.1 77)), (1, .int x1), (2, .int x2), (6, .int x6)]) dX12_put_92 5 rfl rfl (by decide) rfl ?_
    refine ap_goto (tgt := 34) dX12_put_95 (by decide) ?_
    refine ap_sub [3, 4, 5, 2, 1, 0] rfl ?_
    exact hk34 _ _ _ _ _ _ _ _ h
def fX12_put_L34 (N : Nat) : Nat → Mm → Int32 → Int32 → Int32 → Int32 → Int32 → Option (Int32 × Mm)
  | 0, _, _, _, _, _, _ => none
  | n0 + 1, w, x1, x2, x3, x4, x5 => if (64 : Int32) ≤ x5 then (
some (x3, w))
else (
Option.bind (wrA w 82 7 x1 x5) fun m5 =>
Option.bind (rdA m5 83 7 x1) fun a6 =>
Option.bind (fX12_acresOf N m5 a6 x2) fun a7 =>
if a7 ≤ x4 then (
fX12_put_L75 N (fX12_put_L34 N n0) m5 x1 x2 x4 x5 a7 x3)
else (
fX12_put_L75 N (fX12_put_L34 N n0) m5 x1 x2 x4 x5 a7 x5))
set_option maxRecDepth 100000 in
set_option maxHeartbeats 4000000 in
theorem AX12_put_L34 {l : Launch} {K : Kt} {N : Nat}   : ∀ (n0 : Nat) (w : Mm) (x1 : Int32) (x2 : Int32) (x3 : Int32) (x4 : Int32) (x5 : Int32) {zx : Int32} {zw : Mm}, fX12_put_L34 N n0 w x1 x2 x3 x4 x5 = some (zx, zw) → AW l K cX12_put RX12 7 (some .int) rmX12_put 0 0 ap_E (ap_F K (some (.int zx)) zw) w 34 [(0, .ref (K.1 77)), (1, .int x1), (2, .int x2), (3, .int x3), (4, .int x4), (5, .int x5)] [] := by
  intro n0
  induction n0 with
  | zero =>
    intro w x1 x2 x3 x4 x5 zx zw h
    cases h
  | succ n0 ih =>
    intro w x1 x2 x3 x4 x5 zx zw h
    rw [fX12_put_L34] at h
    refine ap_iload dX12_put_34 5 rfl ?_
    refine ap_bipush (v := 64) dX12_put_36 (by decide) ?_
    refine ap_icmp_ge (tgt := 98) dX12_put_38 (by decide) (fun hc4 => ?_) (fun hc4 => ?_)
    · rw [if_pos hc4] at h
      refine ap_iload_n dX12_put_98 3 rfl rfl ?_
      obtain ⟨rfl, rfl⟩ := Prod.mk.inj (Option.some.inj h)
      exact ap_iret rfl dX12_put_99
    · rw [if_neg hc4] at h
      refine ap_aload_n dX12_put_41 0 rfl rfl ?_
      refine ap_get (v := .ref (K.1 82)) fl_X12_27 ly_77 rfl rfl dX12_put_42 ?_
      refine ap_iload_n dX12_put_45 1 rfl rfl ?_
      refine ap_iload dX12_put_46 5 rfl ?_
      obtain ⟨m5, hm5, h⟩ := Option.bind_eq_some_iff.mp h
      refine ap_iast ly_82 hm5 dX12_put_48 ?_
      refine ap_aload_n dX12_put_49 0 rfl rfl ?_
      refine ap_aload_n dX12_put_50 0 rfl rfl ?_
      refine ap_get (v := .ref (K.1 83)) fl_X12_30 ly_77 rfl rfl dX12_put_51 ?_
      refine ap_iload_n dX12_put_54 1 rfl rfl ?_
      obtain ⟨a6, ha6, h⟩ := Option.bind_eq_some_iff.mp h
      refine ap_iald ly_83 ha6 dX12_put_55 ?_
      refine ap_iload_n dX12_put_56 2 rfl rfl ?_
      obtain ⟨a7, ha7, h⟩ := Option.bind_eq_some_iff.mp h
      refine ap_callV (k := 77) (As := [.int a6, .int x2]) (st := []) (st1 := [.int a7]) (mcX12_acresOf  (w := m5) ha7) cv_X12_172 rfl ly_77 ⟨rfl, rfl, by decide, by decide⟩ rfl (Nat.le_of_ble_eq_true rfl) ⟨Nat.zero_le _, Nat.zero_le _⟩ dX12_put_57 rfl rfl ?_
      refine ap_istore (i := 6) (lv' := [(6, .int a7), (0, .ref (K.1 77)), (1, .int x1), (2, .int x2), (3, .int x3), (4, .int x4), (5, .int x5)]) dX12_put_60 (by decide) rfl ?_
      refine ap_iload dX12_put_62 0 rfl ?_
      refine ap_iload dX12_put_64 5 rfl ?_
      refine ap_icmp_le (tgt := 74) dX12_put_66 (by decide) (fun hc8 => ?_) (fun hc8 => ?_)
      · rw [if_pos hc8] at h
        refine ap_iload_n dX12_put_74 4 rfl rfl ?_
        refine ap_sub [1, 2, 3, 5, 6, 0] rfl ?_
        exact AX12_put_L75 (fun q0 q1 q2 q3 q4 q5 q6 q7 hq => ih q0 q1 q2 q3 q4 q5 hq)  h
      · rw [if_neg hc8] at h
        refine ap_iload dX12_put_69 6 rfl ?_
        refine ap_goto (tgt := 75) dX12_put_71 (by decide) ?_
        refine ap_sub [1, 2, 3, 5, 6, 0] rfl ?_
        exact AX12_put_L75 (fun q0 q1 q2 q3 q4 q5 q6 q7 hq => ih q0 q1 q2 q3 q4 q5 hq)  h
def fX12_put (N : Nat) (w : Mm) (x1 : Int32) (x2 : Int32) : Option (Int32 × Mm) :=
if (fX12_isCandle w x1) = (0 : Int32) then (
fX12_put_L15 N w)
else (
if (fX12_isHour x2) = (0 : Int32) then (
fX12_put_L15 N w)
else (
Option.bind (fX12_layHand N w) fun m3 =>
fX12_put_L34 N N m3 x1 x2 (0 : Int32) (-1 : Int32) (0 : Int32)))
set_option maxRecDepth 100000 in
set_option maxHeartbeats 4000000 in
theorem AX12_put {l : Launch} {K : Kt} {N : Nat}  {w : Mm} {x1 : Int32} {x2 : Int32} {zx : Int32} {zw : Mm} (h : fX12_put N w x1 x2 = some (zx, zw)) : AW l K cX12_put RX12 7 (some .int) rmX12_put 0 0 ap_E (ap_F K (some (.int zx)) zw) w 0 [(0, .ref (K.1 77)), (1, .int x1), (2, .int x2)] [] := by
  unfold fX12_put at h
  refine ap_aload_n dX12_put_0 0 rfl rfl ?_
  refine ap_iload_n dX12_put_1 1 rfl rfl ?_
  refine ap_callV (k := 77) (As := [.int x1]) (st := []) (st1 := [.int (fX12_isCandle w x1)]) (mcX12_isCandle  (w := w) (zx := fX12_isCandle w x1) rfl) cv_X12_108 rfl ly_77 ⟨rfl, rfl, by decide, by decide⟩ rfl (Nat.le_of_ble_eq_true rfl) ⟨Nat.zero_le _, Nat.zero_le _⟩ dX12_put_2 rfl rfl ?_
  refine ap_if_eq (tgt := 15) dX12_put_5 (by decide) (fun hc1 => ?_) (fun hc1 => ?_)
  · rw [if_pos hc1] at h
    refine ap_sub [0] rfl ?_
    exact AX12_put_L15   h
  · rw [if_neg hc1] at h
    refine ap_iload_n dX12_put_8 2 rfl rfl ?_
    refine ap_callS (As := [.int x2]) (st := []) (st1 := [.int (fX12_isHour x2)]) (mcX12_isHour  (w := w) (zx := fX12_isHour x2) rfl) cs_X12_151 ⟨rfl, rfl, by decide, by decide⟩ rfl (Nat.le_of_ble_eq_true rfl) ⟨Nat.zero_le _, Nat.zero_le _⟩ dX12_put_9 rfl rfl ?_
    refine ap_if_ne (tgt := 22) dX12_put_12 (by decide) (fun hc2 => ?_) (fun hc2 => ?_)
    · rw [if_neg hc2] at h
      refine ap_iconst (v := 0) dX12_put_22 (by decide) ?_
      refine ap_istore_n (i := 3) (lv' := [(3, .int (0 : Int32)), (0, .ref (K.1 77)), (1, .int x1), (2, .int x2)]) dX12_put_23 rfl (by decide) rfl ?_
      refine ap_iconst (v := -1) dX12_put_24 (by decide) ?_
      refine ap_istore (i := 4) (lv' := [(4, .int (-1 : Int32)), (3, .int (0 : Int32)), (0, .ref (K.1 77)), (1, .int x1), (2, .int x2)]) dX12_put_25 (by decide) rfl ?_
      refine ap_aload_n dX12_put_27 2 rfl rfl ?_
      obtain ⟨m3, hm3, h⟩ := Option.bind_eq_some_iff.mp h
      refine ap_callV (k := 77) (As := []) (st := []) (st1 := []) (mcX12_layHand  hm3) cv_X12_154 rfl ly_77 ⟨rfl, rfl, by decide, by decide⟩ rfl (Nat.le_of_ble_eq_true rfl) ⟨Nat.zero_le _, Nat.zero_le _⟩ dX12_put_28 rfl rfl ?_
      refine ap_iconst (v := 0) dX12_put_31 (by decide) ?_
      refine ap_istore (i := 5) (lv' := [(5, .int (0 : Int32)), (4, .int (-1 : Int32)), (3, .int (0 : Int32)), (0, .ref (K.1 77)), (1, .int x1), (2, .int x2)]) dX12_put_32 (by decide) rfl ?_
      refine ap_sub [3, 4, 5, 2, 1, 0] rfl ?_
      exact AX12_put_L34  N _ _ _ _ _ _ h
    · rw [if_pos hc2] at h
      refine ap_sub [0] rfl ?_
      exact AX12_put_L15   h
theorem mcX12_put {l : Launch} {K : Kt} {N : Nat}  {w : Mm} {x1 : Int32} {x2 : Int32} {zx : Int32} {zw : Mm} (h : fX12_put N w x1 x2 = some (zx, zw)) : MC l K yX12_put cX12_put 7 (some .int) rmX12_put w [.ref (K.1 77), .int x1, .int x2] (some (.int zx)) zw :=
  MC.of (by decide) (Nat.le_of_ble_eq_true rfl) rfl (AX12_put  h)
def fX12_isBeside (x1 : Int32) (x2 : Int32) : Int32 :=
if (fX12_far x1 x2) = (1 : Int32) then (
(1 : Int32))
else (
(0 : Int32))
set_option maxRecDepth 100000 in
set_option maxHeartbeats 4000000 in
theorem AX12_isBeside {l : Launch} {K : Kt} {w : Mm}  {x1 : Int32} {x2 : Int32} {zx : Int32} (h : fX12_isBeside x1 x2 = zx) : AW l K cX12_isBeside RX12 3 (some .boolean) rmX12_isBeside 0 0 ap_E (ap_F K (some (.int zx)) w) w 0 [(0, .ref (K.1 77)), (1, .int x1), (2, .int x2)] [] := by
  unfold fX12_isBeside at h
  refine ap_iload_n dX12_isBeside_0 1 rfl rfl ?_
  refine ap_iload_n dX12_isBeside_1 2 rfl rfl ?_
  refine ap_callS (As := [.int x1, .int x2]) (st := []) (st1 := [.int (fX12_far x1 x2)]) (mcX12_far  (w := w) (zx := fX12_far x1 x2) rfl) cs_X12_133 ⟨rfl, rfl, by decide, by decide⟩ rfl (Nat.le_of_ble_eq_true rfl) ⟨Nat.zero_le _, Nat.zero_le _⟩ dX12_isBeside_2 rfl rfl ?_
  refine ap_iconst (v := 1) dX12_isBeside_5 (by decide) ?_
  refine ap_icmp_ne (tgt := 13) dX12_isBeside_6 (by decide) (fun hc1 => ?_) (fun hc1 => ?_)
  · rw [if_neg hc1] at h
    refine ap_iconst (v := 0) dX12_isBeside_13 (by decide) ?_
    subst h
    exact ap_zret rfl (Or.inl rfl) dX12_isBeside_14
  · rw [if_pos hc1] at h
    refine ap_iconst (v := 1) dX12_isBeside_9 (by decide) ?_
    refine ap_goto (tgt := 14) dX12_isBeside_10 (by decide) ?_
    subst h
    exact ap_zret rfl (Or.inr rfl) dX12_isBeside_14
theorem mcX12_isBeside {l : Launch} {K : Kt} {w : Mm}  {x1 : Int32} {x2 : Int32} {zx : Int32} (h : fX12_isBeside x1 x2 = zx) : MC l K yX12_isBeside cX12_isBeside 3 (some .boolean) rmX12_isBeside w [.ref (K.1 77), .int x1, .int x2] (some (.int zx)) w :=
  MC.of (by decide) (Nat.le_of_ble_eq_true rfl) rfl (AX12_isBeside  h)
def fX12_laySteps_L167 (N : Nat) (k49 : Mm → Int32 → Int32 → Int32 → Option Mm) (k60 : Mm → Int32 → Int32 → Int32 → Int32 → Option Mm) (k88 : Mm → Int32 → Int32 → Int32 → Int32 → Int32 → Int32 → Option Mm) (w : Mm) (x2 : Int32) (x3 : Int32) (x4 : Int32) (x5 : Int32) (x6 : Int32) (x7 : Int32) (x8 : Int32) (t0 : Int32) (t1 : Int32) : Option Mm :=
Option.bind (wrA w 84 64 t1 t0) fun m19 =>
if x4 = (0 : Int32) then (
if x8 = (0 : Int32) then (
k88 m19 x2 x3 (0 : Int32) x5 x6 (x7 + 1))
else (
k88 m19 x2 x3 (1 : Int32) x5 x6 (x7 + 1)))
else (
k88 m19 x2 x3 (1 : Int32) x5 x6 (x7 + 1))
set_option maxRecDepth 100000 in
set_option maxHeartbeats 4000000 in
theorem AX12_laySteps_L167 {l : Launch} {K : Kt} {N : Nat} {k49 : Mm → Int32 → Int32 → Int32 → Option Mm} {k60 : Mm → Int32 → Int32 → Int32 → Int32 → Option Mm} {k88 : Mm → Int32 → Int32 → Int32 → Int32 → Int32 → Int32 → Option Mm} (hk49 : ∀ (w : Mm) (x2 : Int32) (x3 : Int32) (x4 : Int32) (zw : Mm), k49 w x2 x3 x4 = some zw → AW l K cX12_laySteps RX12 9 none rmX12_laySteps 0 0 ap_E (ap_F K none zw) w 49 [(0, .ref (K.1 77)), (2, .int x2), (3, .int x3), (4, .int x4)] []) (hk60 : ∀ (w : Mm) (x2 : Int32) (x3 : Int32) (x4 : Int32) (x5 : Int32) (zw : Mm), k60 w x2 x3 x4 x5 = some zw → AW l K cX12_laySteps RX12 9 none rmX12_laySteps 0 0 ap_E (ap_F K none zw) w 60 [(0, .ref (K.1 77)), (2, .int x2), (3, .int x3), (4, .int x4), (5, .int x5)] []) (hk88 : ∀ (w : Mm) (x2 : Int32) (x3 : Int32) (x4 : Int32) (x5 : Int32) (x6 : Int32) (x7 : Int32) (zw : Mm), k88 w x2 x3 x4 x5 x6 x7 = some zw → AW l K cX12_laySteps RX12 9 none rmX12_laySteps 0 0 ap_E (ap_F K none zw) w 88 [(0, .ref (K.1 77)), (2, .int x2), (3, .int x3), (4, .int x4), (5, .int x5), (6, .int x6), (7, .int x7)] [])  {w : Mm} {x2 : Int32} {x3 : Int32} {x4 : Int32} {x5 : Int32} {x6 : Int32} {x7 : Int32} {x8 : Int32} {t0 : Int32} {t1 : Int32} {zw : Mm} (h : fX12_laySteps_L167 N k49 k60 k88 w x2 x3 x4 x5 x6 x7 x8 t0 t1 = some zw) : AW l K cX12_laySteps RX12 9 none rmX12_laySteps 0 0 ap_E (ap_F K none zw) w 167 [(0, .ref (K.1 77)), (2, .int x2), (3, .int x3), (4, .int x4), (5, .int x5), (6, .int x6), (7, .int x7), (8, .int x8)] [.int t0, .int t1, .ref (K.1 84)] := by
  unfold fX12_laySteps_L167 at h
  obtain ⟨m19, hm19, h⟩ := Option.bind_eq_some_iff.mp h
  refine ap_iast ly_84 hm19 dX12_laySteps_167 ?_
  refine ap_iload dX12_laySteps_168 3 rfl ?_
  refine ap_if_ne (tgt := 178) dX12_laySteps_170 (by decide) (fun hc20 => ?_) (fun hc20 => ?_)
  · rw [if_neg hc20] at h
    refine ap_iconst (v := 1) dX12_laySteps_178 (by decide) ?_
    refine ap_goto (tgt := 183) dX12_laySteps_179 (by decide) ?_
    refine ap_istore (i := 4) (lv' := [(4, .int (1 : Int32)), (0, .ref (K.1 77)), (2, .int x2), (3, .int x3), (5, .int x5), (6, .int x6), (7, .int x7), (8, .int x8)]) dX12_laySteps_183 (by decide) rfl ?_
    refine ap_iinc (v := x7 + 1) (lv' := [(7, .int (x7 + 1)), (4, .int (1 : Int32)), (0, .ref (K.1 77)), (2, .int x2), (3, .int x3), (5, .int x5), (6, .int x6), (8, .int x8)]) dX12_laySteps_185 6 rfl rfl (by decide) rfl ?_
    refine ap_goto (tgt := 88) dX12_laySteps_188 (by decide) ?_
    refine ap_sub [2, 3, 4, 1, 5, 6, 0] rfl ?_
    exact hk88 _ _ _ _ _ _ _ _ h
  · rw [if_pos hc20] at h
    refine ap_iload dX12_laySteps_173 7 rfl ?_
    refine ap_if_eq (tgt := 182) dX12_laySteps_175 (by decide) (fun hc21 => ?_) (fun hc21 => ?_)
    · rw [if_pos hc21] at h
      refine ap_iconst (v := 0) dX12_laySteps_182 (by decide) ?_
      refine ap_istore (i := 4) (lv' := [(4, .int (0 : Int32)), (0, .ref (K.1 77)), (2, .int x2), (3, .int x3), (5, .int x5), (6, .int x6), (7, .int x7), (8, .int x8)]) dX12_laySteps_183 (by decide) rfl ?_
      refine ap_iinc (v := x7 + 1) (lv' := [(7, .int (x7 + 1)), (4, .int (0 : Int32)), (0, .ref (K.1 77)), (2, .int x2), (3, .int x3), (5, .int x5), (6, .int x6), (8, .int x8)]) dX12_laySteps_185 6 rfl rfl (by decide) rfl ?_
      refine ap_goto (tgt := 88) dX12_laySteps_188 (by decide) ?_
      refine ap_sub [2, 3, 4, 1, 5, 6, 0] rfl ?_
      exact hk88 _ _ _ _ _ _ _ _ h
    · rw [if_neg hc21] at h
      refine ap_iconst (v := 1) dX12_laySteps_178 (by decide) ?_
      refine ap_goto (tgt := 183) dX12_laySteps_179 (by decide) ?_
      refine ap_istore (i := 4) (lv' := [(4, .int (1 : Int32)), (0, .ref (K.1 77)), (2, .int x2), (3, .int x3), (5, .int x5), (6, .int x6), (7, .int x7), (8, .int x8)]) dX12_laySteps_183 (by decide) rfl ?_
      refine ap_iinc (v := x7 + 1) (lv' := [(7, .int (x7 + 1)), (4, .int (1 : Int32)), (0, .ref (K.1 77)), (2, .int x2), (3, .int x3), (5, .int x5), (6, .int x6), (8, .int x8)]) dX12_laySteps_185 6 rfl rfl (by decide) rfl ?_
      refine ap_goto (tgt := 88) dX12_laySteps_188 (by decide) ?_
      refine ap_sub [2, 3, 4, 1, 5, 6, 0] rfl ?_
      exact hk88 _ _ _ _ _ _ _ _ h
def fX12_laySteps_L135 (N : Nat) (k49 : Mm → Int32 → Int32 → Int32 → Option Mm) (k60 : Mm → Int32 → Int32 → Int32 → Int32 → Option Mm) (k88 : Mm → Int32 → Int32 → Int32 → Int32 → Int32 → Int32 → Option Mm) (w : Mm) (x2 : Int32) (x3 : Int32) (x4 : Int32) (x5 : Int32) (x6 : Int32) (x7 : Int32) (t0 : Int32) : Option Mm :=
if t0 = (0 : Int32) then (
Option.bind (rdA w 84 64 x5) fun a17 =>
fX12_laySteps_L167 N k49 k60 k88 w x2 x3 x4 x5 x6 x7 t0 a17 x5)
else (
Option.bind (rdA w 84 64 x7) fun a18 =>
fX12_laySteps_L167 N k49 k60 k88 w x2 x3 x4 x5 x6 x7 t0 (a18 + (1 : Int32)) x5)
set_option maxRecDepth 100000 in
set_option maxHeartbeats 4000000 in
theorem AX12_laySteps_L135 {l : Launch} {K : Kt} {N : Nat} {k49 : Mm → Int32 → Int32 → Int32 → Option Mm} {k60 : Mm → Int32 → Int32 → Int32 → Int32 → Option Mm} {k88 : Mm → Int32 → Int32 → Int32 → Int32 → Int32 → Int32 → Option Mm} (hk49 : ∀ (w : Mm) (x2 : Int32) (x3 : Int32) (x4 : Int32) (zw : Mm), k49 w x2 x3 x4 = some zw → AW l K cX12_laySteps RX12 9 none rmX12_laySteps 0 0 ap_E (ap_F K none zw) w 49 [(0, .ref (K.1 77)), (2, .int x2), (3, .int x3), (4, .int x4)] []) (hk60 : ∀ (w : Mm) (x2 : Int32) (x3 : Int32) (x4 : Int32) (x5 : Int32) (zw : Mm), k60 w x2 x3 x4 x5 = some zw → AW l K cX12_laySteps RX12 9 none rmX12_laySteps 0 0 ap_E (ap_F K none zw) w 60 [(0, .ref (K.1 77)), (2, .int x2), (3, .int x3), (4, .int x4), (5, .int x5)] []) (hk88 : ∀ (w : Mm) (x2 : Int32) (x3 : Int32) (x4 : Int32) (x5 : Int32) (x6 : Int32) (x7 : Int32) (zw : Mm), k88 w x2 x3 x4 x5 x6 x7 = some zw → AW l K cX12_laySteps RX12 9 none rmX12_laySteps 0 0 ap_E (ap_F K none zw) w 88 [(0, .ref (K.1 77)), (2, .int x2), (3, .int x3), (4, .int x4), (5, .int x5), (6, .int x6), (7, .int x7)] [])  {w : Mm} {x2 : Int32} {x3 : Int32} {x4 : Int32} {x5 : Int32} {x6 : Int32} {x7 : Int32} {t0 : Int32} {zw : Mm} (h : fX12_laySteps_L135 N k49 k60 k88 w x2 x3 x4 x5 x6 x7 t0 = some zw) : AW l K cX12_laySteps RX12 9 none rmX12_laySteps 0 0 ap_E (ap_F K none zw) w 135 [(0, .ref (K.1 77)), (2, .int x2), (3, .int x3), (4, .int x4), (5, .int x5), (6, .int x6), (7, .int x7)] [.int t0] := by
  unfold fX12_laySteps_L135 at h
  refine ap_istore (i := 8) (lv' := [(8, .int t0), (0, .ref (K.1 77)), (2, .int x2), (3, .int x3), (4, .int x4), (5, .int x5), (6, .int x6), (7, .int x7)]) dX12_laySteps_135 (by decide) rfl ?_
  refine ap_aload_n dX12_laySteps_137 1 rfl rfl ?_
  refine ap_get (v := .ref (K.1 84)) fl_X12_33 ly_77 rfl rfl dX12_laySteps_138 ?_
  refine ap_iload dX12_laySteps_141 5 rfl ?_
  refine ap_iload dX12_laySteps_143 0 rfl ?_
  refine ap_if_eq (tgt := 160) dX12_laySteps_145 (by decide) (fun hc16 => ?_) (fun hc16 => ?_)
  · rw [if_pos hc16] at h
    refine ap_aload_n dX12_laySteps_160 1 rfl rfl ?_
    refine ap_get (v := .ref (K.1 84)) fl_X12_33 ly_77 rfl rfl dX12_laySteps_161 ?_
    refine ap_iload dX12_laySteps_164 5 rfl ?_
    obtain ⟨a17, ha17, h⟩ := Option.bind_eq_some_iff.mp h
    refine ap_iald ly_84 ha17 dX12_laySteps_166 ?_
    refine ap_sub [1, 2, 3, 4, 5, 6, 7, 0] rfl ?_
    exact AX12_laySteps_L167 hk49 hk60 hk88  h
  · rw [if_neg hc16] at h
    refine ap_aload_n dX12_laySteps_148 1 rfl rfl ?_
    refine ap_get (v := .ref (K.1 84)) fl_X12_33 ly_77 rfl rfl dX12_laySteps_149 ?_
    refine ap_iload dX12_laySteps_152 7 rfl ?_
    obtain ⟨a18, ha18, h⟩ := Option.bind_eq_some_iff.mp h
    refine ap_iald ly_84 ha18 dX12_laySteps_154 ?_
    refine ap_iconst (v := 1) dX12_laySteps_155 (by decide) ?_
    refine ap_iadd dX12_laySteps_156 ?_
    refine ap_goto (tgt := 167) dX12_laySteps_157 (by decide) ?_
    refine ap_sub [1, 2, 3, 4, 5, 6, 7, 0] rfl ?_
    exact AX12_laySteps_L167 hk49 hk60 hk88  h
def fX12_laySteps_L134 (N : Nat) (k49 : Mm → Int32 → Int32 → Int32 → Option Mm) (k60 : Mm → Int32 → Int32 → Int32 → Int32 → Option Mm) (k88 : Mm → Int32 → Int32 → Int32 → Int32 → Int32 → Int32 → Option Mm) (w : Mm) (x2 : Int32) (x3 : Int32) (x4 : Int32) (x5 : Int32) (x6 : Int32) (x7 : Int32) : Option Mm :=
fX12_laySteps_L135 N k49 k60 k88 w x2 x3 x4 x5 x6 x7 (0 : Int32)
set_option maxRecDepth 100000 in
set_option maxHeartbeats 4000000 in
theorem AX12_laySteps_L134 {l : Launch} {K : Kt} {N : Nat} {k49 : Mm → Int32 → Int32 → Int32 → Option Mm} {k60 : Mm → Int32 → Int32 → Int32 → Int32 → Option Mm} {k88 : Mm → Int32 → Int32 → Int32 → Int32 → Int32 → Int32 → Option Mm} (hk49 : ∀ (w : Mm) (x2 : Int32) (x3 : Int32) (x4 : Int32) (zw : Mm), k49 w x2 x3 x4 = some zw → AW l K cX12_laySteps RX12 9 none rmX12_laySteps 0 0 ap_E (ap_F K none zw) w 49 [(0, .ref (K.1 77)), (2, .int x2), (3, .int x3), (4, .int x4)] []) (hk60 : ∀ (w : Mm) (x2 : Int32) (x3 : Int32) (x4 : Int32) (x5 : Int32) (zw : Mm), k60 w x2 x3 x4 x5 = some zw → AW l K cX12_laySteps RX12 9 none rmX12_laySteps 0 0 ap_E (ap_F K none zw) w 60 [(0, .ref (K.1 77)), (2, .int x2), (3, .int x3), (4, .int x4), (5, .int x5)] []) (hk88 : ∀ (w : Mm) (x2 : Int32) (x3 : Int32) (x4 : Int32) (x5 : Int32) (x6 : Int32) (x7 : Int32) (zw : Mm), k88 w x2 x3 x4 x5 x6 x7 = some zw → AW l K cX12_laySteps RX12 9 none rmX12_laySteps 0 0 ap_E (ap_F K none zw) w 88 [(0, .ref (K.1 77)), (2, .int x2), (3, .int x3), (4, .int x4), (5, .int x5), (6, .int x6), (7, .int x7)] [])  {w : Mm} {x2 : Int32} {x3 : Int32} {x4 : Int32} {x5 : Int32} {x6 : Int32} {x7 : Int32} {zw : Mm} (h : fX12_laySteps_L134 N k49 k60 k88 w x2 x3 x4 x5 x6 x7 = some zw) : AW l K cX12_laySteps RX12 9 none rmX12_laySteps 0 0 ap_E (ap_F K none zw) w 134 [(0, .ref (K.1 77)), (2, .int x2), (3, .int x3), (4, .int x4), (5, .int x5), (6, .int x6), (7, .int x7)] [] := by
  unfold fX12_laySteps_L134 at h
  refine ap_iconst (v := 0) dX12_laySteps_134 (by decide) ?_
  exact AX12_laySteps_L135 hk49 hk60 hk88  h
def fX12_laySteps_L88 (N : Nat) (k49 : Mm → Int32 → Int32 → Int32 → Option Mm) (k60 : Mm → Int32 → Int32 → Int32 → Int32 → Option Mm) : Nat → Mm → Int32 → Int32 → Int32 → Int32 → Int32 → Int32 → Option Mm
  | 0, _, _, _, _, _, _, _ => none
  | n0 + 1, w, x2, x3, x4, x5, x6, x7 => if (64 : Int32) ≤ x7 then (
k60 w x2 x3 x4 (x5 + 1))
else (
if x6 = (0 : Int32) then (
k60 w x2 x3 x4 (x5 + 1))
else (
if (fX12_isBeside x5 x7) = (0 : Int32) then (
fX12_laySteps_L134 N k49 k60 (fX12_laySteps_L88 N k49 k60 n0) w x2 x3 x4 x5 x6 x7)
else (
Option.bind (rdA w 84 64 x7) fun a13 =>
Option.bind (rdA w 84 64 x5) fun a14 =>
if a14 ≤ (a13 + (1 : Int32)) then (
fX12_laySteps_L134 N k49 k60 (fX12_laySteps_L88 N k49 k60 n0) w x2 x3 x4 x5 x6 x7)
else (
fX12_laySteps_L135 N k49 k60 (fX12_laySteps_L88 N k49 k60 n0) w x2 x3 x4 x5 x6 x7 (1 : Int32)))))
set_option maxRecDepth 100000 in
set_option maxHeartbeats 4000000 in
theorem AX12_laySteps_L88 {l : Launch} {K : Kt} {N : Nat} {k49 : Mm → Int32 → Int32 → Int32 → Option Mm} {k60 : Mm → Int32 → Int32 → Int32 → Int32 → Option Mm} (hk49 : ∀ (w : Mm) (x2 : Int32) (x3 : Int32) (x4 : Int32) (zw : Mm), k49 w x2 x3 x4 = some zw → AW l K cX12_laySteps RX12 9 none rmX12_laySteps 0 0 ap_E (ap_F K none zw) w 49 [(0, .ref (K.1 77)), (2, .int x2), (3, .int x3), (4, .int x4)] []) (hk60 : ∀ (w : Mm) (x2 : Int32) (x3 : Int32) (x4 : Int32) (x5 : Int32) (zw : Mm), k60 w x2 x3 x4 x5 = some zw → AW l K cX12_laySteps RX12 9 none rmX12_laySteps 0 0 ap_E (ap_F K none zw) w 60 [(0, .ref (K.1 77)), (2, .int x2), (3, .int x3), (4, .int x4), (5, .int x5)] [])  : ∀ (n0 : Nat) (w : Mm) (x2 : Int32) (x3 : Int32) (x4 : Int32) (x5 : Int32) (x6 : Int32) (x7 : Int32) {zw : Mm}, fX12_laySteps_L88 N k49 k60 n0 w x2 x3 x4 x5 x6 x7 = some zw → AW l K cX12_laySteps RX12 9 none rmX12_laySteps 0 0 ap_E (ap_F K none zw) w 88 [(0, .ref (K.1 77)), (2, .int x2), (3, .int x3), (4, .int x4), (5, .int x5), (6, .int x6), (7, .int x7)] [] := by
  intro n0
  induction n0 with
  | zero =>
    intro w x2 x3 x4 x5 x6 x7 zw h
    cases h
  | succ n0 ih =>
    intro w x2 x3 x4 x5 x6 x7 zw h
    rw [fX12_laySteps_L88] at h
    refine ap_iload dX12_laySteps_88 6 rfl ?_
    refine ap_bipush (v := 64) dX12_laySteps_90 (by decide) ?_
    refine ap_icmp_ge (tgt := 191) dX12_laySteps_92 (by decide) (fun hc10 => ?_) (fun hc10 => ?_)
    · rw [if_pos hc10] at h
      refine ap_iinc (v := x5 + 1) (lv' := [(5, .int (x5 + 1)), (0, .ref (K.1 77)), (2, .int x2), (3, .int x3), (4, .int x4), (6, .int x6), (7, .int x7)]) dX12_laySteps_191 4 rfl rfl (by decide) rfl ?_
      refine ap_goto (tgt := 60) dX12_laySteps_194 (by decide) ?_
      refine ap_sub [1, 2, 3, 4, 0] rfl ?_
      exact hk60 _ _ _ _ _ _ h
    · rw [if_neg hc10] at h
      refine ap_iload dX12_laySteps_95 5 rfl ?_
      refine ap_if_eq (tgt := 191) dX12_laySteps_97 (by decide) (fun hc11 => ?_) (fun hc11 => ?_)
      · rw [if_pos hc11] at h
        refine ap_iinc (v := x5 + 1) (lv' := [(5, .int (x5 + 1)), (0, .ref (K.1 77)), (2, .int x2), (3, .int x3), (4, .int x4), (6, .int x6), (7, .int x7)]) dX12_laySteps_191 4 rfl rfl (by decide) rfl ?_
        refine ap_goto (tgt := 60) dX12_laySteps_194 (by decide) ?_
        refine ap_sub [1, 2, 3, 4, 0] rfl ?_
        exact hk60 _ _ _ _ _ _ h
      · rw [if_neg hc11] at h
        refine ap_aload_n dX12_laySteps_100 0 rfl rfl ?_
        refine ap_iload dX12_laySteps_101 4 rfl ?_
        refine ap_iload dX12_laySteps_103 6 rfl ?_
        refine ap_callV (k := 77) (As := [.int x5, .int x7]) (st := []) (st1 := [.int (fX12_isBeside x5 x7)]) (mcX12_isBeside  (w := w) (zx := fX12_isBeside x5 x7) rfl) cv_X12_176 rfl ly_77 ⟨rfl, rfl, by decide, by decide⟩ rfl (Nat.le_of_ble_eq_true rfl) ⟨Nat.zero_le _, Nat.zero_le _⟩ dX12_laySteps_105 rfl rfl ?_
        refine ap_if_eq (tgt := 134) dX12_laySteps_108 (by decide) (fun hc12 => ?_) (fun hc12 => ?_)
        · rw [if_pos hc12] at h
          exact AX12_laySteps_L134 hk49 hk60 (fun q0 q1 q2 q3 q4 q5 q6 q7 hq => ih q0 q1 q2 q3 q4 q5 q6 hq)  h
        · rw [if_neg hc12] at h
          refine ap_aload_n dX12_laySteps_111 0 rfl rfl ?_
          refine ap_get (v := .ref (K.1 84)) fl_X12_33 ly_77 rfl rfl dX12_laySteps_112 ?_
          refine ap_iload dX12_laySteps_115 6 rfl ?_
          obtain ⟨a13, ha13, h⟩ := Option.bind_eq_some_iff.mp h
          refine ap_iald ly_84 ha13 dX12_laySteps_117 ?_
          refine ap_iconst (v := 1) dX12_laySteps_118 (by decide) ?_
          refine ap_iadd dX12_laySteps_119 ?_
          refine ap_aload_n dX12_laySteps_120 0 rfl rfl ?_
          refine ap_get (v := .ref (K.1 84)) fl_X12_33 ly_77 rfl rfl dX12_laySteps_121 ?_
          refine ap_iload dX12_laySteps_124 4 rfl ?_
          obtain ⟨a14, ha14, h⟩ := Option.bind_eq_some_iff.mp h
          refine ap_iald ly_84 ha14 dX12_laySteps_126 ?_
          refine ap_icmp_ge (tgt := 134) dX12_laySteps_127 (by decide) (fun hc15 => ?_) (fun hc15 => ?_)
          · rw [if_pos hc15] at h
            exact AX12_laySteps_L134 hk49 hk60 (fun q0 q1 q2 q3 q4 q5 q6 q7 hq => ih q0 q1 q2 q3 q4 q5 q6 hq)  h
          · rw [if_neg hc15] at h
            refine ap_iconst (v := 1) dX12_laySteps_130 (by decide) ?_
            refine ap_goto (tgt := 135) dX12_laySteps_131 (by decide) ?_
            exact AX12_laySteps_L135 hk49 hk60 (fun q0 q1 q2 q3 q4 q5 q6 q7 hq => ih q0 q1 q2 q3 q4 q5 q6 hq)  h
def fX12_laySteps_L83 (N : Nat) (k49 : Mm → Int32 → Int32 → Int32 → Option Mm) (k60 : Mm → Int32 → Int32 → Int32 → Int32 → Option Mm) (w : Mm) (x2 : Int32) (x3 : Int32) (x4 : Int32) (x5 : Int32) (t0 : Int32) : Option Mm :=
fX12_laySteps_L88 N k49 k60 N w x2 x3 x4 x5 t0 (0 : Int32)
set_option maxRecDepth 100000 in
set_option maxHeartbeats 4000000 in
theorem AX12_laySteps_L83 {l : Launch} {K : Kt} {N : Nat} {k49 : Mm → Int32 → Int32 → Int32 → Option Mm} {k60 : Mm → Int32 → Int32 → Int32 → Int32 → Option Mm} (hk49 : ∀ (w : Mm) (x2 : Int32) (x3 : Int32) (x4 : Int32) (zw : Mm), k49 w x2 x3 x4 = some zw → AW l K cX12_laySteps RX12 9 none rmX12_laySteps 0 0 ap_E (ap_F K none zw) w 49 [(0, .ref (K.1 77)), (2, .int x2), (3, .int x3), (4, .int x4)] []) (hk60 : ∀ (w : Mm) (x2 : Int32) (x3 : Int32) (x4 : Int32) (x5 : Int32) (zw : Mm), k60 w x2 x3 x4 x5 = some zw → AW l K cX12_laySteps RX12 9 none rmX12_laySteps 0 0 ap_E (ap_F K none zw) w 60 [(0, .ref (K.1 77)), (2, .int x2), (3, .int x3), (4, .int x4), (5, .int x5)] [])  {w : Mm} {x2 : Int32} {x3 : Int32} {x4 : Int32} {x5 : Int32} {t0 : Int32} {zw : Mm} (h : fX12_laySteps_L83 N k49 k60 w x2 x3 x4 x5 t0 = some zw) : AW l K cX12_laySteps RX12 9 none rmX12_laySteps 0 0 ap_E (ap_F K none zw) w 83 [(0, .ref (K.1 77)), (2, .int x2), (3, .int x3), (4, .int x4), (5, .int x5)] [.int t0] := by
  unfold fX12_laySteps_L83 at h
  refine ap_istore (i := 6) (lv' := [(6, .int t0), (0, .ref (K.1 77)), (2, .int x2), (3, .int x3), (4, .int x4), (5, .int x5)]) dX12_laySteps_83 (by decide) rfl ?_
  refine ap_iconst (v := 0) dX12_laySteps_85 (by decide) ?_
  refine ap_istore (i := 7) (lv' := [(7, .int (0 : Int32)), (6, .int t0), (0, .ref (K.1 77)), (2, .int x2), (3, .int x3), (4, .int x4), (5, .int x5)]) dX12_laySteps_86 (by decide) rfl ?_
  refine ap_sub [2, 3, 4, 5, 6, 1, 0] rfl ?_
  exact AX12_laySteps_L88 hk49 hk60  N _ _ _ _ _ _ _ h
def fX12_laySteps_L60 (N : Nat) (k49 : Mm → Int32 → Int32 → Int32 → Option Mm) : Nat → Mm → Int32 → Int32 → Int32 → Int32 → Option Mm
  | 0, _, _, _, _, _ => none
  | n0 + 1, w, x2, x3, x4, x5 => if (64 : Int32) ≤ x5 then (
k49 w x2 x3 x4)
else (
Option.bind (fX12_lightIn N w x5 x2) fun a8 =>
if x3 ≤ a8 then (
fX12_laySteps_L83 N k49 (fX12_laySteps_L60 N k49 n0) w x2 x3 x4 x5 (0 : Int32))
else (
fX12_laySteps_L83 N k49 (fX12_laySteps_L60 N k49 n0) w x2 x3 x4 x5 (1 : Int32)))
set_option maxRecDepth 100000 in
set_option maxHeartbeats 4000000 in
theorem AX12_laySteps_L60 {l : Launch} {K : Kt} {N : Nat} {k49 : Mm → Int32 → Int32 → Int32 → Option Mm} (hk49 : ∀ (w : Mm) (x2 : Int32) (x3 : Int32) (x4 : Int32) (zw : Mm), k49 w x2 x3 x4 = some zw → AW l K cX12_laySteps RX12 9 none rmX12_laySteps 0 0 ap_E (ap_F K none zw) w 49 [(0, .ref (K.1 77)), (2, .int x2), (3, .int x3), (4, .int x4)] [])  : ∀ (n0 : Nat) (w : Mm) (x2 : Int32) (x3 : Int32) (x4 : Int32) (x5 : Int32) {zw : Mm}, fX12_laySteps_L60 N k49 n0 w x2 x3 x4 x5 = some zw → AW l K cX12_laySteps RX12 9 none rmX12_laySteps 0 0 ap_E (ap_F K none zw) w 60 [(0, .ref (K.1 77)), (2, .int x2), (3, .int x3), (4, .int x4), (5, .int x5)] [] := by
  intro n0
  induction n0 with
  | zero =>
    intro w x2 x3 x4 x5 zw h
    cases h
  | succ n0 ih =>
    intro w x2 x3 x4 x5 zw h
    rw [fX12_laySteps_L60] at h
    refine ap_iload dX12_laySteps_60 4 rfl ?_
    refine ap_bipush (v := 64) dX12_laySteps_62 (by decide) ?_
    refine ap_icmp_ge (tgt := 197) dX12_laySteps_64 (by decide) (fun hc7 => ?_) (fun hc7 => ?_)
    · rw [if_pos hc7] at h
      refine ap_goto (tgt := 49) dX12_laySteps_197 (by decide) ?_
      refine ap_sub [0, 1, 2, 3] rfl ?_
      exact hk49 _ _ _ _ _ h
    · rw [if_neg hc7] at h
      refine ap_aload_n dX12_laySteps_67 0 rfl rfl ?_
      refine ap_iload dX12_laySteps_68 4 rfl ?_
      refine ap_iload_n dX12_laySteps_70 1 rfl rfl ?_
      obtain ⟨a8, ha8, h⟩ := Option.bind_eq_some_iff.mp h
      refine ap_callV (k := 77) (As := [.int x5, .int x2]) (st := []) (st1 := [.int a8]) (mcX12_lightIn  (w := w) ha8) cv_X12_143 rfl ly_77 ⟨rfl, rfl, by decide, by decide⟩ rfl (Nat.le_of_ble_eq_true rfl) ⟨Nat.zero_le _, Nat.zero_le _⟩ dX12_laySteps_71 rfl rfl ?_
      refine ap_iload_n dX12_laySteps_74 2 rfl rfl ?_
      refine ap_icmp_ge (tgt := 82) dX12_laySteps_75 (by decide) (fun hc9 => ?_) (fun hc9 => ?_)
      · rw [if_pos hc9] at h
        refine ap_iconst (v := 0) dX12_laySteps_82 (by decide) ?_
        exact AX12_laySteps_L83 hk49 (fun q0 q1 q2 q3 q4 q5 hq => ih q0 q1 q2 q3 q4 hq)  h
      · rw [if_neg hc9] at h
        refine ap_iconst (v := 1) dX12_laySteps_78 (by decide) ?_
        refine ap_goto (tgt := 83) dX12_laySteps_79 (by decide) ?_
        exact AX12_laySteps_L83 hk49 (fun q0 q1 q2 q3 q4 q5 hq => ih q0 q1 q2 q3 q4 hq)  h
def fX12_laySteps_L49 (N : Nat) : Nat → Mm → Int32 → Int32 → Int32 → Option Mm
  | 0, _, _, _, _ => none
  | n0 + 1, w, x2, x3, x4 => if x4 = (0 : Int32) then (
some w)
else (
fX12_laySteps_L60 N (fX12_laySteps_L49 N n0) N w x2 x3 (0 : Int32) (0 : Int32))
set_option maxRecDepth 100000 in
set_option maxHeartbeats 4000000 in
theorem AX12_laySteps_L49 {l : Launch} {K : Kt} {N : Nat}   : ∀ (n0 : Nat) (w : Mm) (x2 : Int32) (x3 : Int32) (x4 : Int32) {zw : Mm}, fX12_laySteps_L49 N n0 w x2 x3 x4 = some zw → AW l K cX12_laySteps RX12 9 none rmX12_laySteps 0 0 ap_E (ap_F K none zw) w 49 [(0, .ref (K.1 77)), (2, .int x2), (3, .int x3), (4, .int x4)] [] := by
  intro n0
  induction n0 with
  | zero =>
    intro w x2 x3 x4 zw h
    cases h
  | succ n0 ih =>
    intro w x2 x3 x4 zw h
    rw [fX12_laySteps_L49] at h
    refine ap_iload dX12_laySteps_49 3 rfl ?_
    refine ap_if_eq (tgt := 200) dX12_laySteps_51 (by decide) (fun hc6 => ?_) (fun hc6 => ?_)
    · rw [if_pos hc6] at h
      obtain rfl := Option.some.inj h
      exact ap_vret rfl dX12_laySteps_200
    · rw [if_neg hc6] at h
      refine ap_iconst (v := 0) dX12_laySteps_54 (by decide) ?_
      refine ap_istore (i := 4) (lv' := [(4, .int (0 : Int32)), (0, .ref (K.1 77)), (2, .int x2), (3, .int x3)]) dX12_laySteps_55 (by decide) rfl ?_
      refine ap_iconst (v := 0) dX12_laySteps_57 (by decide) ?_
      refine ap_istore (i := 5) (lv' := [(5, .int (0 : Int32)), (4, .int (0 : Int32)), (0, .ref (K.1 77)), (2, .int x2), (3, .int x3)]) dX12_laySteps_58 (by decide) rfl ?_
      refine ap_sub [2, 3, 4, 1, 0] rfl ?_
      exact AX12_laySteps_L60 (fun q0 q1 q2 q3 q4 hq => ih q0 q1 q2 q3 hq)  N _ _ _ _ _ h
def fX12_laySteps_L39 (N : Nat) (k3 : Mm → Int32 → Int32 → Int32 → Int32 → Option Mm) (w : Mm) (x1 : Int32) (x2 : Int32) (x3 : Int32) (x4 : Int32) (t0 : Int32) (t1 : Int32) : Option Mm :=
Option.bind (wrA w 84 64 t1 t0) fun m5 =>
k3 m5 x1 x2 x3 (x4 + 1)
set_option maxRecDepth 100000 in
set_option maxHeartbeats 4000000 in
theorem AX12_laySteps_L39 {l : Launch} {K : Kt} {N : Nat} {k3 : Mm → Int32 → Int32 → Int32 → Int32 → Option Mm} (hk3 : ∀ (w : Mm) (x1 : Int32) (x2 : Int32) (x3 : Int32) (x4 : Int32) (zw : Mm), k3 w x1 x2 x3 x4 = some zw → AW l K cX12_laySteps RX12 9 none rmX12_laySteps 0 0 ap_E (ap_F K none zw) w 3 [(0, .ref (K.1 77)), (1, .int x1), (2, .int x2), (3, .int x3), (4, .int x4)] [])  {w : Mm} {x1 : Int32} {x2 : Int32} {x3 : Int32} {x4 : Int32} {t0 : Int32} {t1 : Int32} {zw : Mm} (h : fX12_laySteps_L39 N k3 w x1 x2 x3 x4 t0 t1 = some zw) : AW l K cX12_laySteps RX12 9 none rmX12_laySteps 0 0 ap_E (ap_F K none zw) w 39 [(0, .ref (K.1 77)), (1, .int x1), (2, .int x2), (3, .int x3), (4, .int x4)] [.int t0, .int t1, .ref (K.1 84)] := by
  unfold fX12_laySteps_L39 at h
  obtain ⟨m5, hm5, h⟩ := Option.bind_eq_some_iff.mp h
  refine ap_iast ly_84 hm5 dX12_laySteps_39 ?_
  refine ap_iinc (v := x4 + 1) (lv' := [(4, .int (x4 + 1)), (0, .ref (K.1 77)), (1, .int x1), (2, .int x2), (3, .int x3)]) dX12_laySteps_40 4 rfl rfl (by decide) rfl ?_
  refine ap_goto (tgt := 3) dX12_laySteps_43 (by decide) ?_
  refine ap_sub [1, 2, 3, 4, 0] rfl ?_
  exact hk3 _ _ _ _ _ _ h
def fX12_laySteps_L37 (N : Nat) (k3 : Mm → Int32 → Int32 → Int32 → Int32 → Option Mm) (w : Mm) (x1 : Int32) (x2 : Int32) (x3 : Int32) (x4 : Int32) (t0 : Int32) : Option Mm :=
fX12_laySteps_L39 N k3 w x1 x2 x3 x4 (1000000 : Int32) t0
set_option maxRecDepth 100000 in
set_option maxHeartbeats 4000000 in
theorem AX12_laySteps_L37 {l : Launch} {K : Kt} {N : Nat} {k3 : Mm → Int32 → Int32 → Int32 → Int32 → Option Mm} (hk3 : ∀ (w : Mm) (x1 : Int32) (x2 : Int32) (x3 : Int32) (x4 : Int32) (zw : Mm), k3 w x1 x2 x3 x4 = some zw → AW l K cX12_laySteps RX12 9 none rmX12_laySteps 0 0 ap_E (ap_F K none zw) w 3 [(0, .ref (K.1 77)), (1, .int x1), (2, .int x2), (3, .int x3), (4, .int x4)] [])  {w : Mm} {x1 : Int32} {x2 : Int32} {x3 : Int32} {x4 : Int32} {t0 : Int32} {zw : Mm} (h : fX12_laySteps_L37 N k3 w x1 x2 x3 x4 t0 = some zw) : AW l K cX12_laySteps RX12 9 none rmX12_laySteps 0 0 ap_E (ap_F K none zw) w 37 [(0, .ref (K.1 77)), (1, .int x1), (2, .int x2), (3, .int x3), (4, .int x4)] [.int t0, .ref (K.1 84)] := by
  unfold fX12_laySteps_L37 at h
  refine ap_ldci (v := 1000000) wd_1165 dX12_laySteps_37 ?_
  exact AX12_laySteps_L39 hk3  h
def fX12_laySteps_L3 (N : Nat) : Nat → Mm → Int32 → Int32 → Int32 → Int32 → Option Mm
  | 0, _, _, _, _, _ => none
  | n0 + 1, w, x1, x2, x3, x4 => if (64 : Int32) ≤ x4 then (
fX12_laySteps_L49 N N w x2 x3 (1 : Int32))
else (
if x4 = x1 then (
Option.bind (fX12_lightIn N w x4 x2) fun a3 =>
if x3 ≤ a3 then (
fX12_laySteps_L37 N (fX12_laySteps_L3 N n0) w x1 x2 x3 x4 x4)
else (
fX12_laySteps_L39 N (fX12_laySteps_L3 N n0) w x1 x2 x3 x4 (0 : Int32) x4))
else (
fX12_laySteps_L37 N (fX12_laySteps_L3 N n0) w x1 x2 x3 x4 x4))
set_option maxRecDepth 100000 in
set_option maxHeartbeats 4000000 in
theorem AX12_laySteps_L3 {l : Launch} {K : Kt} {N : Nat}   : ∀ (n0 : Nat) (w : Mm) (x1 : Int32) (x2 : Int32) (x3 : Int32) (x4 : Int32) {zw : Mm}, fX12_laySteps_L3 N n0 w x1 x2 x3 x4 = some zw → AW l K cX12_laySteps RX12 9 none rmX12_laySteps 0 0 ap_E (ap_F K none zw) w 3 [(0, .ref (K.1 77)), (1, .int x1), (2, .int x2), (3, .int x3), (4, .int x4)] [] := by
  intro n0
  induction n0 with
  | zero =>
    intro w x1 x2 x3 x4 zw h
    cases h
  | succ n0 ih =>
    intro w x1 x2 x3 x4 zw h
    rw [fX12_laySteps_L3] at h
    refine ap_iload dX12_laySteps_3 4 rfl ?_
    refine ap_bipush (v := 64) dX12_laySteps_5 (by decide) ?_
    refine ap_icmp_ge (tgt := 46) dX12_laySteps_7 (by decide) (fun hc1 => ?_) (fun hc1 => ?_)
    · rw [if_pos hc1] at h
      refine ap_iconst (v := 1) dX12_laySteps_46 (by decide) ?_
      refine ap_istore (i := 4) (lv' := [(4, .int (1 : Int32)), (0, .ref (K.1 77)), (1, .int x1), (2, .int x2), (3, .int x3)]) dX12_laySteps_47 (by decide) rfl ?_
      refine ap_sub [1, 3, 4, 0] rfl ?_
      exact AX12_laySteps_L49  N _ _ _ _ h
    · rw [if_neg hc1] at h
      refine ap_aload_n dX12_laySteps_10 0 rfl rfl ?_
      refine ap_get (v := .ref (K.1 84)) fl_X12_33 ly_77 rfl rfl dX12_laySteps_11 ?_
      refine ap_iload dX12_laySteps_14 4 rfl ?_
      refine ap_iload dX12_laySteps_16 4 rfl ?_
      refine ap_iload_n dX12_laySteps_18 1 rfl rfl ?_
      refine ap_icmp_ne (tgt := 37) dX12_laySteps_19 (by decide) (fun hc2 => ?_) (fun hc2 => ?_)
      · rw [if_neg hc2] at h
        exact AX12_laySteps_L37 (fun q0 q1 q2 q3 q4 q5 hq => ih q0 q1 q2 q3 q4 hq)  h
      · rw [if_pos hc2] at h
        refine ap_aload_n dX12_laySteps_22 0 rfl rfl ?_
        refine ap_iload dX12_laySteps_23 4 rfl ?_
        refine ap_iload_n dX12_laySteps_25 2 rfl rfl ?_
        obtain ⟨a3, ha3, h⟩ := Option.bind_eq_some_iff.mp h
        refine ap_callV (k := 77) (As := [.int x4, .int x2]) (st := [.int x4, .ref (K.1 84)]) (st1 := [.int a3, .int x4, .ref (K.1 84)]) (mcX12_lightIn  (w := w) ha3) cv_X12_143 rfl ly_77 ⟨rfl, rfl, by decide, by decide⟩ rfl (Nat.le_of_ble_eq_true rfl) ⟨Nat.zero_le _, Nat.zero_le _⟩ dX12_laySteps_26 rfl rfl ?_
        refine ap_iload_n dX12_laySteps_29 3 rfl rfl ?_
        refine ap_icmp_ge (tgt := 37) dX12_laySteps_30 (by decide) (fun hc4 => ?_) (fun hc4 => ?_)
        · rw [if_pos hc4] at h
          exact AX12_laySteps_L37 (fun q0 q1 q2 q3 q4 q5 hq => ih q0 q1 q2 q3 q4 hq)  h
        · rw [if_neg hc4] at h
          refine ap_iconst (v := 0) dX12_laySteps_33 (by decide) ?_
          refine ap_goto (tgt := 39) dX12_laySteps_34 (by decide) ?_
          exact AX12_laySteps_L39 (fun q0 q1 q2 q3 q4 q5 hq => ih q0 q1 q2 q3 q4 hq)  h
def fX12_laySteps (N : Nat) (w : Mm) (x1 : Int32) (x2 : Int32) (x3 : Int32) : Option Mm :=
fX12_laySteps_L3 N N w x1 x2 x3 (0 : Int32)
set_option maxRecDepth 100000 in
set_option maxHeartbeats 4000000 in
theorem AX12_laySteps {l : Launch} {K : Kt} {N : Nat}  {w : Mm} {x1 : Int32} {x2 : Int32} {x3 : Int32} {zw : Mm} (h : fX12_laySteps N w x1 x2 x3 = some zw) : AW l K cX12_laySteps RX12 9 none rmX12_laySteps 0 0 ap_E (ap_F K none zw) w 0 [(0, .ref (K.1 77)), (1, .int x1), (2, .int x2), (3, .int x3)] [] := by
  unfold fX12_laySteps at h
  refine ap_iconst (v := 0) dX12_laySteps_0 (by decide) ?_
  refine ap_istore (i := 4) (lv' := [(4, .int (0 : Int32)), (0, .ref (K.1 77)), (1, .int x1), (2, .int x2), (3, .int x3)]) dX12_laySteps_1 (by decide) rfl ?_
  refine ap_sub [1, 2, 3, 4, 0] rfl ?_
  exact AX12_laySteps_L3  N _ _ _ _ _ h
theorem mcX12_laySteps {l : Launch} {K : Kt} {N : Nat}  {w : Mm} {x1 : Int32} {x2 : Int32} {x3 : Int32} {zw : Mm} (h : fX12_laySteps N w x1 x2 x3 = some zw) : MC l K yX12_laySteps cX12_laySteps 9 none rmX12_laySteps w [.ref (K.1 77), .int x1, .int x2, .int x3] none zw :=
  MC.of (by decide) (Nat.le_of_ble_eq_true rfl) rfl (AX12_laySteps  h)
def fX12_thief_L40 (N : Nat) (w : Mm) : Option (Int32 × Mm) :=
ob2 (some (fX12_bad w (-2 : Int32))) fun a18 m19 =>
some (a18, m19)
set_option maxRecDepth 100000 in
set_option maxHeartbeats 4000000 in
theorem AX12_thief_L40 {l : Launch} {K : Kt} {N : Nat}   {w : Mm} {zx : Int32} {zw : Mm} (h : fX12_thief_L40 N w = some (zx, zw)) : AW l K cX12_thief RX12 8 (some .int) rmX12_thief 0 0 ap_E (ap_F K (some (.int zx)) zw) w 40 [(0, .ref (K.1 77))] [] := by
  unfold fX12_thief_L40 at h
  refine ap_aload_n dX12_thief_40 0 rfl rfl ?_
  refine ap_bipush (v := -2) dX12_thief_41 (by decide) ?_
  obtain ⟨a18, m19, ha18, h⟩ := ob2_iff h
  refine ap_callV (k := 77) (As := [.int (-2 : Int32)]) (st := []) (st1 := [.int a18]) (mcX12_bad  (Option.some.inj ha18)) cv_X12_75 rfl ly_77 ⟨rfl, rfl, by decide, by decide⟩ rfl (Nat.le_of_ble_eq_true rfl) ⟨Nat.zero_le _, Nat.zero_le _⟩ dX12_thief_43 rfl rfl ?_
  obtain ⟨rfl, rfl⟩ := Prod.mk.inj (Option.some.inj h)
  exact ap_iret rfl dX12_thief_46
def fX12_thief_L132 (N : Nat) (w : Mm) (x1 : Int32) (x5 : Int32) (x6 : Int32) : Option (Int32 × Mm) :=
if x5 = (0 : Int32) then (
Option.bind (rdA w 84 64 x1) fun a17 =>
some (a17, w))
else (
some (x6, w))
set_option maxRecDepth 100000 in
set_option maxHeartbeats 4000000 in
theorem AX12_thief_L132 {l : Launch} {K : Kt} {N : Nat}   {w : Mm} {x1 : Int32} {x5 : Int32} {x6 : Int32} {zx : Int32} {zw : Mm} (h : fX12_thief_L132 N w x1 x5 x6 = some (zx, zw)) : AW l K cX12_thief RX12 8 (some .int) rmX12_thief 0 0 ap_E (ap_F K (some (.int zx)) zw) w 132 [(0, .ref (K.1 77)), (1, .int x1), (5, .int x5), (6, .int x6)] [] := by
  unfold fX12_thief_L132 at h
  refine ap_iload dX12_thief_132 2 rfl ?_
  refine ap_if_ne (tgt := 146) dX12_thief_134 (by decide) (fun hc16 => ?_) (fun hc16 => ?_)
  · rw [if_neg hc16] at h
    refine ap_iload dX12_thief_146 3 rfl ?_
    obtain ⟨rfl, rfl⟩ := Prod.mk.inj (Option.some.inj h)
    exact ap_iret rfl dX12_thief_148
  · rw [if_pos hc16] at h
    refine ap_aload_n dX12_thief_137 0 rfl rfl ?_
    refine ap_get (v := .ref (K.1 84)) fl_X12_33 ly_77 rfl rfl dX12_thief_138 ?_
    refine ap_iload_n dX12_thief_141 1 rfl rfl ?_
    obtain ⟨a17, ha17, h⟩ := Option.bind_eq_some_iff.mp h
    refine ap_iald ly_84 ha17 dX12_thief_142 ?_
    refine ap_goto (tgt := 148) dX12_thief_143 (by decide) ?_
    obtain ⟨rfl, rfl⟩ := Prod.mk.inj (Option.some.inj h)
    exact ap_iret rfl dX12_thief_148
def fX12_thief_L122 (N : Nat) (k79 : Mm → Int32 → Int32 → Int32 → Int32 → Int32 → Option (Int32 × Mm)) (w : Mm) (x1 : Int32) (x2 : Int32) (x5 : Int32) (x6 : Int32) (x7 : Int32) : Option (Int32 × Mm) :=
k79 w x1 x2 x5 x6 (x7 + (-1))
set_option maxRecDepth 100000 in
set_option maxHeartbeats 4000000 in
theorem AX12_thief_L122 {l : Launch} {K : Kt} {N : Nat} {k79 : Mm → Int32 → Int32 → Int32 → Int32 → Int32 → Option (Int32 × Mm)} (hk79 : ∀ (w : Mm) (x1 : Int32) (x2 : Int32) (x5 : Int32) (x6 : Int32) (x7 : Int32) (zx : Int32) (zw : Mm), k79 w x1 x2 x5 x6 x7 = some (zx, zw) → AW l K cX12_thief RX12 8 (some .int) rmX12_thief 0 0 ap_E (ap_F K (some (.int zx)) zw) w 79 [(0, .ref (K.1 77)), (1, .int x1), (2, .int x2), (5, .int x5), (6, .int x6), (7, .int x7)] [])  {w : Mm} {x1 : Int32} {x2 : Int32} {x5 : Int32} {x6 : Int32} {x7 : Int32} {zx : Int32} {zw : Mm} (h : fX12_thief_L122 N k79 w x1 x2 x5 x6 x7 = some (zx, zw)) : AW l K cX12_thief RX12 8 (some .int) rmX12_thief 0 0 ap_E (ap_F K (some (.int zx)) zw) w 122 [(0, .ref (K.1 77)), (1, .int x1), (2, .int x2), (5, .int x5), (6, .int x6), (7, .int x7)] [] := by
  unfold fX12_thief_L122 at h
  refine ap_iload dX12_thief_122 4 rfl ?_
  refine ap_istore (i := 6) (lv' := [(6, .int x6), (0, .ref (K.1 77)), (1, .int x1), (2, .int x2), (5, .int x5), (7, .int x7)]) dX12_thief_124 (by decide) rfl ?_
  refine ap_iinc (v := x7 + (-1)) (lv' := [(7, .int (x7 + (-1))), (6, .int x6), (0, .ref (K.1 77)), (1, .int x1), (2, .int x2), (5, .int x5)]) dX12_thief_126 5 rfl rfl (by decide) rfl ?_
  refine ap_goto (tgt := 79) dX12_thief_129 (by decide) ?_
  refine ap_sub [2, 3, 4, 5, 1, 0] rfl ?_
  exact hk79 _ _ _ _ _ _ _ _ h
def fX12_thief_L79 (N : Nat) : Nat → Mm → Int32 → Int32 → Int32 → Int32 → Int32 → Option (Int32 × Mm)
  | 0, _, _, _, _, _, _ => none
  | n0 + 1, w, x1, x2, x5, x6, x7 => if x7 < (0 : Int32) then (
fX12_thief_L132 N w x1 x5 x6)
else (
if x1 = x2 then (
fX12_thief_L132 N w x1 x5 x6)
else (
if (fX12_isBeside x1 x7) = (0 : Int32) then (
fX12_thief_L122 N (fX12_thief_L79 N n0) w x1 x2 x5 x6 x7)
else (
Option.bind (rdA w 84 64 x7) fun a13 =>
Option.bind (rdA w 84 64 x1) fun a14 =>
if a13 = (a14 - (1 : Int32)) then (
(fX12_thief_L79 N n0) w x1 x2 x5 x7 (x7 + (-1)))
else (
fX12_thief_L122 N (fX12_thief_L79 N n0) w x1 x2 x5 x6 x7))))
set_option maxRecDepth 100000 in
set_option maxHeartbeats 4000000 in
theorem AX12_thief_L79 {l : Launch} {K : Kt} {N : Nat}   : ∀ (n0 : Nat) (w : Mm) (x1 : Int32) (x2 : Int32) (x5 : Int32) (x6 : Int32) (x7 : Int32) {zx : Int32} {zw : Mm}, fX12_thief_L79 N n0 w x1 x2 x5 x6 x7 = some (zx, zw) → AW l K cX12_thief RX12 8 (some .int) rmX12_thief 0 0 ap_E (ap_F K (some (.int zx)) zw) w 79 [(0, .ref (K.1 77)), (1, .int x1), (2, .int x2), (5, .int x5), (6, .int x6), (7, .int x7)] [] := by
  intro n0
  induction n0 with
  | zero =>
    intro w x1 x2 x5 x6 x7 zx zw h
    cases h
  | succ n0 ih =>
    intro w x1 x2 x5 x6 x7 zx zw h
    rw [fX12_thief_L79] at h
    refine ap_iload dX12_thief_79 5 rfl ?_
    refine ap_if_lt (tgt := 132) dX12_thief_81 (by decide) (fun hc10 => ?_) (fun hc10 => ?_)
    · rw [if_pos hc10] at h
      refine ap_sub [0, 1, 3, 4] rfl ?_
      exact AX12_thief_L132   h
    · rw [if_neg hc10] at h
      refine ap_iload_n dX12_thief_84 1 rfl rfl ?_
      refine ap_iload_n dX12_thief_85 2 rfl rfl ?_
      refine ap_icmp_eq (tgt := 132) dX12_thief_86 (by decide) (fun hc11 => ?_) (fun hc11 => ?_)
      · rw [if_pos hc11] at h
        refine ap_sub [0, 1, 3, 4] rfl ?_
        exact AX12_thief_L132   h
      · rw [if_neg hc11] at h
        refine ap_aload_n dX12_thief_89 0 rfl rfl ?_
        refine ap_iload_n dX12_thief_90 1 rfl rfl ?_
        refine ap_iload dX12_thief_91 5 rfl ?_
        refine ap_callV (k := 77) (As := [.int x1, .int x7]) (st := []) (st1 := [.int (fX12_isBeside x1 x7)]) (mcX12_isBeside  (w := w) (zx := fX12_isBeside x1 x7) rfl) cv_X12_176 rfl ly_77 ⟨rfl, rfl, by decide, by decide⟩ rfl (Nat.le_of_ble_eq_true rfl) ⟨Nat.zero_le _, Nat.zero_le _⟩ dX12_thief_93 rfl rfl ?_
        refine ap_if_eq (tgt := 122) dX12_thief_96 (by decide) (fun hc12 => ?_) (fun hc12 => ?_)
        · rw [if_pos hc12] at h
          exact AX12_thief_L122 (fun q0 q1 q2 q3 q4 q5 q6 q7 hq => ih q0 q1 q2 q3 q4 q5 hq)  h
        · rw [if_neg hc12] at h
          refine ap_aload_n dX12_thief_99 0 rfl rfl ?_
          refine ap_get (v := .ref (K.1 84)) fl_X12_33 ly_77 rfl rfl dX12_thief_100 ?_
          refine ap_iload dX12_thief_103 5 rfl ?_
          obtain ⟨a13, ha13, h⟩ := Option.bind_eq_some_iff.mp h
          refine ap_iald ly_84 ha13 dX12_thief_105 ?_
          refine ap_aload_n dX12_thief_106 0 rfl rfl ?_
          refine ap_get (v := .ref (K.1 84)) fl_X12_33 ly_77 rfl rfl dX12_thief_107 ?_
          refine ap_iload_n dX12_thief_110 1 rfl rfl ?_
          obtain ⟨a14, ha14, h⟩ := Option.bind_eq_some_iff.mp h
          refine ap_iald ly_84 ha14 dX12_thief_111 ?_
          refine ap_iconst (v := 1) dX12_thief_112 (by decide) ?_
          refine ap_isub dX12_thief_113 ?_
          refine ap_icmp_ne (tgt := 122) dX12_thief_114 (by decide) (fun hc15 => ?_) (fun hc15 => ?_)
          · rw [if_neg hc15] at h
            exact AX12_thief_L122 (fun q0 q1 q2 q3 q4 q5 q6 q7 hq => ih q0 q1 q2 q3 q4 q5 hq)  h
          · rw [if_pos hc15] at h
            refine ap_iload dX12_thief_117 5 rfl ?_
            refine ap_goto (tgt := 124) dX12_thief_119 (by decide) ?_
            refine ap_istore (i := 6) (lv' := [(6, .int x7), (0, .ref (K.1 77)), (1, .int x1), (2, .int x2), (5, .int x5), (7, .int x7)]) dX12_thief_124 (by decide) rfl ?_
            refine ap_iinc (v := x7 + (-1)) (lv' := [(7, .int (x7 + (-1))), (6, .int x7), (0, .ref (K.1 77)), (1, .int x1), (2, .int x2), (5, .int x5)]) dX12_thief_126 5 rfl rfl (by decide) rfl ?_
            refine ap_goto (tgt := 79) dX12_thief_129 (by decide) ?_
            refine ap_sub [2, 3, 4, 5, 1, 0] rfl ?_
            exact ih _ _ _ _ _ _ h
def fX12_thief (N : Nat) (w : Mm) (x1 : Int32) (x2 : Int32) (x3 : Int32) (x4 : Int32) (x5 : Int32) : Option (Int32 × Mm) :=
if (fX12_isCell x1) = (0 : Int32) then (
fX12_thief_L40 N w)
else (
if (fX12_isCell x2) = (0 : Int32) then (
fX12_thief_L40 N w)
else (
if (fX12_isHour x3) = (0 : Int32) then (
fX12_thief_L40 N w)
else (
if (fX12_isLight x4) = (0 : Int32) then (
fX12_thief_L40 N w)
else (
if (fX12_in x5.toInt64 (0 : Int64) (1 : Int64)) = (0 : Int32) then (
fX12_thief_L40 N w)
else (
Option.bind (fX12_layHand N w) fun m6 =>
Option.bind (fX12_laySteps N m6 x2 x3 x4) fun m7 =>
Option.bind (rdA m7 84 64 x1) fun a8 =>
if a8 < (1000000 : Int32) then (
fX12_thief_L79 N N m7 x1 x2 x5 x1 (63 : Int32))
else (
some ((-1 : Int32), m7)))))))
set_option maxRecDepth 100000 in
set_option maxHeartbeats 4000000 in
theorem AX12_thief {l : Launch} {K : Kt} {N : Nat}  {w : Mm} {x1 : Int32} {x2 : Int32} {x3 : Int32} {x4 : Int32} {x5 : Int32} {zx : Int32} {zw : Mm} (h : fX12_thief N w x1 x2 x3 x4 x5 = some (zx, zw)) : AW l K cX12_thief RX12 8 (some .int) rmX12_thief 0 0 ap_E (ap_F K (some (.int zx)) zw) w 0 [(0, .ref (K.1 77)), (1, .int x1), (2, .int x2), (3, .int x3), (4, .int x4), (5, .int x5)] [] := by
  unfold fX12_thief at h
  refine ap_iload_n dX12_thief_0 1 rfl rfl ?_
  refine ap_callS (As := [.int x1]) (st := []) (st1 := [.int (fX12_isCell x1)]) (mcX12_isCell  (w := w) (zx := fX12_isCell x1) rfl) cs_X12_85 ⟨rfl, rfl, by decide, by decide⟩ rfl (Nat.le_of_ble_eq_true rfl) ⟨Nat.zero_le _, Nat.zero_le _⟩ dX12_thief_1 rfl rfl ?_
  refine ap_if_eq (tgt := 40) dX12_thief_4 (by decide) (fun hc1 => ?_) (fun hc1 => ?_)
  · rw [if_pos hc1] at h
    refine ap_sub [0] rfl ?_
    exact AX12_thief_L40   h
  · rw [if_neg hc1] at h
    refine ap_iload_n dX12_thief_7 2 rfl rfl ?_
    refine ap_callS (As := [.int x2]) (st := []) (st1 := [.int (fX12_isCell x2)]) (mcX12_isCell  (w := w) (zx := fX12_isCell x2) rfl) cs_X12_85 ⟨rfl, rfl, by decide, by decide⟩ rfl (Nat.le_of_ble_eq_true rfl) ⟨Nat.zero_le _, Nat.zero_le _⟩ dX12_thief_8 rfl rfl ?_
    refine ap_if_eq (tgt := 40) dX12_thief_11 (by decide) (fun hc2 => ?_) (fun hc2 => ?_)
    · rw [if_pos hc2] at h
      refine ap_sub [0] rfl ?_
      exact AX12_thief_L40   h
    · rw [if_neg hc2] at h
      refine ap_iload_n dX12_thief_14 3 rfl rfl ?_
      refine ap_callS (As := [.int x3]) (st := []) (st1 := [.int (fX12_isHour x3)]) (mcX12_isHour  (w := w) (zx := fX12_isHour x3) rfl) cs_X12_151 ⟨rfl, rfl, by decide, by decide⟩ rfl (Nat.le_of_ble_eq_true rfl) ⟨Nat.zero_le _, Nat.zero_le _⟩ dX12_thief_15 rfl rfl ?_
      refine ap_if_eq (tgt := 40) dX12_thief_18 (by decide) (fun hc3 => ?_) (fun hc3 => ?_)
      · rw [if_pos hc3] at h
        refine ap_sub [0] rfl ?_
        exact AX12_thief_L40   h
      · rw [if_neg hc3] at h
        refine ap_iload dX12_thief_21 4 rfl ?_
        refine ap_callS (As := [.int x4]) (st := []) (st1 := [.int (fX12_isLight x4)]) (mcX12_isLight  (w := w) (zx := fX12_isLight x4) rfl) cs_X12_89 ⟨rfl, rfl, by decide, by decide⟩ rfl (Nat.le_of_ble_eq_true rfl) ⟨Nat.zero_le _, Nat.zero_le _⟩ dX12_thief_23 rfl rfl ?_
        refine ap_if_eq (tgt := 40) dX12_thief_26 (by decide) (fun hc4 => ?_) (fun hc4 => ?_)
        · rw [if_pos hc4] at h
          refine ap_sub [0] rfl ?_
          exact AX12_thief_L40   h
        · rw [if_neg hc4] at h
          refine ap_iload dX12_thief_29 5 rfl ?_
          refine ap_i2l (v := x5.toInt64) dX12_thief_31 rfl ?_
          refine ap_lconst (v := 0) dX12_thief_32 (by decide) ?_
          refine ap_lconst (v := 1) dX12_thief_33 (by decide) ?_
          refine ap_callS (As := [.long x5.toInt64, .long (0 : Int64), .long (1 : Int64)]) (st := []) (st1 := [.int (fX12_in x5.toInt64 (0 : Int64) (1 : Int64))]) (mcX12_in  (w := w) (zx := fX12_in x5.toInt64 (0 : Int64) (1 : Int64)) rfl) cs_X12_61 ⟨rfl, rfl, by decide, by decide⟩ rfl (Nat.le_of_ble_eq_true rfl) ⟨Nat.zero_le _, Nat.zero_le _⟩ dX12_thief_34 rfl rfl ?_
          refine ap_if_ne (tgt := 47) dX12_thief_37 (by decide) (fun hc5 => ?_) (fun hc5 => ?_)
          · rw [if_neg hc5] at h
            refine ap_aload_n dX12_thief_47 0 rfl rfl ?_
            obtain ⟨m6, hm6, h⟩ := Option.bind_eq_some_iff.mp h
            refine ap_callV (k := 77) (As := []) (st := []) (st1 := []) (mcX12_layHand  hm6) cv_X12_154 rfl ly_77 ⟨rfl, rfl, by decide, by decide⟩ rfl (Nat.le_of_ble_eq_true rfl) ⟨Nat.zero_le _, Nat.zero_le _⟩ dX12_thief_48 rfl rfl ?_
            refine ap_aload_n dX12_thief_51 0 rfl rfl ?_
            refine ap_iload_n dX12_thief_52 2 rfl rfl ?_
            refine ap_iload_n dX12_thief_53 3 rfl rfl ?_
            refine ap_iload dX12_thief_54 4 rfl ?_
            obtain ⟨m7, hm7, h⟩ := Option.bind_eq_some_iff.mp h
            refine ap_callV (k := 77) (As := [.int x2, .int x3, .int x4]) (st := []) (st1 := []) (mcX12_laySteps  hm7) cv_X12_179 rfl ly_77 ⟨rfl, rfl, by decide, by decide⟩ rfl (Nat.le_of_ble_eq_true rfl) ⟨Nat.zero_le _, Nat.zero_le _⟩ dX12_thief_56 rfl rfl ?_
            refine ap_aload_n dX12_thief_59 0 rfl rfl ?_
            refine ap_get (v := .ref (K.1 84)) fl_X12_33 ly_77 rfl rfl dX12_thief_60 ?_
            refine ap_iload_n dX12_thief_63 1 rfl rfl ?_
            obtain ⟨a8, ha8, h⟩ := Option.bind_eq_some_iff.mp h
            refine ap_iald ly_84 ha8 dX12_thief_64 ?_
            refine ap_ldci (v := 1000000) wd_1165 dX12_thief_65 ?_
            refine ap_icmp_lt (tgt := 72) dX12_thief_67 (by decide) (fun hc9 => ?_) (fun hc9 => ?_)
            · rw [if_pos hc9] at h
              refine ap_iload_n dX12_thief_72 1 rfl rfl ?_
              refine ap_istore (i := 6) (lv' := [(6, .int x1), (0, .ref (K.1 77)), (1, .int x1), (2, .int x2), (3, .int x3), (4, .int x4), (5, .int x5)]) dX12_thief_73 (by decide) rfl ?_
              refine ap_bipush (v := 63) dX12_thief_75 (by decide) ?_
              refine ap_istore (i := 7) (lv' := [(7, .int (63 : Int32)), (6, .int x1), (0, .ref (K.1 77)), (1, .int x1), (2, .int x2), (3, .int x3), (4, .int x4), (5, .int x5)]) dX12_thief_77 (by decide) rfl ?_
              refine ap_sub [2, 3, 4, 7, 1, 0] rfl ?_
              exact AX12_thief_L79  N _ _ _ _ _ _ h
            · rw [if_neg hc9] at h
              refine ap_iconst (v := -1) dX12_thief_70 (by decide) ?_
              obtain ⟨rfl, rfl⟩ := Prod.mk.inj (Option.some.inj h)
              exact ap_iret rfl dX12_thief_71
          · rw [if_pos hc5] at h
            refine ap_sub [0] rfl ?_
            exact AX12_thief_L40   h
theorem mcX12_thief {l : Launch} {K : Kt} {N : Nat}  {w : Mm} {x1 : Int32} {x2 : Int32} {x3 : Int32} {x4 : Int32} {x5 : Int32} {zx : Int32} {zw : Mm} (h : fX12_thief N w x1 x2 x3 x4 x5 = some (zx, zw)) : MC l K yX12_thief cX12_thief 8 (some .int) rmX12_thief w [.ref (K.1 77), .int x1, .int x2, .int x3, .int x4, .int x5] (some (.int zx)) zw :=
  MC.of (by decide) (Nat.le_of_ble_eq_true rfl) rfl (AX12_thief  h)
def fX12_wedding_L26 (N : Nat) (w : Mm) : Option (Int32 × Mm) :=
ob2 (some (fX12_bad w (-100 : Int32))) fun a14 m15 =>
some (a14, m15)
set_option maxRecDepth 100000 in
set_option maxHeartbeats 4000000 in
theorem AX12_wedding_L26 {l : Launch} {K : Kt} {N : Nat}   {w : Mm} {zx : Int32} {zw : Mm} (h : fX12_wedding_L26 N w = some (zx, zw)) : AW l K cX12_wedding RX12 6 (some .int) rmX12_wedding 0 0 ap_E (ap_F K (some (.int zx)) zw) w 26 [(0, .ref (K.1 77))] [] := by
  unfold fX12_wedding_L26 at h
  refine ap_aload_n dX12_wedding_26 0 rfl rfl ?_
  refine ap_bipush (v := -100) dX12_wedding_27 (by decide) ?_
  obtain ⟨a14, m15, ha14, h⟩ := ob2_iff h
  refine ap_callV (k := 77) (As := [.int (-100 : Int32)]) (st := []) (st1 := [.int a14]) (mcX12_bad  (Option.some.inj ha14)) cv_X12_75 rfl ly_77 ⟨rfl, rfl, by decide, by decide⟩ rfl (Nat.le_of_ble_eq_true rfl) ⟨Nat.zero_le _, Nat.zero_le _⟩ dX12_wedding_29 rfl rfl ?_
  obtain ⟨rfl, rfl⟩ := Prod.mk.inj (Option.some.inj h)
  exact ap_iret rfl dX12_wedding_32
def fX12_wedding_L92 (N : Nat) (k55 : Mm → Int32 → Int32 → Int32 → Int32 → Int32 → Option (Int32 × Mm)) (w : Mm) (x1 : Int32) (x2 : Int32) (x3 : Int32) (x4 : Int32) (x5 : Int32) (t0 : Int32) (t1 : Int32) : Option (Int32 × Mm) :=
Option.bind (wrA w 83 7 t1 t0) fun m13 =>
k55 m13 x1 x2 x3 x4 (x5 + 1)
set_option maxRecDepth 100000 in
set_option maxHeartbeats 4000000 in
theorem AX12_wedding_L92 {l : Launch} {K : Kt} {N : Nat} {k55 : Mm → Int32 → Int32 → Int32 → Int32 → Int32 → Option (Int32 × Mm)} (hk55 : ∀ (w : Mm) (x1 : Int32) (x2 : Int32) (x3 : Int32) (x4 : Int32) (x5 : Int32) (zx : Int32) (zw : Mm), k55 w x1 x2 x3 x4 x5 = some (zx, zw) → AW l K cX12_wedding RX12 6 (some .int) rmX12_wedding 0 0 ap_E (ap_F K (some (.int zx)) zw) w 55 [(0, .ref (K.1 77)), (1, .int x1), (2, .int x2), (3, .int x3), (4, .int x4), (5, .int x5)] [])  {w : Mm} {x1 : Int32} {x2 : Int32} {x3 : Int32} {x4 : Int32} {x5 : Int32} {t0 : Int32} {t1 : Int32} {zx : Int32} {zw : Mm} (h : fX12_wedding_L92 N k55 w x1 x2 x3 x4 x5 t0 t1 = some (zx, zw)) : AW l K cX12_wedding RX12 6 (some .int) rmX12_wedding 0 0 ap_E (ap_F K (some (.int zx)) zw) w 92 [(0, .ref (K.1 77)), (1, .int x1), (2, .int x2), (3, .int x3), (4, .int x4), (5, .int x5)] [.int t0, .int t1, .ref (K.1 83)] := by
  unfold fX12_wedding_L92 at h
  obtain ⟨m13, hm13, h⟩ := Option.bind_eq_some_iff.mp h
  refine ap_iast ly_83 hm13 dX12_wedding_92 ?_
  refine ap_iinc (v := x5 + 1) (lv' := [(5, .int (x5 + 1)), (0, .ref (K.1 77)), (1, .int x1), (2, .int x2), (3, .int x3), (4, .int x4)]) dX12_wedding_93 5 rfl rfl (by decide) rfl ?_
  refine ap_goto (tgt := 55) dX12_wedding_96 (by decide) ?_
  refine ap_sub [1, 2, 3, 4, 5, 0] rfl ?_
  exact hk55 _ _ _ _ _ _ _ _ h
def fX12_wedding_L55 (N : Nat) : Nat → Mm → Int32 → Int32 → Int32 → Int32 → Int32 → Option (Int32 × Mm)
  | 0, _, _, _, _, _, _ => none
  | n0 + 1, w, x1, x2, x3, x4, x5 => if (fX12_candles w) ≤ x5 then (
Option.bind (fX12_acresOf N w x1 x3) fun a9 =>
some ((a9 - x4), w))
else (
Option.bind (rdA w 83 7 x5) fun a10 =>
if a10 = x2 then (
fX12_wedding_L92 N (fX12_wedding_L55 N n0) w x1 x2 x3 x4 x5 x1 x5)
else (
Option.bind (rdA w 83 7 x5) fun a12 =>
fX12_wedding_L92 N (fX12_wedding_L55 N n0) w x1 x2 x3 x4 x5 a12 x5))
set_option maxRecDepth 100000 in
set_option maxHeartbeats 4000000 in
theorem AX12_wedding_L55 {l : Launch} {K : Kt} {N : Nat}   : ∀ (n0 : Nat) (w : Mm) (x1 : Int32) (x2 : Int32) (x3 : Int32) (x4 : Int32) (x5 : Int32) {zx : Int32} {zw : Mm}, fX12_wedding_L55 N n0 w x1 x2 x3 x4 x5 = some (zx, zw) → AW l K cX12_wedding RX12 6 (some .int) rmX12_wedding 0 0 ap_E (ap_F K (some (.int zx)) zw) w 55 [(0, .ref (K.1 77)), (1, .int x1), (2, .int x2), (3, .int x3), (4, .int x4), (5, .int x5)] [] := by
  intro n0
  induction n0 with
  | zero =>
    intro w x1 x2 x3 x4 x5 zx zw h
    cases h
  | succ n0 ih =>
    intro w x1 x2 x3 x4 x5 zx zw h
    rw [fX12_wedding_L55] at h
    refine ap_iload dX12_wedding_55 5 rfl ?_
    refine ap_aload_n dX12_wedding_57 0 rfl rfl ?_
    refine ap_callV (k := 77) (As := []) (st := [.int x5]) (st1 := [.int (fX12_candles w), .int x5]) (mcX12_candles  (w := w) (zx := fX12_candles w) rfl) cv_X12_57 rfl ly_77 ⟨rfl, rfl, by decide, by decide⟩ rfl (Nat.le_of_ble_eq_true rfl) ⟨Nat.zero_le _, Nat.zero_le _⟩ dX12_wedding_58 rfl rfl ?_
    refine ap_icmp_ge (tgt := 99) dX12_wedding_61 (by decide) (fun hc8 => ?_) (fun hc8 => ?_)
    · rw [if_pos hc8] at h
      refine ap_aload_n dX12_wedding_99 0 rfl rfl ?_
      refine ap_iload_n dX12_wedding_100 1 rfl rfl ?_
      refine ap_iload_n dX12_wedding_101 3 rfl rfl ?_
      obtain ⟨a9, ha9, h⟩ := Option.bind_eq_some_iff.mp h
      refine ap_callV (k := 77) (As := [.int x1, .int x3]) (st := []) (st1 := [.int a9]) (mcX12_acresOf  (w := w) ha9) cv_X12_172 rfl ly_77 ⟨rfl, rfl, by decide, by decide⟩ rfl (Nat.le_of_ble_eq_true rfl) ⟨Nat.zero_le _, Nat.zero_le _⟩ dX12_wedding_102 rfl rfl ?_
      refine ap_iload dX12_wedding_105 4 rfl ?_
      refine ap_isub dX12_wedding_107 ?_
      obtain ⟨rfl, rfl⟩ := Prod.mk.inj (Option.some.inj h)
      exact ap_iret rfl dX12_wedding_108
    · rw [if_neg hc8] at h
      refine ap_aload_n dX12_wedding_64 0 rfl rfl ?_
      refine ap_get (v := .ref (K.1 83)) fl_X12_30 ly_77 rfl rfl dX12_wedding_65 ?_
      refine ap_iload dX12_wedding_68 5 rfl ?_
      refine ap_aload_n dX12_wedding_70 0 rfl rfl ?_
      refine ap_get (v := .ref (K.1 83)) fl_X12_30 ly_77 rfl rfl dX12_wedding_71 ?_
      refine ap_iload dX12_wedding_74 5 rfl ?_
      obtain ⟨a10, ha10, h⟩ := Option.bind_eq_some_iff.mp h
      refine ap_iald ly_83 ha10 dX12_wedding_76 ?_
      refine ap_iload_n dX12_wedding_77 2 rfl rfl ?_
      refine ap_icmp_ne (tgt := 85) dX12_wedding_78 (by decide) (fun hc11 => ?_) (fun hc11 => ?_)
      · rw [if_neg hc11] at h
        refine ap_aload_n dX12_wedding_85 0 rfl rfl ?_
        refine ap_get (v := .ref (K.1 83)) fl_X12_30 ly_77 rfl rfl dX12_wedding_86 ?_
        refine ap_iload dX12_wedding_89 5 rfl ?_
        obtain ⟨a12, ha12, h⟩ := Option.bind_eq_some_iff.mp h
        refine ap_iald ly_83 ha12 dX12_wedding_91 ?_
        exact AX12_wedding_L92 (fun q0 q1 q2 q3 q4 q5 q6 q7 hq => ih q0 q1 q2 q3 q4 q5 hq)  h
      · rw [if_pos hc11] at h
        refine ap_iload_n dX12_wedding_81 1 rfl rfl ?_
        refine ap_goto (tgt := 92) dX12_wedding_82 (by decide) ?_
        exact AX12_wedding_L92 (fun q0 q1 q2 q3 q4 q5 q6 q7 hq => ih q0 q1 q2 q3 q4 q5 hq)  h
def fX12_wedding (N : Nat) (w : Mm) (x1 : Int32) (x2 : Int32) (x3 : Int32) : Option (Int32 × Mm) :=
if (fX12_isOwner x1) = (0 : Int32) then (
fX12_wedding_L26 N w)
else (
if (fX12_isOwner x2) = (0 : Int32) then (
fX12_wedding_L26 N w)
else (
if x1 = x2 then (
fX12_wedding_L26 N w)
else (
if (fX12_isHour x3) = (0 : Int32) then (
fX12_wedding_L26 N w)
else (
Option.bind (fX12_layHand N w) fun m5 =>
Option.bind (fX12_acresOf N m5 x1 x3) fun a6 =>
Option.bind (fX12_acresOf N m5 x2 x3) fun a7 =>
fX12_wedding_L55 N N m5 x1 x2 x3 (a6 + a7) (0 : Int32)))))
set_option maxRecDepth 100000 in
set_option maxHeartbeats 4000000 in
theorem AX12_wedding {l : Launch} {K : Kt} {N : Nat}  {w : Mm} {x1 : Int32} {x2 : Int32} {x3 : Int32} {zx : Int32} {zw : Mm} (h : fX12_wedding N w x1 x2 x3 = some (zx, zw)) : AW l K cX12_wedding RX12 6 (some .int) rmX12_wedding 0 0 ap_E (ap_F K (some (.int zx)) zw) w 0 [(0, .ref (K.1 77)), (1, .int x1), (2, .int x2), (3, .int x3)] [] := by
  unfold fX12_wedding at h
  refine ap_iload_n dX12_wedding_0 1 rfl rfl ?_
  refine ap_callS (As := [.int x1]) (st := []) (st1 := [.int (fX12_isOwner x1)]) (mcX12_isOwner  (w := w) (zx := fX12_isOwner x1) rfl) cs_X12_92 ⟨rfl, rfl, by decide, by decide⟩ rfl (Nat.le_of_ble_eq_true rfl) ⟨Nat.zero_le _, Nat.zero_le _⟩ dX12_wedding_1 rfl rfl ?_
  refine ap_if_eq (tgt := 26) dX12_wedding_4 (by decide) (fun hc1 => ?_) (fun hc1 => ?_)
  · rw [if_pos hc1] at h
    refine ap_sub [0] rfl ?_
    exact AX12_wedding_L26   h
  · rw [if_neg hc1] at h
    refine ap_iload_n dX12_wedding_7 2 rfl rfl ?_
    refine ap_callS (As := [.int x2]) (st := []) (st1 := [.int (fX12_isOwner x2)]) (mcX12_isOwner  (w := w) (zx := fX12_isOwner x2) rfl) cs_X12_92 ⟨rfl, rfl, by decide, by decide⟩ rfl (Nat.le_of_ble_eq_true rfl) ⟨Nat.zero_le _, Nat.zero_le _⟩ dX12_wedding_8 rfl rfl ?_
    refine ap_if_eq (tgt := 26) dX12_wedding_11 (by decide) (fun hc2 => ?_) (fun hc2 => ?_)
    · rw [if_pos hc2] at h
      refine ap_sub [0] rfl ?_
      exact AX12_wedding_L26   h
    · rw [if_neg hc2] at h
      refine ap_iload_n dX12_wedding_14 1 rfl rfl ?_
      refine ap_iload_n dX12_wedding_15 2 rfl rfl ?_
      refine ap_icmp_eq (tgt := 26) dX12_wedding_16 (by decide) (fun hc3 => ?_) (fun hc3 => ?_)
      · rw [if_pos hc3] at h
        refine ap_sub [0] rfl ?_
        exact AX12_wedding_L26   h
      · rw [if_neg hc3] at h
        refine ap_iload_n dX12_wedding_19 3 rfl rfl ?_
        refine ap_callS (As := [.int x3]) (st := []) (st1 := [.int (fX12_isHour x3)]) (mcX12_isHour  (w := w) (zx := fX12_isHour x3) rfl) cs_X12_151 ⟨rfl, rfl, by decide, by decide⟩ rfl (Nat.le_of_ble_eq_true rfl) ⟨Nat.zero_le _, Nat.zero_le _⟩ dX12_wedding_20 rfl rfl ?_
        refine ap_if_ne (tgt := 33) dX12_wedding_23 (by decide) (fun hc4 => ?_) (fun hc4 => ?_)
        · rw [if_neg hc4] at h
          refine ap_aload_n dX12_wedding_33 0 rfl rfl ?_
          obtain ⟨m5, hm5, h⟩ := Option.bind_eq_some_iff.mp h
          refine ap_callV (k := 77) (As := []) (st := []) (st1 := []) (mcX12_layHand  hm5) cv_X12_154 rfl ly_77 ⟨rfl, rfl, by decide, by decide⟩ rfl (Nat.le_of_ble_eq_true rfl) ⟨Nat.zero_le _, Nat.zero_le _⟩ dX12_wedding_34 rfl rfl ?_
          refine ap_aload_n dX12_wedding_37 0 rfl rfl ?_
          refine ap_iload_n dX12_wedding_38 1 rfl rfl ?_
          refine ap_iload_n dX12_wedding_39 3 rfl rfl ?_
          obtain ⟨a6, ha6, h⟩ := Option.bind_eq_some_iff.mp h
          refine ap_callV (k := 77) (As := [.int x1, .int x3]) (st := []) (st1 := [.int a6]) (mcX12_acresOf  (w := m5) ha6) cv_X12_172 rfl ly_77 ⟨rfl, rfl, by decide, by decide⟩ rfl (Nat.le_of_ble_eq_true rfl) ⟨Nat.zero_le _, Nat.zero_le _⟩ dX12_wedding_40 rfl rfl ?_
          refine ap_aload_n dX12_wedding_43 0 rfl rfl ?_
          refine ap_iload_n dX12_wedding_44 2 rfl rfl ?_
          refine ap_iload_n dX12_wedding_45 3 rfl rfl ?_
          obtain ⟨a7, ha7, h⟩ := Option.bind_eq_some_iff.mp h
          refine ap_callV (k := 77) (As := [.int x2, .int x3]) (st := [.int a6]) (st1 := [.int a7, .int a6]) (mcX12_acresOf  (w := m5) ha7) cv_X12_172 rfl ly_77 ⟨rfl, rfl, by decide, by decide⟩ rfl (Nat.le_of_ble_eq_true rfl) ⟨Nat.zero_le _, Nat.zero_le _⟩ dX12_wedding_46 rfl rfl ?_
          refine ap_iadd dX12_wedding_49 ?_
          refine ap_istore (i := 4) (lv' := [(4, .int (a6 + a7)), (0, .ref (K.1 77)), (1, .int x1), (2, .int x2), (3, .int x3)]) dX12_wedding_50 (by decide) rfl ?_
          refine ap_iconst (v := 0) dX12_wedding_52 (by decide) ?_
          refine ap_istore (i := 5) (lv' := [(5, .int (0 : Int32)), (4, .int (a6 + a7)), (0, .ref (K.1 77)), (1, .int x1), (2, .int x2), (3, .int x3)]) dX12_wedding_53 (by decide) rfl ?_
          refine ap_sub [2, 3, 4, 5, 1, 0] rfl ?_
          exact AX12_wedding_L55  N _ _ _ _ _ _ h
        · rw [if_pos hc4] at h
          refine ap_sub [0] rfl ?_
          exact AX12_wedding_L26   h
theorem mcX12_wedding {l : Launch} {K : Kt} {N : Nat}  {w : Mm} {x1 : Int32} {x2 : Int32} {x3 : Int32} {zx : Int32} {zw : Mm} (h : fX12_wedding N w x1 x2 x3 = some (zx, zw)) : MC l K yX12_wedding cX12_wedding 6 (some .int) rmX12_wedding w [.ref (K.1 77), .int x1, .int x2, .int x3] (some (.int zx)) zw :=
  MC.of (by decide) (Nat.le_of_ble_eq_true rfl) rfl (AX12_wedding  h)
def fX12_ownOf_L4 (N : Nat) (w : Mm) : Nat → Int32 → Int32 → Int32 → Option Int32
  | 0, _, _, _ => none
  | n0 + 1, x1, x2, x3 => if (fX12_candles w) ≤ x3 then (
some x2)
else (
Option.bind (fX12_get w x3 (3 : Int32)) fun a2 =>
if a2 = x1 then (
(fX12_ownOf_L4 N w n0) x1 (x2 ||| ((1 : Int32) <<< (x3 &&& 31))) (x3 + 1))
else (
(fX12_ownOf_L4 N w n0) x1 (x2 ||| (0 : Int32)) (x3 + 1)))
set_option maxRecDepth 100000 in
set_option maxHeartbeats 4000000 in
theorem AX12_ownOf_L4 {l : Launch} {K : Kt} {N : Nat} {w : Mm}   : ∀ (n0 : Nat) (x1 : Int32) (x2 : Int32) (x3 : Int32) {zx : Int32}, fX12_ownOf_L4 N w n0 x1 x2 x3 = some zx → AW l K cX12_ownOf RX12 4 (some .int) rmX12_ownOf 0 0 ap_E (ap_F K (some (.int zx)) w) w 4 [(0, .ref (K.1 77)), (1, .int x1), (2, .int x2), (3, .int x3)] [] := by
  intro n0
  induction n0 with
  | zero =>
    intro x1 x2 x3 zx h
    cases h
  | succ n0 ih =>
    intro x1 x2 x3 zx h
    rw [fX12_ownOf_L4] at h
    refine ap_iload_n dX12_ownOf_4 3 rfl rfl ?_
    refine ap_aload_n dX12_ownOf_5 0 rfl rfl ?_
    refine ap_callV (k := 77) (As := []) (st := [.int x3]) (st1 := [.int (fX12_candles w), .int x3]) (mcX12_candles  (w := w) (zx := fX12_candles w) rfl) cv_X12_57 rfl ly_77 ⟨rfl, rfl, by decide, by decide⟩ rfl (Nat.le_of_ble_eq_true rfl) ⟨Nat.zero_le _, Nat.zero_le _⟩ dX12_ownOf_6 rfl rfl ?_
    refine ap_icmp_ge (tgt := 38) dX12_ownOf_9 (by decide) (fun hc1 => ?_) (fun hc1 => ?_)
    · rw [if_pos hc1] at h
      refine ap_iload_n dX12_ownOf_38 2 rfl rfl ?_
      obtain rfl := Option.some.inj h
      exact ap_iret rfl dX12_ownOf_39
    · rw [if_neg hc1] at h
      refine ap_iload_n dX12_ownOf_12 2 rfl rfl ?_
      refine ap_aload_n dX12_ownOf_13 0 rfl rfl ?_
      refine ap_iload_n dX12_ownOf_14 3 rfl rfl ?_
      refine ap_iconst (v := 3) dX12_ownOf_15 (by decide) ?_
      obtain ⟨a2, ha2, h⟩ := Option.bind_eq_some_iff.mp h
      refine ap_callV (k := 77) (As := [.int x3, .int (3 : Int32)]) (st := [.int x2]) (st1 := [.int a2, .int x2]) (mcX12_get  (w := w) ha2) cv_X12_104 rfl ly_77 ⟨rfl, rfl, by decide, by decide⟩ rfl (Nat.le_of_ble_eq_true rfl) ⟨Nat.zero_le _, Nat.zero_le _⟩ dX12_ownOf_16 rfl rfl ?_
      refine ap_iload_n dX12_ownOf_19 1 rfl rfl ?_
      refine ap_icmp_ne (tgt := 29) dX12_ownOf_20 (by decide) (fun hc3 => ?_) (fun hc3 => ?_)
      · rw [if_neg hc3] at h
        refine ap_iconst (v := 0) dX12_ownOf_29 (by decide) ?_
        refine ap_ior dX12_ownOf_30 ?_
        refine ap_istore_n (i := 2) (lv' := [(2, .int (x2 ||| (0 : Int32))), (0, .ref (K.1 77)), (1, .int x1), (3, .int x3)]) dX12_ownOf_31 rfl (by decide) rfl ?_
        refine ap_iinc (v := x3 + 1) (lv' := [(3, .int (x3 + 1)), (2, .int (x2 ||| (0 : Int32))), (0, .ref (K.1 77)), (1, .int x1)]) dX12_ownOf_32 3 rfl rfl (by decide) rfl ?_
        refine ap_goto (tgt := 4) dX12_ownOf_35 (by decide) ?_
        refine ap_sub [2, 3, 1, 0] rfl ?_
        exact ih _ _ _ h
      · rw [if_pos hc3] at h
        refine ap_iconst (v := 1) dX12_ownOf_23 (by decide) ?_
        refine ap_iload_n dX12_ownOf_24 3 rfl rfl ?_
        refine ap_ishl dX12_ownOf_25 ?_
        refine ap_goto (tgt := 30) dX12_ownOf_26 (by decide) ?_
        refine ap_ior dX12_ownOf_30 ?_
        refine ap_istore_n (i := 2) (lv' := [(2, .int (x2 ||| ((1 : Int32) <<< (x3 &&& 31)))), (0, .ref (K.1 77)), (1, .int x1), (3, .int x3)]) dX12_ownOf_31 rfl (by decide) rfl ?_
        refine ap_iinc (v := x3 + 1) (lv' := [(3, .int (x3 + 1)), (2, .int (x2 ||| ((1 : Int32) <<< (x3 &&& 31)))), (0, .ref (K.1 77)), (1, .int x1)]) dX12_ownOf_32 3 rfl rfl (by decide) rfl ?_
        refine ap_goto (tgt := 4) dX12_ownOf_35 (by decide) ?_
        refine ap_sub [2, 3, 1, 0] rfl ?_
        exact ih _ _ _ h
def fX12_ownOf (N : Nat) (w : Mm) (x1 : Int32) : Option Int32 :=
fX12_ownOf_L4 N w N x1 (0 : Int32) (0 : Int32)
set_option maxRecDepth 100000 in
set_option maxHeartbeats 4000000 in
theorem AX12_ownOf {l : Launch} {K : Kt} {N : Nat} {w : Mm}  {x1 : Int32} {zx : Int32} (h : fX12_ownOf N w x1 = some zx) : AW l K cX12_ownOf RX12 4 (some .int) rmX12_ownOf 0 0 ap_E (ap_F K (some (.int zx)) w) w 0 [(0, .ref (K.1 77)), (1, .int x1)] [] := by
  unfold fX12_ownOf at h
  refine ap_iconst (v := 0) dX12_ownOf_0 (by decide) ?_
  refine ap_istore_n (i := 2) (lv' := [(2, .int (0 : Int32)), (0, .ref (K.1 77)), (1, .int x1)]) dX12_ownOf_1 rfl (by decide) rfl ?_
  refine ap_iconst (v := 0) dX12_ownOf_2 (by decide) ?_
  refine ap_istore_n (i := 3) (lv' := [(3, .int (0 : Int32)), (2, .int (0 : Int32)), (0, .ref (K.1 77)), (1, .int x1)]) dX12_ownOf_3 rfl (by decide) rfl ?_
  refine ap_sub [2, 3, 1, 0] rfl ?_
  exact AX12_ownOf_L4  N _ _ _ h
theorem mcX12_ownOf {l : Launch} {K : Kt} {N : Nat} {w : Mm}  {x1 : Int32} {zx : Int32} (h : fX12_ownOf N w x1 = some zx) : MC l K yX12_ownOf cX12_ownOf 4 (some .int) rmX12_ownOf w [.ref (K.1 77), .int x1] (some (.int zx)) w :=
  MC.of (by decide) (Nat.le_of_ble_eq_true rfl) rfl (AX12_ownOf  h)
def fX12_layGets_L69 (N : Nat) (k29 : Mm → Int32 → Int32 → Int32 → Int32 → Int32 → Int32 → Option Mm) (w : Mm) (x1 : Int32) (x2 : Int32) (x3 : Int32) (x4 : Int32) (x5 : Int32) (x6 : Int32) (x7 : Int32) (t0 : Int32) : Option Mm :=
Option.bind (some (sI w 77 6 ((x5 ||| x7) ||| t0))) fun m9 =>
Option.bind (fX12_acresOf N m9 x1 x3) fun a10 =>
Option.bind (fX12_bits N x7) fun a11 =>
Option.bind (wrA m9 85 4 x6 (a10 - ((x4 * a11) / (10 : Int32)))) fun m12 =>
Option.bind (fX12_acresOf N m12 x2 x3) fun a13 =>
Option.bind (fX12_bits N t0) fun a14 =>
Option.bind (wrA m12 86 4 x6 (a13 - ((x4 * a14) / (10 : Int32)))) fun m15 =>
k29 m15 x1 x2 x3 x4 x5 (x6 + 1)
set_option maxRecDepth 100000 in
set_option maxHeartbeats 4000000 in
theorem AX12_layGets_L69 {l : Launch} {K : Kt} {N : Nat} {k29 : Mm → Int32 → Int32 → Int32 → Int32 → Int32 → Int32 → Option Mm} (hk29 : ∀ (w : Mm) (x1 : Int32) (x2 : Int32) (x3 : Int32) (x4 : Int32) (x5 : Int32) (x6 : Int32) (zw : Mm), k29 w x1 x2 x3 x4 x5 x6 = some zw → AW l K cX12_layGets RX12 9 none rmX12_layGets 0 0 ap_E (ap_F K none zw) w 29 [(0, .ref (K.1 77)), (1, .int x1), (2, .int x2), (3, .int x3), (4, .int x4), (5, .int x5), (6, .int x6)] [])  {w : Mm} {x1 : Int32} {x2 : Int32} {x3 : Int32} {x4 : Int32} {x5 : Int32} {x6 : Int32} {x7 : Int32} {t0 : Int32} {zw : Mm} (h : fX12_layGets_L69 N k29 w x1 x2 x3 x4 x5 x6 x7 t0 = some zw) : AW l K cX12_layGets RX12 9 none rmX12_layGets 0 0 ap_E (ap_F K none zw) w 69 [(0, .ref (K.1 77)), (1, .int x1), (2, .int x2), (3, .int x3), (4, .int x4), (5, .int x5), (6, .int x6), (7, .int x7)] [.int t0] := by
  unfold fX12_layGets_L69 at h
  refine ap_istore (i := 8) (lv' := [(8, .int t0), (0, .ref (K.1 77)), (1, .int x1), (2, .int x2), (3, .int x3), (4, .int x4), (5, .int x5), (6, .int x6), (7, .int x7)]) dX12_layGets_69 (by decide) rfl ?_
  refine ap_aload_n dX12_layGets_71 1 rfl rfl ?_
  refine ap_iload dX12_layGets_72 6 rfl ?_
  refine ap_iload dX12_layGets_74 8 rfl ?_
  refine ap_ior dX12_layGets_76 ?_
  refine ap_iload dX12_layGets_77 0 rfl ?_
  refine ap_ior dX12_layGets_79 ?_
  obtain ⟨m9, hm9, h⟩ := Option.bind_eq_some_iff.mp h
  refine ap_putI fp_X12_126 ly_77 rfl (Option.some.inj hm9) dX12_layGets_80 ?_
  refine ap_aload_n dX12_layGets_83 1 rfl rfl ?_
  refine ap_get (v := .ref (K.1 85)) fl_X12_36 ly_77 rfl rfl dX12_layGets_84 ?_
  refine ap_iload dX12_layGets_87 7 rfl ?_
  refine ap_aload_n dX12_layGets_89 1 rfl rfl ?_
  refine ap_iload_n dX12_layGets_90 2 rfl rfl ?_
  refine ap_iload_n dX12_layGets_91 4 rfl rfl ?_
  obtain ⟨a10, ha10, h⟩ := Option.bind_eq_some_iff.mp h
  refine ap_callV (k := 77) (As := [.int x1, .int x3]) (st := [.int x6, .ref (K.1 85)]) (st1 := [.int a10, .int x6, .ref (K.1 85)]) (mcX12_acresOf  (w := m9) ha10) cv_X12_172 rfl ly_77 ⟨rfl, rfl, by decide, by decide⟩ rfl (Nat.le_of_ble_eq_true rfl) ⟨Nat.zero_le _, Nat.zero_le _⟩ dX12_layGets_92 rfl rfl ?_
  refine ap_iload dX12_layGets_95 5 rfl ?_
  refine ap_iload dX12_layGets_97 8 rfl ?_
  obtain ⟨a11, ha11, h⟩ := Option.bind_eq_some_iff.mp h
  refine ap_callS (As := [.int x7]) (st := [.int x4, .int a10, .int x6, .ref (K.1 85)]) (st1 := [.int a11, .int x4, .int a10, .int x6, .ref (K.1 85)]) (mcX12_bits  (w := m9) ha11) cs_X12_162 ⟨rfl, rfl, by decide, by decide⟩ rfl (Nat.le_of_ble_eq_true rfl) ⟨Nat.zero_le _, Nat.zero_le _⟩ dX12_layGets_99 rfl rfl ?_
  refine ap_imul dX12_layGets_102 ?_
  refine ap_bipush (v := 10) dX12_layGets_103 (by decide) ?_
  refine ap_idiv dX12_layGets_105 (by decide) ?_
  refine ap_isub dX12_layGets_106 ?_
  obtain ⟨m12, hm12, h⟩ := Option.bind_eq_some_iff.mp h
  refine ap_iast ly_85 hm12 dX12_layGets_107 ?_
  refine ap_aload_n dX12_layGets_108 1 rfl rfl ?_
  refine ap_get (v := .ref (K.1 86)) fl_X12_39 ly_77 rfl rfl dX12_layGets_109 ?_
  refine ap_iload dX12_layGets_112 7 rfl ?_
  refine ap_aload_n dX12_layGets_114 1 rfl rfl ?_
  refine ap_iload_n dX12_layGets_115 3 rfl rfl ?_
  refine ap_iload_n dX12_layGets_116 4 rfl rfl ?_
  obtain ⟨a13, ha13, h⟩ := Option.bind_eq_some_iff.mp h
  refine ap_callV (k := 77) (As := [.int x2, .int x3]) (st := [.int x6, .ref (K.1 86)]) (st1 := [.int a13, .int x6, .ref (K.1 86)]) (mcX12_acresOf  (w := m12) ha13) cv_X12_172 rfl ly_77 ⟨rfl, rfl, by decide, by decide⟩ rfl (Nat.le_of_ble_eq_true rfl) ⟨Nat.zero_le _, Nat.zero_le _⟩ dX12_layGets_117 rfl rfl ?_
  refine ap_iload dX12_layGets_120 5 rfl ?_
  refine ap_iload dX12_layGets_122 0 rfl ?_
  obtain ⟨a14, ha14, h⟩ := Option.bind_eq_some_iff.mp h
  refine ap_callS (As := [.int t0]) (st := [.int x4, .int a13, .int x6, .ref (K.1 86)]) (st1 := [.int a14, .int x4, .int a13, .int x6, .ref (K.1 86)]) (mcX12_bits  (w := m12) ha14) cs_X12_162 ⟨rfl, rfl, by decide, by decide⟩ rfl (Nat.le_of_ble_eq_true rfl) ⟨Nat.zero_le _, Nat.zero_le _⟩ dX12_layGets_124 rfl rfl ?_
  refine ap_imul dX12_layGets_127 ?_
  refine ap_bipush (v := 10) dX12_layGets_128 (by decide) ?_
  refine ap_idiv dX12_layGets_130 (by decide) ?_
  refine ap_isub dX12_layGets_131 ?_
  obtain ⟨m15, hm15, h⟩ := Option.bind_eq_some_iff.mp h
  refine ap_iast ly_86 hm15 dX12_layGets_132 ?_
  refine ap_iinc (v := x6 + 1) (lv' := [(6, .int (x6 + 1)), (8, .int t0), (0, .ref (K.1 77)), (1, .int x1), (2, .int x2), (3, .int x3), (4, .int x4), (5, .int x5), (7, .int x7)]) dX12_layGets_133 7 rfl rfl (by decide) rfl ?_
  refine ap_goto (tgt := 29) dX12_layGets_136 (by decide) ?_
  refine ap_sub [2, 3, 4, 5, 6, 7, 0] rfl ?_
  exact hk29 _ _ _ _ _ _ _ _ h
def fX12_layGets_L52 (N : Nat) (k29 : Mm → Int32 → Int32 → Int32 → Int32 → Int32 → Int32 → Option Mm) (w : Mm) (x1 : Int32) (x2 : Int32) (x3 : Int32) (x4 : Int32) (x5 : Int32) (x6 : Int32) (t0 : Int32) : Option Mm :=
if x6 ≤ (1 : Int32) then (
fX12_layGets_L69 N k29 w x1 x2 x3 x4 x5 x6 t0 (0 : Int32))
else (
Option.bind (fX12_ownOf N w x2) fun a8 =>
fX12_layGets_L69 N k29 w x1 x2 x3 x4 x5 x6 t0 a8)
set_option maxRecDepth 100000 in
set_option maxHeartbeats 4000000 in
theorem AX12_layGets_L52 {l : Launch} {K : Kt} {N : Nat} {k29 : Mm → Int32 → Int32 → Int32 → Int32 → Int32 → Int32 → Option Mm} (hk29 : ∀ (w : Mm) (x1 : Int32) (x2 : Int32) (x3 : Int32) (x4 : Int32) (x5 : Int32) (x6 : Int32) (zw : Mm), k29 w x1 x2 x3 x4 x5 x6 = some zw → AW l K cX12_layGets RX12 9 none rmX12_layGets 0 0 ap_E (ap_F K none zw) w 29 [(0, .ref (K.1 77)), (1, .int x1), (2, .int x2), (3, .int x3), (4, .int x4), (5, .int x5), (6, .int x6)] [])  {w : Mm} {x1 : Int32} {x2 : Int32} {x3 : Int32} {x4 : Int32} {x5 : Int32} {x6 : Int32} {t0 : Int32} {zw : Mm} (h : fX12_layGets_L52 N k29 w x1 x2 x3 x4 x5 x6 t0 = some zw) : AW l K cX12_layGets RX12 9 none rmX12_layGets 0 0 ap_E (ap_F K none zw) w 52 [(0, .ref (K.1 77)), (1, .int x1), (2, .int x2), (3, .int x3), (4, .int x4), (5, .int x5), (6, .int x6)] [.int t0] := by
  unfold fX12_layGets_L52 at h
  refine ap_istore (i := 7) (lv' := [(7, .int t0), (0, .ref (K.1 77)), (1, .int x1), (2, .int x2), (3, .int x3), (4, .int x4), (5, .int x5), (6, .int x6)]) dX12_layGets_52 (by decide) rfl ?_
  refine ap_iload dX12_layGets_54 7 rfl ?_
  refine ap_iconst (v := 1) dX12_layGets_56 (by decide) ?_
  refine ap_icmp_le (tgt := 68) dX12_layGets_57 (by decide) (fun hc7 => ?_) (fun hc7 => ?_)
  · rw [if_pos hc7] at h
    refine ap_iconst (v := 0) dX12_layGets_68 (by decide) ?_
    refine ap_sub [1, 2, 3, 4, 5, 6, 7, 0] rfl ?_
    exact AX12_layGets_L69 hk29  h
  · rw [if_neg hc7] at h
    refine ap_aload_n dX12_layGets_60 1 rfl rfl ?_
    refine ap_iload_n dX12_layGets_61 3 rfl rfl ?_
    obtain ⟨a8, ha8, h⟩ := Option.bind_eq_some_iff.mp h
    refine ap_callV (k := 77) (As := [.int x2]) (st := []) (st1 := [.int a8]) (mcX12_ownOf  (w := w) ha8) cv_X12_183 rfl ly_77 ⟨rfl, rfl, by decide, by decide⟩ rfl (Nat.le_of_ble_eq_true rfl) ⟨Nat.zero_le _, Nat.zero_le _⟩ dX12_layGets_62 rfl rfl ?_
    refine ap_goto (tgt := 69) dX12_layGets_65 (by decide) ?_
    refine ap_sub [1, 2, 3, 4, 5, 6, 7, 0] rfl ?_
    exact AX12_layGets_L69 hk29  h
def fX12_layGets_L29 (N : Nat) : Nat → Mm → Int32 → Int32 → Int32 → Int32 → Int32 → Int32 → Option Mm
  | 0, _, _, _, _, _, _, _ => none
  | n0 + 1, w, x1, x2, x3, x4, x5, x6 => if (4 : Int32) ≤ x6 then (
some w)
else (
if (x6 &&& (1 : Int32)) = (1 : Int32) then (
Option.bind (fX12_ownOf N w x1) fun a6 =>
fX12_layGets_L52 N (fX12_layGets_L29 N n0) w x1 x2 x3 x4 x5 x6 a6)
else (
fX12_layGets_L52 N (fX12_layGets_L29 N n0) w x1 x2 x3 x4 x5 x6 (0 : Int32)))
set_option maxRecDepth 100000 in
set_option maxHeartbeats 4000000 in
theorem AX12_layGets_L29 {l : Launch} {K : Kt} {N : Nat}   : ∀ (n0 : Nat) (w : Mm) (x1 : Int32) (x2 : Int32) (x3 : Int32) (x4 : Int32) (x5 : Int32) (x6 : Int32) {zw : Mm}, fX12_layGets_L29 N n0 w x1 x2 x3 x4 x5 x6 = some zw → AW l K cX12_layGets RX12 9 none rmX12_layGets 0 0 ap_E (ap_F K none zw) w 29 [(0, .ref (K.1 77)), (1, .int x1), (2, .int x2), (3, .int x3), (4, .int x4), (5, .int x5), (6, .int x6)] [] := by
  intro n0
  induction n0 with
  | zero =>
    intro w x1 x2 x3 x4 x5 x6 zw h
    cases h
  | succ n0 ih =>
    intro w x1 x2 x3 x4 x5 x6 zw h
    rw [fX12_layGets_L29] at h
    refine ap_iload dX12_layGets_29 6 rfl ?_
    refine ap_iconst (v := 4) dX12_layGets_31 (by decide) ?_
    refine ap_icmp_ge (tgt := 139) dX12_layGets_32 (by decide) (fun hc4 => ?_) (fun hc4 => ?_)
    · rw [if_pos hc4] at h
      obtain rfl := Option.some.inj h
      exact ap_vret rfl dX12_layGets_139
    · rw [if_neg hc4] at h
      refine ap_iload dX12_layGets_35 6 rfl ?_
      refine ap_iconst (v := 1) dX12_layGets_37 (by decide) ?_
      refine ap_iand dX12_layGets_38 ?_
      refine ap_iconst (v := 1) dX12_layGets_39 (by decide) ?_
      refine ap_icmp_ne (tgt := 51) dX12_layGets_40 (by decide) (fun hc5 => ?_) (fun hc5 => ?_)
      · rw [if_neg hc5] at h
        refine ap_iconst (v := 0) dX12_layGets_51 (by decide) ?_
        exact AX12_layGets_L52 (fun q0 q1 q2 q3 q4 q5 q6 q7 hq => ih q0 q1 q2 q3 q4 q5 q6 hq)  h
      · rw [if_pos hc5] at h
        refine ap_aload_n dX12_layGets_43 0 rfl rfl ?_
        refine ap_iload_n dX12_layGets_44 1 rfl rfl ?_
        obtain ⟨a6, ha6, h⟩ := Option.bind_eq_some_iff.mp h
        refine ap_callV (k := 77) (As := [.int x1]) (st := []) (st1 := [.int a6]) (mcX12_ownOf  (w := w) ha6) cv_X12_183 rfl ly_77 ⟨rfl, rfl, by decide, by decide⟩ rfl (Nat.le_of_ble_eq_true rfl) ⟨Nat.zero_le _, Nat.zero_le _⟩ dX12_layGets_45 rfl rfl ?_
        refine ap_goto (tgt := 52) dX12_layGets_48 (by decide) ?_
        exact AX12_layGets_L52 (fun q0 q1 q2 q3 q4 q5 q6 q7 hq => ih q0 q1 q2 q3 q4 q5 q6 hq)  h
def fX12_layGets_L26 (N : Nat) (w : Mm) (x1 : Int32) (x2 : Int32) (x3 : Int32) (x4 : Int32) (x5 : Int32) : Option Mm :=
fX12_layGets_L29 N N w x1 x2 x3 x4 x5 (0 : Int32)
set_option maxRecDepth 100000 in
set_option maxHeartbeats 4000000 in
theorem AX12_layGets_L26 {l : Launch} {K : Kt} {N : Nat}   {w : Mm} {x1 : Int32} {x2 : Int32} {x3 : Int32} {x4 : Int32} {x5 : Int32} {zw : Mm} (h : fX12_layGets_L26 N w x1 x2 x3 x4 x5 = some zw) : AW l K cX12_layGets RX12 9 none rmX12_layGets 0 0 ap_E (ap_F K none zw) w 26 [(0, .ref (K.1 77)), (1, .int x1), (2, .int x2), (3, .int x3), (4, .int x4), (5, .int x5)] [] := by
  unfold fX12_layGets_L26 at h
  refine ap_iconst (v := 0) dX12_layGets_26 (by decide) ?_
  refine ap_istore (i := 6) (lv' := [(6, .int (0 : Int32)), (0, .ref (K.1 77)), (1, .int x1), (2, .int x2), (3, .int x3), (4, .int x4), (5, .int x5)]) dX12_layGets_27 (by decide) rfl ?_
  refine ap_sub [1, 2, 3, 4, 5, 6, 0] rfl ?_
  exact AX12_layGets_L29  N _ _ _ _ _ _ _ h
def fX12_layGets (N : Nat) (w : Mm) (x1 : Int32) (x2 : Int32) (x3 : Int32) (x4 : Int32) : Option Mm :=
Option.bind (fX12_layHand N w) fun m1 =>
Option.bind (fX12_ownOf N m1 x1) fun a2 =>
Option.bind (fX12_ownOf N m1 x2) fun a3 =>
fX12_layGets_L26 N m1 x1 x2 x3 x4 (((m1.1 77 6) &&& (a2 ^^^ (-1 : Int32))) &&& (a3 ^^^ (-1 : Int32)))
set_option maxRecDepth 100000 in
set_option maxHeartbeats 4000000 in
theorem AX12_layGets {l : Launch} {K : Kt} {N : Nat}  {w : Mm} {x1 : Int32} {x2 : Int32} {x3 : Int32} {x4 : Int32} {zw : Mm} (h : fX12_layGets N w x1 x2 x3 x4 = some zw) : AW l K cX12_layGets RX12 9 none rmX12_layGets 0 0 ap_E (ap_F K none zw) w 0 [(0, .ref (K.1 77)), (1, .int x1), (2, .int x2), (3, .int x3), (4, .int x4)] [] := by
  unfold fX12_layGets at h
  refine ap_aload_n dX12_layGets_0 0 rfl rfl ?_
  obtain ⟨m1, hm1, h⟩ := Option.bind_eq_some_iff.mp h
  refine ap_callV (k := 77) (As := []) (st := []) (st1 := []) (mcX12_layHand  hm1) cv_X12_154 rfl ly_77 ⟨rfl, rfl, by decide, by decide⟩ rfl (Nat.le_of_ble_eq_true rfl) ⟨Nat.zero_le _, Nat.zero_le _⟩ dX12_layGets_1 rfl rfl ?_
  refine ap_aload_n dX12_layGets_4 0 rfl rfl ?_
  refine ap_get (v := .int (m1.1 77 6)) fl_X12_126 ly_77 rfl rfl dX12_layGets_5 ?_
  refine ap_aload_n dX12_layGets_8 0 rfl rfl ?_
  refine ap_iload_n dX12_layGets_9 1 rfl rfl ?_
  obtain ⟨a2, ha2, h⟩ := Option.bind_eq_some_iff.mp h
  refine ap_callV (k := 77) (As := [.int x1]) (st := [.int (m1.1 77 6)]) (st1 := [.int a2, .int (m1.1 77 6)]) (mcX12_ownOf  (w := m1) ha2) cv_X12_183 rfl ly_77 ⟨rfl, rfl, by decide, by decide⟩ rfl (Nat.le_of_ble_eq_true rfl) ⟨Nat.zero_le _, Nat.zero_le _⟩ dX12_layGets_10 rfl rfl ?_
  refine ap_iconst (v := -1) dX12_layGets_13 (by decide) ?_
  refine ap_ixor dX12_layGets_14 ?_
  refine ap_iand dX12_layGets_15 ?_
  refine ap_aload_n dX12_layGets_16 0 rfl rfl ?_
  refine ap_iload_n dX12_layGets_17 2 rfl rfl ?_
  obtain ⟨a3, ha3, h⟩ := Option.bind_eq_some_iff.mp h
  refine ap_callV (k := 77) (As := [.int x2]) (st := [.int ((m1.1 77 6) &&& (a2 ^^^ (-1 : Int32)))]) (st1 := [.int a3, .int ((m1.1 77 6) &&& (a2 ^^^ (-1 : Int32)))]) (mcX12_ownOf  (w := m1) ha3) cv_X12_183 rfl ly_77 ⟨rfl, rfl, by decide, by decide⟩ rfl (Nat.le_of_ble_eq_true rfl) ⟨Nat.zero_le _, Nat.zero_le _⟩ dX12_layGets_18 rfl rfl ?_
  refine ap_iconst (v := -1) dX12_layGets_21 (by decide) ?_
  refine ap_ixor dX12_layGets_22 ?_
  refine ap_iand dX12_layGets_23 ?_
  refine ap_istore (i := 5) (lv' := [(5, .int (((m1.1 77 6) &&& (a2 ^^^ (-1 : Int32))) &&& (a3 ^^^ (-1 : Int32)))), (0, .ref (K.1 77)), (1, .int x1), (2, .int x2), (3, .int x3), (4, .int x4)]) dX12_layGets_24 (by decide) rfl ?_
  refine ap_sub [1, 2, 3, 4, 5, 0] rfl ?_
  exact AX12_layGets_L26   h
theorem mcX12_layGets {l : Launch} {K : Kt} {N : Nat}  {w : Mm} {x1 : Int32} {x2 : Int32} {x3 : Int32} {x4 : Int32} {zw : Mm} (h : fX12_layGets N w x1 x2 x3 x4 = some zw) : MC l K yX12_layGets cX12_layGets 9 none rmX12_layGets w [.ref (K.1 77), .int x1, .int x2, .int x3, .int x4] none zw :=
  MC.of (by decide) (Nat.le_of_ble_eq_true rfl) rfl (AX12_layGets  h)

def fX4_strength (x1 : Int32) (x2 : Int32) : Int32 :=
if x1 ≤ x2 then (
(0 : Int32))
else (
(x1 - x2))
set_option maxRecDepth 100000 in
set_option maxHeartbeats 4000000 in
theorem AX4_strength {l : Launch} {K : Kt} {o : Nat} {w : Mm} (ho : isK o) {x1 : Int32} {x2 : Int32} {zx : Int32} (h : fX4_strength x1 x2 = zx) : AW l K cX4_strength RX4 3 (some .int) rmX4_strength 0 0 ap_E (ap_F K (some (.int zx)) w) w 0 [(0, .ref (K.1 o)), (1, .int x1), (2, .int x2)] [] := by
  unfold fX4_strength at h
  refine ap_iload_n dX4_strength_0 1 rfl rfl ?_
  refine ap_iload_n dX4_strength_1 2 rfl rfl ?_
  refine ap_icmp_le (tgt := 11) dX4_strength_2 (by decide) (fun hc1 => ?_) (fun hc1 => ?_)
  · rw [if_pos hc1] at h
    refine ap_iconst (v := 0) dX4_strength_11 (by decide) ?_
    subst h
    exact ap_iret rfl dX4_strength_12
  · rw [if_neg hc1] at h
    refine ap_iload_n dX4_strength_5 1 rfl rfl ?_
    refine ap_iload_n dX4_strength_6 2 rfl rfl ?_
    refine ap_isub dX4_strength_7 ?_
    refine ap_goto (tgt := 12) dX4_strength_8 (by decide) ?_
    subst h
    exact ap_iret rfl dX4_strength_12
theorem mcX4_strength {l : Launch} {K : Kt} {o : Nat} {w : Mm} (ho : isK o) {x1 : Int32} {x2 : Int32} {zx : Int32} (h : fX4_strength x1 x2 = zx) : MC l K yX4_strength cX4_strength 3 (some .int) rmX4_strength w [.ref (K.1 o), .int x1, .int x2] (some (.int zx)) w :=
  MC.of (by decide) (Nat.le_of_ble_eq_true rfl) rfl (AX4_strength ho h)
def fX10_strength (x1 : Int32) (x2 : Int32) : Int32 :=
if (fX4_strength x1 x2) ≤ (0 : Int32) then (
(0 : Int32))
else (
((fX4_strength x1 x2) + (3 : Int32)))
set_option maxRecDepth 100000 in
set_option maxHeartbeats 4000000 in
theorem AX10_strength {l : Launch} {K : Kt} {o : Nat} {w : Mm} (ho : isK o) {x1 : Int32} {x2 : Int32} {zx : Int32} (h : fX10_strength x1 x2 = zx) : AW l K cX10_strength RX10 4 (some .int) rmX10_strength 0 0 ap_E (ap_F K (some (.int zx)) w) w 0 [(0, .ref (K.1 o)), (1, .int x1), (2, .int x2)] [] := by
  unfold fX10_strength at h
  refine ap_aload_n dX10_strength_0 0 rfl rfl ?_
  refine ap_iload_n dX10_strength_1 1 rfl rfl ?_
  refine ap_iload_n dX10_strength_2 2 rfl rfl ?_
  obtain ⟨oci, oq, ofds, ocl, oly⟩ := id ho
  refine ap_callU (k := o) (As := [.int x1, .int x2]) (st := []) (st1 := [.int (fX4_strength x1 x2)]) (mcX4_strength ho (w := w) (zx := fX4_strength x1 x2) rfl) cu_X10_7 ocl oly ⟨rfl, rfl, by decide, by decide⟩ rfl (Nat.le_of_ble_eq_true rfl) ⟨Nat.zero_le _, Nat.zero_le _⟩ dX10_strength_3 rfl rfl ?_
  refine ap_istore_n (i := 3) (lv' := [(3, .int (fX4_strength x1 x2)), (0, .ref (K.1 o)), (1, .int x1), (2, .int x2)]) dX10_strength_6 rfl (by decide) rfl ?_
  refine ap_iload_n dX10_strength_7 0 rfl rfl ?_
  refine ap_if_le (tgt := 17) dX10_strength_8 (by decide) (fun hc1 => ?_) (fun hc1 => ?_)
  · rw [if_pos hc1] at h
    refine ap_iconst (v := 0) dX10_strength_17 (by decide) ?_
    subst h
    exact ap_iret rfl dX10_strength_18
  · rw [if_neg hc1] at h
    refine ap_iload_n dX10_strength_11 0 rfl rfl ?_
    refine ap_iconst (v := 3) dX10_strength_12 (by decide) ?_
    refine ap_iadd dX10_strength_13 ?_
    refine ap_goto (tgt := 18) dX10_strength_14 (by decide) ?_
    subst h
    exact ap_iret rfl dX10_strength_18
theorem mcX10_strength {l : Launch} {K : Kt} {o : Nat} {w : Mm} (ho : isK o) {x1 : Int32} {x2 : Int32} {zx : Int32} (h : fX10_strength x1 x2 = zx) : MC l K yX10_strength cX10_strength 4 (some .int) rmX10_strength w [.ref (K.1 o), .int x1, .int x2] (some (.int zx)) w :=
  MC.of (by decide) (Nat.le_of_ble_eq_true rfl) rfl (AX10_strength ho h)
def fX0_strength (x1 : Int32) (x2 : Int32) : Int32 :=
((fX10_strength x1 x2) / (2 : Int32))
set_option maxRecDepth 100000 in
set_option maxHeartbeats 4000000 in
theorem AX0_strength {l : Launch} {K : Kt} {o : Nat} {w : Mm} (ho : isK o) {x1 : Int32} {x2 : Int32} {zx : Int32} (h : fX0_strength x1 x2 = zx) : AW l K cX0_strength RX0 3 (some .int) rmX0_strength 0 0 ap_E (ap_F K (some (.int zx)) w) w 0 [(0, .ref (K.1 o)), (1, .int x1), (2, .int x2)] [] := by
  unfold fX0_strength at h
  refine ap_aload_n dX0_strength_0 0 rfl rfl ?_
  refine ap_iload_n dX0_strength_1 1 rfl rfl ?_
  refine ap_iload_n dX0_strength_2 2 rfl rfl ?_
  obtain ⟨oci, oq, ofds, ocl, oly⟩ := id ho
  refine ap_callU (k := o) (As := [.int x1, .int x2]) (st := []) (st1 := [.int (fX10_strength x1 x2)]) (mcX10_strength ho (w := w) (zx := fX10_strength x1 x2) rfl) cu_X0_7 ocl oly ⟨rfl, rfl, by decide, by decide⟩ rfl (Nat.le_of_ble_eq_true rfl) ⟨Nat.zero_le _, Nat.zero_le _⟩ dX0_strength_3 rfl rfl ?_
  refine ap_iconst (v := 2) dX0_strength_6 (by decide) ?_
  refine ap_idiv dX0_strength_7 (by decide) ?_
  subst h
  exact ap_iret rfl dX0_strength_8
theorem mcX0_strength {l : Launch} {K : Kt} {o : Nat} {w : Mm} (ho : isK o) {x1 : Int32} {x2 : Int32} {zx : Int32} (h : fX0_strength x1 x2 = zx) : MC l K yX0_strength cX0_strength 3 (some .int) rmX0_strength w [.ref (K.1 o), .int x1, .int x2] (some (.int zx)) w :=
  MC.of (by decide) (Nat.le_of_ble_eq_true rfl) rfl (AX0_strength ho h)
def fX4_hours (x1 : Int32) : Int32 :=
x1
set_option maxRecDepth 100000 in
set_option maxHeartbeats 4000000 in
theorem AX4_hours {l : Launch} {K : Kt} {o : Nat} {w : Mm} (ho : isK o) {x1 : Int32} {zx : Int32} (h : fX4_hours x1 = zx) : AW l K cX4_hours RX4 2 (some .int) rmX4_hours 0 0 ap_E (ap_F K (some (.int zx)) w) w 0 [(0, .ref (K.1 o)), (1, .int x1)] [] := by
  unfold fX4_hours at h
  refine ap_iload_n dX4_hours_0 1 rfl rfl ?_
  subst h
  exact ap_iret rfl dX4_hours_1
theorem mcX4_hours {l : Launch} {K : Kt} {o : Nat} {w : Mm} (ho : isK o) {x1 : Int32} {zx : Int32} (h : fX4_hours x1 = zx) : MC l K yX4_hours cX4_hours 2 (some .int) rmX4_hours w [.ref (K.1 o), .int x1] (some (.int zx)) w :=
  MC.of (by decide) (Nat.le_of_ble_eq_true rfl) rfl (AX4_hours ho h)
def fX10_hours (x1 : Int32) : Int32 :=
((fX4_hours x1) / (2 : Int32))
set_option maxRecDepth 100000 in
set_option maxHeartbeats 4000000 in
theorem AX10_hours {l : Launch} {K : Kt} {o : Nat} {w : Mm} (ho : isK o) {x1 : Int32} {zx : Int32} (h : fX10_hours x1 = zx) : AW l K cX10_hours RX10 2 (some .int) rmX10_hours 0 0 ap_E (ap_F K (some (.int zx)) w) w 0 [(0, .ref (K.1 o)), (1, .int x1)] [] := by
  unfold fX10_hours at h
  refine ap_aload_n dX10_hours_0 0 rfl rfl ?_
  refine ap_iload_n dX10_hours_1 1 rfl rfl ?_
  obtain ⟨oci, oq, ofds, ocl, oly⟩ := id ho
  refine ap_callU (k := o) (As := [.int x1]) (st := []) (st1 := [.int (fX4_hours x1)]) (mcX4_hours ho (w := w) (zx := fX4_hours x1) rfl) cu_X10_11 ocl oly ⟨rfl, rfl, by decide, by decide⟩ rfl (Nat.le_of_ble_eq_true rfl) ⟨Nat.zero_le _, Nat.zero_le _⟩ dX10_hours_2 rfl rfl ?_
  refine ap_iconst (v := 2) dX10_hours_5 (by decide) ?_
  refine ap_idiv dX10_hours_6 (by decide) ?_
  subst h
  exact ap_iret rfl dX10_hours_7
theorem mcX10_hours {l : Launch} {K : Kt} {o : Nat} {w : Mm} (ho : isK o) {x1 : Int32} {zx : Int32} (h : fX10_hours x1 = zx) : MC l K yX10_hours cX10_hours 2 (some .int) rmX10_hours w [.ref (K.1 o), .int x1] (some (.int zx)) w :=
  MC.of (by decide) (Nat.le_of_ble_eq_true rfl) rfl (AX10_hours ho h)
def fX0_hours (x1 : Int32) : Int32 :=
((fX10_hours x1) + (2 : Int32))
set_option maxRecDepth 100000 in
set_option maxHeartbeats 4000000 in
theorem AX0_hours {l : Launch} {K : Kt} {o : Nat} {w : Mm} (ho : isK o) {x1 : Int32} {zx : Int32} (h : fX0_hours x1 = zx) : AW l K cX0_hours RX0 2 (some .int) rmX0_hours 0 0 ap_E (ap_F K (some (.int zx)) w) w 0 [(0, .ref (K.1 o)), (1, .int x1)] [] := by
  unfold fX0_hours at h
  refine ap_aload_n dX0_hours_0 0 rfl rfl ?_
  refine ap_iload_n dX0_hours_1 1 rfl rfl ?_
  obtain ⟨oci, oq, ofds, ocl, oly⟩ := id ho
  refine ap_callU (k := o) (As := [.int x1]) (st := []) (st1 := [.int (fX10_hours x1)]) (mcX10_hours ho (w := w) (zx := fX10_hours x1) rfl) cu_X0_11 ocl oly ⟨rfl, rfl, by decide, by decide⟩ rfl (Nat.le_of_ble_eq_true rfl) ⟨Nat.zero_le _, Nat.zero_le _⟩ dX0_hours_2 rfl rfl ?_
  refine ap_iconst (v := 2) dX0_hours_5 (by decide) ?_
  refine ap_iadd dX0_hours_6 ?_
  subst h
  exact ap_iret rfl dX0_hours_7
theorem mcX0_hours {l : Launch} {K : Kt} {o : Nat} {w : Mm} (ho : isK o) {x1 : Int32} {zx : Int32} (h : fX0_hours x1 = zx) : MC l K yX0_hours cX0_hours 2 (some .int) rmX0_hours w [.ref (K.1 o), .int x1] (some (.int zx)) w :=
  MC.of (by decide) (Nat.le_of_ble_eq_true rfl) rfl (AX0_hours ho h)
def fX1_strength_L14 (t0 : Int32) (t1 : Int32) : Int32 :=
(fX4_strength t1 t0)
set_option maxRecDepth 100000 in
set_option maxHeartbeats 4000000 in
theorem AX1_strength_L14 {l : Launch} {K : Kt} {o : Nat} {w : Mm}  (ho : isK o) {t0 : Int32} {t1 : Int32} {zx : Int32} (h : fX1_strength_L14 t0 t1 = zx) : AW l K cX1_strength RX1 3 (some .int) rmX1_strength 0 0 ap_E (ap_F K (some (.int zx)) w) w 14 [] [.int t0, .int t1, .ref (K.1 o)] := by
  unfold fX1_strength_L14 at h
  obtain ⟨oci, oq, ofds, ocl, oly⟩ := id ho
  refine ap_callU (k := o) (As := [.int t1, .int t0]) (st := []) (st1 := [.int (fX4_strength t1 t0)]) (mcX4_strength ho (w := w) (zx := fX4_strength t1 t0) rfl) cu_X1_7 ocl oly ⟨rfl, rfl, by decide, by decide⟩ rfl (Nat.le_of_ble_eq_true rfl) ⟨Nat.zero_le _, Nat.zero_le _⟩ dX1_strength_14 rfl rfl ?_
  subst h
  exact ap_iret rfl dX1_strength_17
def fX1_strength (x1 : Int32) (x2 : Int32) : Int32 :=
if x2 ≤ (2 : Int32) then (
fX1_strength_L14 (0 : Int32) x1)
else (
fX1_strength_L14 (x2 - (2 : Int32)) x1)
set_option maxRecDepth 100000 in
set_option maxHeartbeats 4000000 in
theorem AX1_strength {l : Launch} {K : Kt} {o : Nat} {w : Mm} (ho : isK o) {x1 : Int32} {x2 : Int32} {zx : Int32} (h : fX1_strength x1 x2 = zx) : AW l K cX1_strength RX1 3 (some .int) rmX1_strength 0 0 ap_E (ap_F K (some (.int zx)) w) w 0 [(0, .ref (K.1 o)), (1, .int x1), (2, .int x2)] [] := by
  unfold fX1_strength at h
  refine ap_aload_n dX1_strength_0 0 rfl rfl ?_
  refine ap_iload_n dX1_strength_1 1 rfl rfl ?_
  refine ap_iload_n dX1_strength_2 2 rfl rfl ?_
  refine ap_iconst (v := 2) dX1_strength_3 (by decide) ?_
  refine ap_icmp_le (tgt := 13) dX1_strength_4 (by decide) (fun hc1 => ?_) (fun hc1 => ?_)
  · rw [if_pos hc1] at h
    refine ap_iconst (v := 0) dX1_strength_13 (by decide) ?_
    refine ap_sub [] rfl ?_
    exact AX1_strength_L14 ho  h
  · rw [if_neg hc1] at h
    refine ap_iload_n dX1_strength_7 2 rfl rfl ?_
    refine ap_iconst (v := 2) dX1_strength_8 (by decide) ?_
    refine ap_isub dX1_strength_9 ?_
    refine ap_goto (tgt := 14) dX1_strength_10 (by decide) ?_
    refine ap_sub [] rfl ?_
    exact AX1_strength_L14 ho  h
theorem mcX1_strength {l : Launch} {K : Kt} {o : Nat} {w : Mm} (ho : isK o) {x1 : Int32} {x2 : Int32} {zx : Int32} (h : fX1_strength x1 x2 = zx) : MC l K yX1_strength cX1_strength 3 (some .int) rmX1_strength w [.ref (K.1 o), .int x1, .int x2] (some (.int zx)) w :=
  MC.of (by decide) (Nat.le_of_ble_eq_true rfl) rfl (AX1_strength ho h)
def fX2_hours (x1 : Int32) : Int32 :=
((2 : Int32) * (fX4_hours x1))
set_option maxRecDepth 100000 in
set_option maxHeartbeats 4000000 in
theorem AX2_hours {l : Launch} {K : Kt} {o : Nat} {w : Mm} (ho : isK o) {x1 : Int32} {zx : Int32} (h : fX2_hours x1 = zx) : AW l K cX2_hours RX2 2 (some .int) rmX2_hours 0 0 ap_E (ap_F K (some (.int zx)) w) w 0 [(0, .ref (K.1 o)), (1, .int x1)] [] := by
  unfold fX2_hours at h
  refine ap_iconst (v := 2) dX2_hours_0 (by decide) ?_
  refine ap_aload_n dX2_hours_1 0 rfl rfl ?_
  refine ap_iload_n dX2_hours_2 1 rfl rfl ?_
  obtain ⟨oci, oq, ofds, ocl, oly⟩ := id ho
  refine ap_callUU (k := o) (As := [.int x1]) (st := [.int (2 : Int32)]) (st1 := [.int (fX4_hours x1), .int (2 : Int32)]) (mcX4_hours ho (w := w) (zx := fX4_hours x1) rfl) ocl oly ⟨rfl, rfl, by decide, by decide⟩ rfl (Nat.le_of_ble_eq_true rfl) ⟨Nat.zero_le _, Nat.zero_le _⟩ dX2_hours_3 rfl rfl ?_
  refine ap_imul dX2_hours_6 ?_
  subst h
  exact ap_iret rfl dX2_hours_7
theorem mcX2_hours {l : Launch} {K : Kt} {o : Nat} {w : Mm} (ho : isK o) {x1 : Int32} {zx : Int32} (h : fX2_hours x1 = zx) : MC l K yX2_hours cX2_hours 2 (some .int) rmX2_hours w [.ref (K.1 o), .int x1] (some (.int zx)) w :=
  MC.of (by decide) (Nat.le_of_ble_eq_true rfl) rfl (AX2_hours ho h)
def fX7_hours (x1 : Int32) : Int32 :=
(12 : Int32)
set_option maxRecDepth 100000 in
set_option maxHeartbeats 4000000 in
theorem AX7_hours {l : Launch} {K : Kt} {o : Nat} {w : Mm} (ho : isK o) {x1 : Int32} {zx : Int32} (h : fX7_hours x1 = zx) : AW l K cX7_hours RX7 2 (some .int) rmX7_hours 0 0 ap_E (ap_F K (some (.int zx)) w) w 0 [(0, .ref (K.1 o)), (1, .int x1)] [] := by
  unfold fX7_hours at h
  refine ap_bipush (v := 12) dX7_hours_0 (by decide) ?_
  subst h
  exact ap_iret rfl dX7_hours_2
theorem mcX7_hours {l : Launch} {K : Kt} {o : Nat} {w : Mm} (ho : isK o) {x1 : Int32} {zx : Int32} (h : fX7_hours x1 = zx) : MC l K yX7_hours cX7_hours 2 (some .int) rmX7_hours w [.ref (K.1 o), .int x1] (some (.int zx)) w :=
  MC.of (by decide) (Nat.le_of_ble_eq_true rfl) rfl (AX7_hours ho h)
def fD_hours (j : Nat) (y0 : Int32) : Int32 := match j with
  | 0 => fX4_hours y0
  | 1 => fX10_hours y0
  | 2 => fX4_hours y0
  | 3 => fX2_hours y0
  | 4 => fX0_hours y0
  | _ => fX7_hours y0
set_option maxRecDepth 100000 in
set_option maxHeartbeats 4000000 in
theorem D_X3_67 {l : Launch} {K : Kt} {cc : ByteArray} {nL : Nat} {ret : Option FieldType} {R : Room} {E : Array Value → State → Prop} {Qf : List Frame → Array Value → State → State → Prop} {w : Mm} {pc : Nat} {lv : List (Nat × Value)} {st : List Value} {j : Nat} {y0 : Int32} (hj : j < 6) (h1 : 3 ≤ R.frames) (h2 : 63 ≤ R.locals) (hcat : (st.map fun v => v.category).sum ≤ 8) (hdg : decode cc pc = .ok (.invokevirtual 67, 3)) (kk : AW l K cc RX3 nL ret R 0 0 E Qf w (pc + 3) lv (.int (fD_hours j y0) :: st)) : AW l K cc RX3 nL ret R 0 0 E Qf w pc lv (.int y0 :: .ref (K.1 (55 + j)) :: st) := by
  have hcs : 0 ≤ R.cells ∧ 0 ≤ R.slots := ⟨Nat.zero_le _, Nat.zero_le _⟩
  rcases (show j = 0 ∨ j = 1 ∨ j = 2 ∨ j = 3 ∨ j = 4 ∨ j = 5 by omega) with rfl | rfl | rfl | rfl | rfl | rfl
  · exact ap_callO (k := 55) (As := [.int y0]) (mcX4_hours isK_55 (w := w) rfl) co_X3_67_X4 rfl ly_55 ⟨rfl, rfl, by show 0 + 1 ≤ R.frames; omega, by show 8 + (2 + 11) + 0 ≤ R.locals; omega⟩ rfl hcat hcs hdg rfl rfl kk
  · exact ap_callO (k := 56) (As := [.int y0]) (mcX10_hours isK_56 (w := w) rfl) co_X3_67_X10 rfl ly_56 ⟨rfl, rfl, by show 1 + 1 ≤ R.frames; omega, by show 8 + (2 + 11) + 21 ≤ R.locals; omega⟩ rfl hcat hcs hdg rfl rfl kk
  · exact ap_callO (k := 57) (As := [.int y0]) (mcX4_hours isK_57 (w := w) rfl) co_X3_67_X1 rfl ly_57 ⟨rfl, rfl, by show 0 + 1 ≤ R.frames; omega, by show 8 + (2 + 11) + 0 ≤ R.locals; omega⟩ rfl hcat hcs hdg rfl rfl kk
  · exact ap_callO (k := 58) (As := [.int y0]) (mcX2_hours isK_58 (w := w) rfl) co_X3_67_X2 rfl ly_58 ⟨rfl, rfl, by show 1 + 1 ≤ R.frames; omega, by show 8 + (2 + 11) + 21 ≤ R.locals; omega⟩ rfl hcat hcs hdg rfl rfl kk
  · exact ap_callO (k := 59) (As := [.int y0]) (mcX0_hours isK_59 (w := w) rfl) co_X3_67_X0 rfl ly_59 ⟨rfl, rfl, by show 2 + 1 ≤ R.frames; omega, by show 8 + (2 + 11) + 42 ≤ R.locals; omega⟩ rfl hcat hcs hdg rfl rfl kk
  · exact ap_callO (k := 60) (As := [.int y0]) (mcX7_hours isK_60 (w := w) rfl) co_X3_67_X7 rfl ly_60 ⟨rfl, rfl, by show 0 + 1 ≤ R.frames; omega, by show 8 + (2 + 11) + 0 ≤ R.locals; omega⟩ rfl hcat hcs hdg rfl rfl kk
def fX3_hoursOf (w : Mm) (x1 : Int32) : Option Int32 :=
Option.bind (rdA w 2 7 x1) fun a1 =>
Option.bind (rdR 6 a1) fun j2 =>
Option.bind (rdA w 6 7 x1) fun a3 =>
some (fD_hours j2 a3)
set_option maxRecDepth 100000 in
set_option maxHeartbeats 4000000 in
theorem AX3_hoursOf {l : Launch} {K : Kt} {w : Mm}  {x1 : Int32} {zx : Int32} (h : fX3_hoursOf w x1 = some zx) : AW l K cX3_hoursOf RX3 2 (some .int) rmX3_hoursOf 0 0 ap_E (ap_F K (some (.int zx)) w) w 0 [(0, .ref (K.1 53)), (1, .int x1)] [] := by
  unfold fX3_hoursOf at h
  refine ap_aload_n dX3_hoursOf_0 0 rfl rfl ?_
  refine ap_get (v := .ref (K.1 54)) fl_X3_27 ly_53 rfl rfl dX3_hoursOf_1 ?_
  refine ap_aload_n dX3_hoursOf_4 0 rfl rfl ?_
  refine ap_get (v := .ref (K.1 1)) fl_X3_55 ly_53 rfl rfl dX3_hoursOf_5 ?_
  refine ap_get (v := .ref (K.1 2)) fl_X3_59 ly_1 rfl rfl dX3_hoursOf_8 ?_
  refine ap_iload_n dX3_hoursOf_11 1 rfl rfl ?_
  obtain ⟨a1, ha1, h⟩ := Option.bind_eq_some_iff.mp h
  refine ap_iald ly_2 ha1 dX3_hoursOf_12 ?_
  obtain ⟨j2, hj2, h⟩ := Option.bind_eq_some_iff.mp h
  refine ap_aald (t := 4) (ids := [55, 56, 57, 58, 59, 60]) (q := 55 + j2) (C := "CandleLand$Plain") ly_54 rfl hj2 (ap_k6 (rdR_some hj2).2.2) dX3_hoursOf_13 ?_
  refine ap_aload_n dX3_hoursOf_14 0 rfl rfl ?_
  refine ap_get (v := .ref (K.1 1)) fl_X3_55 ly_53 rfl rfl dX3_hoursOf_15 ?_
  refine ap_get (v := .ref (K.1 6)) fl_X3_64 ly_1 rfl rfl dX3_hoursOf_18 ?_
  refine ap_iload_n dX3_hoursOf_21 1 rfl rfl ?_
  obtain ⟨a3, ha3, h⟩ := Option.bind_eq_some_iff.mp h
  refine ap_iald ly_6 ha3 dX3_hoursOf_22 ?_
  refine D_X3_67 (rdR_some hj2).2.2 (by decide) (by decide) (Nat.le_of_ble_eq_true rfl) dX3_hoursOf_23 ?_
  obtain rfl := Option.some.inj h
  exact ap_iret rfl dX3_hoursOf_26
theorem mcX3_hoursOf {l : Launch} {K : Kt} {w : Mm}  {x1 : Int32} {zx : Int32} (h : fX3_hoursOf w x1 = some zx) : MC l K yX3_hoursOf cX3_hoursOf 2 (some .int) rmX3_hoursOf w [.ref (K.1 53), .int x1] (some (.int zx)) w :=
  MC.of (by decide) (Nat.le_of_ble_eq_true rfl) rfl (AX3_hoursOf  h)
def fX7_strength (x1 : Int32) (x2 : Int32) : Int32 :=
if (fX4_strength x1 x2) ≤ (0 : Int32) then (
(0 : Int32))
else (
(1 : Int32))
set_option maxRecDepth 100000 in
set_option maxHeartbeats 4000000 in
theorem AX7_strength {l : Launch} {K : Kt} {o : Nat} {w : Mm} (ho : isK o) {x1 : Int32} {x2 : Int32} {zx : Int32} (h : fX7_strength x1 x2 = zx) : AW l K cX7_strength RX7 3 (some .int) rmX7_strength 0 0 ap_E (ap_F K (some (.int zx)) w) w 0 [(0, .ref (K.1 o)), (1, .int x1), (2, .int x2)] [] := by
  unfold fX7_strength at h
  refine ap_aload_n dX7_strength_0 0 rfl rfl ?_
  refine ap_iload_n dX7_strength_1 1 rfl rfl ?_
  refine ap_iload_n dX7_strength_2 2 rfl rfl ?_
  obtain ⟨oci, oq, ofds, ocl, oly⟩ := id ho
  refine ap_callU (k := o) (As := [.int x1, .int x2]) (st := []) (st1 := [.int (fX4_strength x1 x2)]) (mcX4_strength ho (w := w) (zx := fX4_strength x1 x2) rfl) cu_X7_9 ocl oly ⟨rfl, rfl, by decide, by decide⟩ rfl (Nat.le_of_ble_eq_true rfl) ⟨Nat.zero_le _, Nat.zero_le _⟩ dX7_strength_3 rfl rfl ?_
  refine ap_if_le (tgt := 13) dX7_strength_6 (by decide) (fun hc1 => ?_) (fun hc1 => ?_)
  · rw [if_pos hc1] at h
    refine ap_iconst (v := 0) dX7_strength_13 (by decide) ?_
    subst h
    exact ap_iret rfl dX7_strength_14
  · rw [if_neg hc1] at h
    refine ap_iconst (v := 1) dX7_strength_9 (by decide) ?_
    refine ap_goto (tgt := 14) dX7_strength_10 (by decide) ?_
    subst h
    exact ap_iret rfl dX7_strength_14
theorem mcX7_strength {l : Launch} {K : Kt} {o : Nat} {w : Mm} (ho : isK o) {x1 : Int32} {x2 : Int32} {zx : Int32} (h : fX7_strength x1 x2 = zx) : MC l K yX7_strength cX7_strength 3 (some .int) rmX7_strength w [.ref (K.1 o), .int x1, .int x2] (some (.int zx)) w :=
  MC.of (by decide) (Nat.le_of_ble_eq_true rfl) rfl (AX7_strength ho h)
def fD_strength (j : Nat) (y0 : Int32) (y1 : Int32) : Int32 := match j with
  | 0 => fX4_strength y0 y1
  | 1 => fX10_strength y0 y1
  | 2 => fX1_strength y0 y1
  | 3 => fX1_strength y0 y1
  | 4 => fX0_strength y0 y1
  | _ => fX7_strength y0 y1
set_option maxRecDepth 100000 in
set_option maxHeartbeats 4000000 in
theorem D_X3_74 {l : Launch} {K : Kt} {cc : ByteArray} {nL : Nat} {ret : Option FieldType} {R : Room} {E : Array Value → State → Prop} {Qf : List Frame → Array Value → State → State → Prop} {w : Mm} {pc : Nat} {lv : List (Nat × Value)} {st : List Value} {j : Nat} {y0 y1 : Int32} (hj : j < 6) (h1 : 3 ≤ R.frames) (h2 : 67 ≤ R.locals) (hcat : (st.map fun v => v.category).sum ≤ 8) (hdg : decode cc pc = .ok (.invokevirtual 74, 3)) (kk : AW l K cc RX3 nL ret R 0 0 E Qf w (pc + 3) lv (.int (fD_strength j y0 y1) :: st)) : AW l K cc RX3 nL ret R 0 0 E Qf w pc lv (.int y1 :: .int y0 :: .ref (K.1 (55 + j)) :: st) := by
  have hcs : 0 ≤ R.cells ∧ 0 ≤ R.slots := ⟨Nat.zero_le _, Nat.zero_le _⟩
  rcases (show j = 0 ∨ j = 1 ∨ j = 2 ∨ j = 3 ∨ j = 4 ∨ j = 5 by omega) with rfl | rfl | rfl | rfl | rfl | rfl
  · exact ap_callO (k := 55) (As := [.int y0, .int y1]) (mcX4_strength isK_55 (w := w) rfl) co_X3_74_X4 rfl ly_55 ⟨rfl, rfl, by show 0 + 1 ≤ R.frames; omega, by show 8 + (3 + 11) + 0 ≤ R.locals; omega⟩ rfl hcat hcs hdg rfl rfl kk
  · exact ap_callO (k := 56) (As := [.int y0, .int y1]) (mcX10_strength isK_56 (w := w) rfl) co_X3_74_X10 rfl ly_56 ⟨rfl, rfl, by show 1 + 1 ≤ R.frames; omega, by show 8 + (4 + 11) + 22 ≤ R.locals; omega⟩ rfl hcat hcs hdg rfl rfl kk
  · exact ap_callO (k := 57) (As := [.int y0, .int y1]) (mcX1_strength isK_57 (w := w) rfl) co_X3_74_X1 rfl ly_57 ⟨rfl, rfl, by show 1 + 1 ≤ R.frames; omega, by show 8 + (3 + 11) + 22 ≤ R.locals; omega⟩ rfl hcat hcs hdg rfl rfl kk
  · exact ap_callO (k := 58) (As := [.int y0, .int y1]) (mcX1_strength isK_58 (w := w) rfl) co_X3_74_X2 rfl ly_58 ⟨rfl, rfl, by show 1 + 1 ≤ R.frames; omega, by show 8 + (3 + 11) + 22 ≤ R.locals; omega⟩ rfl hcat hcs hdg rfl rfl kk
  · exact ap_callO (k := 59) (As := [.int y0, .int y1]) (mcX0_strength isK_59 (w := w) rfl) co_X3_74_X0 rfl ly_59 ⟨rfl, rfl, by show 2 + 1 ≤ R.frames; omega, by show 8 + (3 + 11) + 45 ≤ R.locals; omega⟩ rfl hcat hcs hdg rfl rfl kk
  · exact ap_callO (k := 60) (As := [.int y0, .int y1]) (mcX7_strength isK_60 (w := w) rfl) co_X3_74_X7 rfl ly_60 ⟨rfl, rfl, by show 1 + 1 ≤ R.frames; omega, by show 8 + (3 + 11) + 22 ≤ R.locals; omega⟩ rfl hcat hcs hdg rfl rfl kk
def fX3_ifLit (w : Mm) (x1 : Int32) (x2 : Int32) (x3 : Int32) : Option Int32 :=
Option.bind (rdA w 2 7 x1) fun a1 =>
Option.bind (rdR 6 a1) fun j2 =>
Option.bind (rdA w 6 7 x1) fun a3 =>
if x3 < (fD_hours j2 a3) then (
Option.bind (rdA w 4 7 x1) fun a5 =>
some (mxI (0 : Int32) ((fD_strength j2 a5 x2) - (w.1 1 0))))
else (
some (0 : Int32))
set_option maxRecDepth 100000 in
set_option maxHeartbeats 4000000 in
theorem AX3_ifLit {l : Launch} {K : Kt} {w : Mm}  {x1 : Int32} {x2 : Int32} {x3 : Int32} {zx : Int32} (h : fX3_ifLit w x1 x2 x3 = some zx) : AW l K cX3_ifLit RX3 5 (some .int) rmX3_ifLit 0 0 ap_E (ap_F K (some (.int zx)) w) w 0 [(0, .ref (K.1 53)), (1, .int x1), (2, .int x2), (3, .int x3)] [] := by
  unfold fX3_ifLit at h
  refine ap_aload_n dX3_ifLit_0 0 rfl rfl ?_
  refine ap_get (v := .ref (K.1 54)) fl_X3_27 ly_53 rfl rfl dX3_ifLit_1 ?_
  refine ap_aload_n dX3_ifLit_4 0 rfl rfl ?_
  refine ap_get (v := .ref (K.1 1)) fl_X3_55 ly_53 rfl rfl dX3_ifLit_5 ?_
  refine ap_get (v := .ref (K.1 2)) fl_X3_59 ly_1 rfl rfl dX3_ifLit_8 ?_
  refine ap_iload_n dX3_ifLit_11 1 rfl rfl ?_
  obtain ⟨a1, ha1, h⟩ := Option.bind_eq_some_iff.mp h
  refine ap_iald ly_2 ha1 dX3_ifLit_12 ?_
  obtain ⟨j2, hj2, h⟩ := Option.bind_eq_some_iff.mp h
  refine ap_aald (t := 4) (ids := [55, 56, 57, 58, 59, 60]) (q := 55 + j2) (C := "CandleLand$Plain") ly_54 rfl hj2 (ap_k6 (rdR_some hj2).2.2) dX3_ifLit_13 ?_
  refine ap_astore (i := 4) (lv' := [(4, .ref (K.1 (55 + j2))), (0, .ref (K.1 53)), (1, .int x1), (2, .int x2), (3, .int x3)]) dX3_ifLit_14 (by decide) rfl ?_
  refine ap_iload_n dX3_ifLit_16 4 rfl rfl ?_
  refine ap_aload dX3_ifLit_17 0 rfl ?_
  refine ap_aload_n dX3_ifLit_19 1 rfl rfl ?_
  refine ap_get (v := .ref (K.1 1)) fl_X3_55 ly_53 rfl rfl dX3_ifLit_20 ?_
  refine ap_get (v := .ref (K.1 6)) fl_X3_64 ly_1 rfl rfl dX3_ifLit_23 ?_
  refine ap_iload_n dX3_ifLit_26 2 rfl rfl ?_
  obtain ⟨a3, ha3, h⟩ := Option.bind_eq_some_iff.mp h
  refine ap_iald ly_6 ha3 dX3_ifLit_27 ?_
  refine D_X3_67 (rdR_some hj2).2.2 (by decide) (by decide) (Nat.le_of_ble_eq_true rfl) dX3_ifLit_28 ?_
  refine ap_icmp_lt (tgt := 36) dX3_ifLit_31 (by decide) (fun hc4 => ?_) (fun hc4 => ?_)
  · rw [if_pos hc4] at h
    refine ap_iconst (v := 0) dX3_ifLit_36 (by decide) ?_
    refine ap_aload dX3_ifLit_37 0 rfl ?_
    refine ap_aload_n dX3_ifLit_39 1 rfl rfl ?_
    refine ap_get (v := .ref (K.1 1)) fl_X3_55 ly_53 rfl rfl dX3_ifLit_40 ?_
    refine ap_get (v := .ref (K.1 4)) fl_X3_71 ly_1 rfl rfl dX3_ifLit_43 ?_
    refine ap_iload_n dX3_ifLit_46 2 rfl rfl ?_
    obtain ⟨a5, ha5, h⟩ := Option.bind_eq_some_iff.mp h
    refine ap_iald ly_4 ha5 dX3_ifLit_47 ?_
    refine ap_iload_n dX3_ifLit_48 3 rfl rfl ?_
    refine D_X3_74 (rdR_some hj2).2.2 (by decide) (by decide) (Nat.le_of_ble_eq_true rfl) dX3_ifLit_49 ?_
    refine ap_aload_n dX3_ifLit_52 1 rfl rfl ?_
    refine ap_get (v := .ref (K.1 1)) fl_X3_55 ly_53 rfl rfl dX3_ifLit_53 ?_
    refine ap_get (v := .int (w.1 1 0)) fl_X3_78 ly_1 rfl rfl dX3_ifLit_56 ?_
    refine ap_isub dX3_ifLit_59 ?_
    refine ap_mmax wd_638 ⟨by decide, by decide⟩ (Nat.le_of_ble_eq_true rfl) ⟨Nat.zero_le _, Nat.zero_le _⟩ dX3_ifLit_60 ?_
    obtain rfl := Option.some.inj h
    exact ap_iret rfl dX3_ifLit_63
  · rw [if_neg hc4] at h
    refine ap_iconst (v := 0) dX3_ifLit_34 (by decide) ?_
    obtain rfl := Option.some.inj h
    exact ap_iret rfl dX3_ifLit_35
theorem mcX3_ifLit {l : Launch} {K : Kt} {w : Mm}  {x1 : Int32} {x2 : Int32} {x3 : Int32} {zx : Int32} (h : fX3_ifLit w x1 x2 x3 = some zx) : MC l K yX3_ifLit cX3_ifLit 5 (some .int) rmX3_ifLit w [.ref (K.1 53), .int x1, .int x2, .int x3] (some (.int zx)) w :=
  MC.of (by decide) (Nat.le_of_ble_eq_true rfl) rfl (AX3_ifLit  h)
def fX11_farBetween (x0 : Int32) (x1 : Int32) : Int32 :=
((abI ((x0 - x0 / (8 : Int32) * (8 : Int32)) - (x1 - x1 / (8 : Int32) * (8 : Int32)))) + (abI ((x0 / (8 : Int32)) - (x1 / (8 : Int32)))))
set_option maxRecDepth 100000 in
set_option maxHeartbeats 4000000 in
theorem AX11_farBetween {l : Launch} {K : Kt} {w : Mm}  {x0 : Int32} {x1 : Int32} {zx : Int32} (h : fX11_farBetween x0 x1 = zx) : AW l K cX11_farBetween RX11 2 (some .int) rmX11_farBetween 0 0 ap_E (ap_F K (some (.int zx)) w) w 0 [(0, .int x0), (1, .int x1)] [] := by
  unfold fX11_farBetween at h
  refine ap_iload_n dX11_farBetween_0 0 rfl rfl ?_
  refine ap_bipush (v := 8) dX11_farBetween_1 (by decide) ?_
  refine ap_irem dX11_farBetween_3 (by decide) ?_
  refine ap_iload_n dX11_farBetween_4 1 rfl rfl ?_
  refine ap_bipush (v := 8) dX11_farBetween_5 (by decide) ?_
  refine ap_irem dX11_farBetween_7 (by decide) ?_
  refine ap_isub dX11_farBetween_8 ?_
  refine ap_mabs wd_609 ⟨by decide, by decide⟩ (Nat.le_of_ble_eq_true rfl) ⟨Nat.zero_le _, Nat.zero_le _⟩ dX11_farBetween_9 ?_
  refine ap_iload_n dX11_farBetween_12 0 rfl rfl ?_
  refine ap_bipush (v := 8) dX11_farBetween_13 (by decide) ?_
  refine ap_idiv dX11_farBetween_15 (by decide) ?_
  refine ap_iload_n dX11_farBetween_16 1 rfl rfl ?_
  refine ap_bipush (v := 8) dX11_farBetween_17 (by decide) ?_
  refine ap_idiv dX11_farBetween_19 (by decide) ?_
  refine ap_isub dX11_farBetween_20 ?_
  refine ap_mabs wd_609 ⟨by decide, by decide⟩ (Nat.le_of_ble_eq_true rfl) ⟨Nat.zero_le _, Nat.zero_le _⟩ dX11_farBetween_21 ?_
  refine ap_iadd dX11_farBetween_24 ?_
  subst h
  exact ap_iret rfl dX11_farBetween_25
theorem mcX11_farBetween {l : Launch} {K : Kt} {w : Mm}  {x0 : Int32} {x1 : Int32} {zx : Int32} (h : fX11_farBetween x0 x1 = zx) : MC l K yX11_farBetween cX11_farBetween 2 (some .int) rmX11_farBetween w [.int x0, .int x1] (some (.int zx)) w :=
  MC.of (by decide) (Nat.le_of_ble_eq_true rfl) rfl (AX11_farBetween  h)
def fX8_farFrom (v : Nat) (w : Mm) (x1 : Int32) (x2 : Int32) : Option Int32 :=
Option.bind (rdA w (v + 2) 7 x1) fun a1 =>
some (fX11_farBetween a1 x2)
set_option maxRecDepth 100000 in
set_option maxHeartbeats 4000000 in
theorem AX8_farFrom {l : Launch} {K : Kt} {v : Nat} {w : Mm} (hv : isV v) {x1 : Int32} {x2 : Int32} {zx : Int32} (h : fX8_farFrom v w x1 x2 = some zx) : AW l K cX8_farFrom RX8 3 (some .int) rmX8_farFrom 0 0 ap_E (ap_F K (some (.int zx)) w) w 0 [(0, .ref (K.1 v)), (1, .int x1), (2, .int x2)] [] := by
  unfold fX8_farFrom at h
  refine ap_aload_n dX8_farFrom_0 0 rfl rfl ?_
  refine ap_get (v := .ref (K.1 (v + 2))) fl_X8_25 (lyv_0 hv) rfl rfl dX8_farFrom_1 ?_
  refine ap_iload_n dX8_farFrom_4 1 rfl rfl ?_
  obtain ⟨a1, ha1, h⟩ := Option.bind_eq_some_iff.mp h
  refine ap_iald (lyv_2 hv) ha1 dX8_farFrom_5 ?_
  refine ap_iload_n dX8_farFrom_6 2 rfl rfl ?_
  refine ap_callN (As := [.int a1, .int x2]) (st := []) (st1 := [.int (fX11_farBetween a1 x2)]) (mcX11_farBetween  (w := w) (zx := fX11_farBetween a1 x2) rfl) cn_X8_64 ⟨rfl, rfl, by decide, by decide⟩ rfl (Nat.le_of_ble_eq_true rfl) ⟨Nat.zero_le _, Nat.zero_le _⟩ dX8_farFrom_7 rfl rfl ?_
  obtain rfl := Option.some.inj h
  exact ap_iret rfl dX8_farFrom_10
theorem mcX8_farFrom {l : Launch} {K : Kt} {v : Nat} {w : Mm} (hv : isV v) {x1 : Int32} {x2 : Int32} {zx : Int32} (h : fX8_farFrom v w x1 x2 = some zx) : MC l K yX8_farFrom cX8_farFrom 3 (some .int) rmX8_farFrom w [.ref (K.1 v), .int x1, .int x2] (some (.int zx)) w :=
  MC.of (by decide) (Nat.le_of_ble_eq_true rfl) rfl (AX8_farFrom hv h)
def fX3_layCell_L2 (N : Nat) : Nat → Mm → Int32 → Int32 → Int32 → Option Mm
  | 0, _, _, _, _ => none
  | n0 + 1, w, x1, x2, x3 => if (w.1 1 1) ≤ x3 then (
some w)
else (
Option.bind (fX8_farFrom 1 w x3 x1) fun a2 =>
Option.bind (fX3_ifLit w x3 a2 x2) fun a3 =>
Option.bind (wrA w 61 448 ((x1 * (7 : Int32)) + x3) a3) fun m4 =>
(fX3_layCell_L2 N n0) m4 x1 x2 (x3 + 1))
set_option maxRecDepth 100000 in
set_option maxHeartbeats 4000000 in
theorem AX3_layCell_L2 {l : Launch} {K : Kt} {N : Nat}   : ∀ (n0 : Nat) (w : Mm) (x1 : Int32) (x2 : Int32) (x3 : Int32) {zw : Mm}, fX3_layCell_L2 N n0 w x1 x2 x3 = some zw → AW l K cX3_layCell RX3 4 none rmX3_layCell 0 0 ap_E (ap_F K none zw) w 2 [(0, .ref (K.1 53)), (1, .int x1), (2, .int x2), (3, .int x3)] [] := by
  intro n0
  induction n0 with
  | zero =>
    intro w x1 x2 x3 zw h
    cases h
  | succ n0 ih =>
    intro w x1 x2 x3 zw h
    rw [fX3_layCell_L2] at h
    refine ap_iload_n dX3_layCell_2 3 rfl rfl ?_
    refine ap_aload_n dX3_layCell_3 0 rfl rfl ?_
    refine ap_get (v := .ref (K.1 1)) fl_X3_55 ly_53 rfl rfl dX3_layCell_4 ?_
    refine ap_get (v := .int (w.1 1 1)) fl_X3_87 ly_1 rfl rfl dX3_layCell_7 ?_
    refine ap_icmp_ge (tgt := 45) dX3_layCell_10 (by decide) (fun hc1 => ?_) (fun hc1 => ?_)
    · rw [if_pos hc1] at h
      obtain rfl := Option.some.inj h
      exact ap_vret rfl dX3_layCell_45
    · rw [if_neg hc1] at h
      refine ap_aload_n dX3_layCell_13 0 rfl rfl ?_
      refine ap_get (v := .ref (K.1 61)) fl_X3_33 ly_53 rfl rfl dX3_layCell_14 ?_
      refine ap_iload_n dX3_layCell_17 1 rfl rfl ?_
      refine ap_bipush (v := 7) dX3_layCell_18 (by decide) ?_
      refine ap_imul dX3_layCell_20 ?_
      refine ap_iload_n dX3_layCell_21 3 rfl rfl ?_
      refine ap_iadd dX3_layCell_22 ?_
      refine ap_aload_n dX3_layCell_23 0 rfl rfl ?_
      refine ap_iload_n dX3_layCell_24 3 rfl rfl ?_
      refine ap_aload_n dX3_layCell_25 0 rfl rfl ?_
      refine ap_get (v := .ref (K.1 1)) fl_X3_55 ly_53 rfl rfl dX3_layCell_26 ?_
      refine ap_iload_n dX3_layCell_29 3 rfl rfl ?_
      refine ap_iload_n dX3_layCell_30 1 rfl rfl ?_
      obtain ⟨a2, ha2, h⟩ := Option.bind_eq_some_iff.mp h
      refine ap_callV (k := 1) (As := [.int x3, .int x1]) (st := [.int x3, .ref (K.1 53), .int ((x1 * (7 : Int32)) + x3), .ref (K.1 61)]) (st1 := [.int a2, .int x3, .ref (K.1 53), .int ((x1 * (7 : Int32)) + x3), .ref (K.1 61)]) (mcX8_farFrom isV_1 (w := w) ha2) cv_X3_90 rfl ly_1 ⟨rfl, rfl, by decide, by decide⟩ rfl (Nat.le_of_ble_eq_true rfl) ⟨Nat.zero_le _, Nat.zero_le _⟩ dX3_layCell_31 rfl rfl ?_
      refine ap_iload_n dX3_layCell_34 2 rfl rfl ?_
      obtain ⟨a3, ha3, h⟩ := Option.bind_eq_some_iff.mp h
      refine ap_callV (k := 53) (As := [.int x3, .int a2, .int x2]) (st := [.int ((x1 * (7 : Int32)) + x3), .ref (K.1 61)]) (st1 := [.int a3, .int ((x1 * (7 : Int32)) + x3), .ref (K.1 61)]) (mcX3_ifLit  (w := w) ha3) cv_X3_93 rfl ly_53 ⟨rfl, rfl, by decide, by decide⟩ rfl (Nat.le_of_ble_eq_true rfl) ⟨Nat.zero_le _, Nat.zero_le _⟩ dX3_layCell_35 rfl rfl ?_
      obtain ⟨m4, hm4, h⟩ := Option.bind_eq_some_iff.mp h
      refine ap_iast ly_61 hm4 dX3_layCell_38 ?_
      refine ap_iinc (v := x3 + 1) (lv' := [(3, .int (x3 + 1)), (0, .ref (K.1 53)), (1, .int x1), (2, .int x2)]) dX3_layCell_39 3 rfl rfl (by decide) rfl ?_
      refine ap_goto (tgt := 2) dX3_layCell_42 (by decide) ?_
      refine ap_sub [1, 2, 3, 0] rfl ?_
      exact ih _ _ _ _ h
def fX3_layCell (N : Nat) (w : Mm) (x1 : Int32) (x2 : Int32) : Option Mm :=
fX3_layCell_L2 N N w x1 x2 (0 : Int32)
set_option maxRecDepth 100000 in
set_option maxHeartbeats 4000000 in
theorem AX3_layCell {l : Launch} {K : Kt} {N : Nat}  {w : Mm} {x1 : Int32} {x2 : Int32} {zw : Mm} (h : fX3_layCell N w x1 x2 = some zw) : AW l K cX3_layCell RX3 4 none rmX3_layCell 0 0 ap_E (ap_F K none zw) w 0 [(0, .ref (K.1 53)), (1, .int x1), (2, .int x2)] [] := by
  unfold fX3_layCell at h
  refine ap_iconst (v := 0) dX3_layCell_0 (by decide) ?_
  refine ap_istore_n (i := 3) (lv' := [(3, .int (0 : Int32)), (0, .ref (K.1 53)), (1, .int x1), (2, .int x2)]) dX3_layCell_1 rfl (by decide) rfl ?_
  refine ap_sub [1, 2, 3, 0] rfl ?_
  exact AX3_layCell_L2  N _ _ _ _ h
theorem mcX3_layCell {l : Launch} {K : Kt} {N : Nat}  {w : Mm} {x1 : Int32} {x2 : Int32} {zw : Mm} (h : fX3_layCell N w x1 x2 = some zw) : MC l K yX3_layCell cX3_layCell 4 none rmX3_layCell w [.ref (K.1 53), .int x1, .int x2] none zw :=
  MC.of (by decide) (Nat.le_of_ble_eq_true rfl) rfl (AX3_layCell  h)
def fX3_layFar_L2 (N : Nat) : Nat → Mm → Int32 → Int32 → Int32 → Option Mm
  | 0, _, _, _, _ => none
  | n0 + 1, w, x1, x2, x3 => if (14 : Int32) < x3 then (
some w)
else (
Option.bind (fX3_ifLit w x1 x3 x2) fun a2 =>
Option.bind (wrA w 65 15 x3 a2) fun m3 =>
(fX3_layFar_L2 N n0) m3 x1 x2 (x3 + 1))
set_option maxRecDepth 100000 in
set_option maxHeartbeats 4000000 in
theorem AX3_layFar_L2 {l : Launch} {K : Kt} {N : Nat}   : ∀ (n0 : Nat) (w : Mm) (x1 : Int32) (x2 : Int32) (x3 : Int32) {zw : Mm}, fX3_layFar_L2 N n0 w x1 x2 x3 = some zw → AW l K cX3_layFar RX3 4 none rmX3_layFar 0 0 ap_E (ap_F K none zw) w 2 [(0, .ref (K.1 53)), (1, .int x1), (2, .int x2), (3, .int x3)] [] := by
  intro n0
  induction n0 with
  | zero =>
    intro w x1 x2 x3 zw h
    cases h
  | succ n0 ih =>
    intro w x1 x2 x3 zw h
    rw [fX3_layFar_L2] at h
    refine ap_iload_n dX3_layFar_2 3 rfl rfl ?_
    refine ap_bipush (v := 14) dX3_layFar_3 (by decide) ?_
    refine ap_icmp_gt (tgt := 27) dX3_layFar_5 (by decide) (fun hc1 => ?_) (fun hc1 => ?_)
    · rw [if_pos hc1] at h
      obtain rfl := Option.some.inj h
      exact ap_vret rfl dX3_layFar_27
    · rw [if_neg hc1] at h
      refine ap_aload_n dX3_layFar_8 0 rfl rfl ?_
      refine ap_get (v := .ref (K.1 65)) fl_X3_46 ly_53 rfl rfl dX3_layFar_9 ?_
      refine ap_iload_n dX3_layFar_12 3 rfl rfl ?_
      refine ap_aload_n dX3_layFar_13 0 rfl rfl ?_
      refine ap_iload_n dX3_layFar_14 1 rfl rfl ?_
      refine ap_iload_n dX3_layFar_15 3 rfl rfl ?_
      refine ap_iload_n dX3_layFar_16 2 rfl rfl ?_
      obtain ⟨a2, ha2, h⟩ := Option.bind_eq_some_iff.mp h
      refine ap_callV (k := 53) (As := [.int x1, .int x3, .int x2]) (st := [.int x3, .ref (K.1 65)]) (st1 := [.int a2, .int x3, .ref (K.1 65)]) (mcX3_ifLit  (w := w) ha2) cv_X3_93 rfl ly_53 ⟨rfl, rfl, by decide, by decide⟩ rfl (Nat.le_of_ble_eq_true rfl) ⟨Nat.zero_le _, Nat.zero_le _⟩ dX3_layFar_17 rfl rfl ?_
      obtain ⟨m3, hm3, h⟩ := Option.bind_eq_some_iff.mp h
      refine ap_iast ly_65 hm3 dX3_layFar_20 ?_
      refine ap_iinc (v := x3 + 1) (lv' := [(3, .int (x3 + 1)), (0, .ref (K.1 53)), (1, .int x1), (2, .int x2)]) dX3_layFar_21 3 rfl rfl (by decide) rfl ?_
      refine ap_goto (tgt := 2) dX3_layFar_24 (by decide) ?_
      refine ap_sub [1, 2, 3, 0] rfl ?_
      exact ih _ _ _ _ h
def fX3_layFar (N : Nat) (w : Mm) (x1 : Int32) (x2 : Int32) : Option Mm :=
fX3_layFar_L2 N N w x1 x2 (0 : Int32)
set_option maxRecDepth 100000 in
set_option maxHeartbeats 4000000 in
theorem AX3_layFar {l : Launch} {K : Kt} {N : Nat}  {w : Mm} {x1 : Int32} {x2 : Int32} {zw : Mm} (h : fX3_layFar N w x1 x2 = some zw) : AW l K cX3_layFar RX3 4 none rmX3_layFar 0 0 ap_E (ap_F K none zw) w 0 [(0, .ref (K.1 53)), (1, .int x1), (2, .int x2)] [] := by
  unfold fX3_layFar at h
  refine ap_iconst (v := 0) dX3_layFar_0 (by decide) ?_
  refine ap_istore_n (i := 3) (lv' := [(3, .int (0 : Int32)), (0, .ref (K.1 53)), (1, .int x1), (2, .int x2)]) dX3_layFar_1 rfl (by decide) rfl ?_
  refine ap_sub [1, 2, 3, 0] rfl ?_
  exact AX3_layFar_L2  N _ _ _ _ h
theorem mcX3_layFar {l : Launch} {K : Kt} {N : Nat}  {w : Mm} {x1 : Int32} {x2 : Int32} {zw : Mm} (h : fX3_layFar N w x1 x2 = some zw) : MC l K yX3_layFar cX3_layFar 4 none rmX3_layFar w [.ref (K.1 53), .int x1, .int x2] none zw :=
  MC.of (by decide) (Nat.le_of_ble_eq_true rfl) rfl (AX3_layFar  h)
def fX3_layAll_L21 (N : Nat) (k2 : Mm → Int32 → Int32 → Option Mm) : Nat → Mm → Int32 → Int32 → Int32 → Option Mm
  | 0, _, _, _, _ => none
  | n0 + 1, w, x1, x2, x3 => if (64 : Int32) ≤ x3 then (
k2 w x1 (x2 + 1))
else (
Option.bind (fX8_farFrom 1 w x2 x3) fun a4 =>
Option.bind (rdA w 65 15 a4) fun a5 =>
Option.bind (wrA w 61 448 ((x3 * (7 : Int32)) + x2) a5) fun m6 =>
(fX3_layAll_L21 N k2 n0) m6 x1 x2 (x3 + 1))
set_option maxRecDepth 100000 in
set_option maxHeartbeats 4000000 in
theorem AX3_layAll_L21 {l : Launch} {K : Kt} {N : Nat} {k2 : Mm → Int32 → Int32 → Option Mm} (hk2 : ∀ (w : Mm) (x1 : Int32) (x2 : Int32) (zw : Mm), k2 w x1 x2 = some zw → AW l K cX3_layAll RX3 4 none rmX3_layAll 0 0 ap_E (ap_F K none zw) w 2 [(0, .ref (K.1 53)), (1, .int x1), (2, .int x2)] [])  : ∀ (n0 : Nat) (w : Mm) (x1 : Int32) (x2 : Int32) (x3 : Int32) {zw : Mm}, fX3_layAll_L21 N k2 n0 w x1 x2 x3 = some zw → AW l K cX3_layAll RX3 4 none rmX3_layAll 0 0 ap_E (ap_F K none zw) w 21 [(0, .ref (K.1 53)), (1, .int x1), (2, .int x2), (3, .int x3)] [] := by
  intro n0
  induction n0 with
  | zero =>
    intro w x1 x2 x3 zw h
    cases h
  | succ n0 ih =>
    intro w x1 x2 x3 zw h
    rw [fX3_layAll_L21] at h
    refine ap_iload_n dX3_layAll_21 3 rfl rfl ?_
    refine ap_bipush (v := 64) dX3_layAll_22 (by decide) ?_
    refine ap_icmp_ge (tgt := 58) dX3_layAll_24 (by decide) (fun hc3 => ?_) (fun hc3 => ?_)
    · rw [if_pos hc3] at h
      refine ap_iinc (v := x2 + 1) (lv' := [(2, .int (x2 + 1)), (0, .ref (K.1 53)), (1, .int x1), (3, .int x3)]) dX3_layAll_58 2 rfl rfl (by decide) rfl ?_
      refine ap_goto (tgt := 2) dX3_layAll_61 (by decide) ?_
      refine ap_sub [1, 2, 0] rfl ?_
      exact hk2 _ _ _ _ h
    · rw [if_neg hc3] at h
      refine ap_aload_n dX3_layAll_27 0 rfl rfl ?_
      refine ap_get (v := .ref (K.1 61)) fl_X3_33 ly_53 rfl rfl dX3_layAll_28 ?_
      refine ap_iload_n dX3_layAll_31 3 rfl rfl ?_
      refine ap_bipush (v := 7) dX3_layAll_32 (by decide) ?_
      refine ap_imul dX3_layAll_34 ?_
      refine ap_iload_n dX3_layAll_35 2 rfl rfl ?_
      refine ap_iadd dX3_layAll_36 ?_
      refine ap_aload_n dX3_layAll_37 0 rfl rfl ?_
      refine ap_get (v := .ref (K.1 65)) fl_X3_46 ly_53 rfl rfl dX3_layAll_38 ?_
      refine ap_aload_n dX3_layAll_41 0 rfl rfl ?_
      refine ap_get (v := .ref (K.1 1)) fl_X3_55 ly_53 rfl rfl dX3_layAll_42 ?_
      refine ap_iload_n dX3_layAll_45 2 rfl rfl ?_
      refine ap_iload_n dX3_layAll_46 3 rfl rfl ?_
      obtain ⟨a4, ha4, h⟩ := Option.bind_eq_some_iff.mp h
      refine ap_callV (k := 1) (As := [.int x2, .int x3]) (st := [.ref (K.1 65), .int ((x3 * (7 : Int32)) + x2), .ref (K.1 61)]) (st1 := [.int a4, .ref (K.1 65), .int ((x3 * (7 : Int32)) + x2), .ref (K.1 61)]) (mcX8_farFrom isV_1 (w := w) ha4) cv_X3_90 rfl ly_1 ⟨rfl, rfl, by decide, by decide⟩ rfl (Nat.le_of_ble_eq_true rfl) ⟨Nat.zero_le _, Nat.zero_le _⟩ dX3_layAll_47 rfl rfl ?_
      obtain ⟨a5, ha5, h⟩ := Option.bind_eq_some_iff.mp h
      refine ap_iald ly_65 ha5 dX3_layAll_50 ?_
      obtain ⟨m6, hm6, h⟩ := Option.bind_eq_some_iff.mp h
      refine ap_iast ly_61 hm6 dX3_layAll_51 ?_
      refine ap_iinc (v := x3 + 1) (lv' := [(3, .int (x3 + 1)), (0, .ref (K.1 53)), (1, .int x1), (2, .int x2)]) dX3_layAll_52 3 rfl rfl (by decide) rfl ?_
      refine ap_goto (tgt := 21) dX3_layAll_55 (by decide) ?_
      refine ap_sub [1, 2, 3, 0] rfl ?_
      exact ih _ _ _ _ h
def fX3_layAll_L2 (N : Nat) : Nat → Mm → Int32 → Int32 → Option Mm
  | 0, _, _, _ => none
  | n0 + 1, w, x1, x2 => if (w.1 1 1) ≤ x2 then (
some w)
else (
Option.bind (fX3_layFar N w x2 x1) fun m2 =>
fX3_layAll_L21 N (fX3_layAll_L2 N n0) N m2 x1 x2 (0 : Int32))
set_option maxRecDepth 100000 in
set_option maxHeartbeats 4000000 in
theorem AX3_layAll_L2 {l : Launch} {K : Kt} {N : Nat}   : ∀ (n0 : Nat) (w : Mm) (x1 : Int32) (x2 : Int32) {zw : Mm}, fX3_layAll_L2 N n0 w x1 x2 = some zw → AW l K cX3_layAll RX3 4 none rmX3_layAll 0 0 ap_E (ap_F K none zw) w 2 [(0, .ref (K.1 53)), (1, .int x1), (2, .int x2)] [] := by
  intro n0
  induction n0 with
  | zero =>
    intro w x1 x2 zw h
    cases h
  | succ n0 ih =>
    intro w x1 x2 zw h
    rw [fX3_layAll_L2] at h
    refine ap_iload_n dX3_layAll_2 2 rfl rfl ?_
    refine ap_aload_n dX3_layAll_3 0 rfl rfl ?_
    refine ap_get (v := .ref (K.1 1)) fl_X3_55 ly_53 rfl rfl dX3_layAll_4 ?_
    refine ap_get (v := .int (w.1 1 1)) fl_X3_87 ly_1 rfl rfl dX3_layAll_7 ?_
    refine ap_icmp_ge (tgt := 64) dX3_layAll_10 (by decide) (fun hc1 => ?_) (fun hc1 => ?_)
    · rw [if_pos hc1] at h
      obtain rfl := Option.some.inj h
      exact ap_vret rfl dX3_layAll_64
    · rw [if_neg hc1] at h
      refine ap_aload_n dX3_layAll_13 0 rfl rfl ?_
      refine ap_iload_n dX3_layAll_14 2 rfl rfl ?_
      refine ap_iload_n dX3_layAll_15 1 rfl rfl ?_
      obtain ⟨m2, hm2, h⟩ := Option.bind_eq_some_iff.mp h
      refine ap_callV (k := 53) (As := [.int x2, .int x1]) (st := []) (st1 := []) (mcX3_layFar  hm2) cv_X3_97 rfl ly_53 ⟨rfl, rfl, by decide, by decide⟩ rfl (Nat.le_of_ble_eq_true rfl) ⟨Nat.zero_le _, Nat.zero_le _⟩ dX3_layAll_16 rfl rfl ?_
      refine ap_iconst (v := 0) dX3_layAll_19 (by decide) ?_
      refine ap_istore_n (i := 3) (lv' := [(3, .int (0 : Int32)), (0, .ref (K.1 53)), (1, .int x1), (2, .int x2)]) dX3_layAll_20 rfl (by decide) rfl ?_
      refine ap_sub [1, 2, 3, 0] rfl ?_
      exact AX3_layAll_L21 (fun q0 q1 q2 q3 hq => ih q0 q1 q2 hq)  N _ _ _ _ h
def fX3_layAll (N : Nat) (w : Mm) (x1 : Int32) : Option Mm :=
fX3_layAll_L2 N N w x1 (0 : Int32)
set_option maxRecDepth 100000 in
set_option maxHeartbeats 4000000 in
theorem AX3_layAll {l : Launch} {K : Kt} {N : Nat}  {w : Mm} {x1 : Int32} {zw : Mm} (h : fX3_layAll N w x1 = some zw) : AW l K cX3_layAll RX3 4 none rmX3_layAll 0 0 ap_E (ap_F K none zw) w 0 [(0, .ref (K.1 53)), (1, .int x1)] [] := by
  unfold fX3_layAll at h
  refine ap_iconst (v := 0) dX3_layAll_0 (by decide) ?_
  refine ap_istore_n (i := 2) (lv' := [(2, .int (0 : Int32)), (0, .ref (K.1 53)), (1, .int x1)]) dX3_layAll_1 rfl (by decide) rfl ?_
  refine ap_sub [1, 2, 0] rfl ?_
  exact AX3_layAll_L2  N _ _ _ h
theorem mcX3_layAll {l : Launch} {K : Kt} {N : Nat}  {w : Mm} {x1 : Int32} {zw : Mm} (h : fX3_layAll N w x1 = some zw) : MC l K yX3_layAll cX3_layAll 4 none rmX3_layAll w [.ref (K.1 53), .int x1] none zw :=
  MC.of (by decide) (Nat.le_of_ble_eq_true rfl) rfl (AX3_layAll  h)
def fX3_reaching_L6 (N : Nat) (w : Mm) : Nat → Int32 → Int32 → Int32 → Int32 → Int32 → Option Int32
  | 0, _, _, _, _, _ => none
  | n0 + 1, x1, x2, x3, x4, x5 => if (w.1 1 1) ≤ x5 then (
some x4)
else (
Option.bind (fX8_farFrom 1 w x5 x1) fun a2 =>
Option.bind (fX3_ifLit w x5 a2 x2) fun a3 =>
if a3 < x3 then (
(fX3_reaching_L6 N w n0) x1 x2 x3 x4 (x5 + 1))
else (
(fX3_reaching_L6 N w n0) x1 x2 x3 (x4 ||| ((1 : Int32) <<< (x5 &&& 31))) (x5 + 1)))
set_option maxRecDepth 100000 in
set_option maxHeartbeats 4000000 in
theorem AX3_reaching_L6 {l : Launch} {K : Kt} {N : Nat} {w : Mm}   : ∀ (n0 : Nat) (x1 : Int32) (x2 : Int32) (x3 : Int32) (x4 : Int32) (x5 : Int32) {zx : Int32}, fX3_reaching_L6 N w n0 x1 x2 x3 x4 x5 = some zx → AW l K cX3_reaching RX3 6 (some .int) rmX3_reaching 0 0 ap_E (ap_F K (some (.int zx)) w) w 6 [(0, .ref (K.1 53)), (1, .int x1), (2, .int x2), (3, .int x3), (4, .int x4), (5, .int x5)] [] := by
  intro n0
  induction n0 with
  | zero =>
    intro x1 x2 x3 x4 x5 zx h
    cases h
  | succ n0 ih =>
    intro x1 x2 x3 x4 x5 zx h
    rw [fX3_reaching_L6] at h
    refine ap_iload dX3_reaching_6 5 rfl ?_
    refine ap_aload_n dX3_reaching_8 0 rfl rfl ?_
    refine ap_get (v := .ref (K.1 1)) fl_X3_55 ly_53 rfl rfl dX3_reaching_9 ?_
    refine ap_get (v := .int (w.1 1 1)) fl_X3_87 ly_1 rfl rfl dX3_reaching_12 ?_
    refine ap_icmp_ge (tgt := 54) dX3_reaching_15 (by decide) (fun hc1 => ?_) (fun hc1 => ?_)
    · rw [if_pos hc1] at h
      refine ap_iload dX3_reaching_54 4 rfl ?_
      obtain rfl := Option.some.inj h
      exact ap_iret rfl dX3_reaching_56
    · rw [if_neg hc1] at h
      refine ap_aload_n dX3_reaching_18 0 rfl rfl ?_
      refine ap_iload dX3_reaching_19 5 rfl ?_
      refine ap_aload_n dX3_reaching_21 0 rfl rfl ?_
      refine ap_get (v := .ref (K.1 1)) fl_X3_55 ly_53 rfl rfl dX3_reaching_22 ?_
      refine ap_iload dX3_reaching_25 5 rfl ?_
      refine ap_iload_n dX3_reaching_27 1 rfl rfl ?_
      obtain ⟨a2, ha2, h⟩ := Option.bind_eq_some_iff.mp h
      refine ap_callV (k := 1) (As := [.int x5, .int x1]) (st := [.int x5, .ref (K.1 53)]) (st1 := [.int a2, .int x5, .ref (K.1 53)]) (mcX8_farFrom isV_1 (w := w) ha2) cv_X3_90 rfl ly_1 ⟨rfl, rfl, by decide, by decide⟩ rfl (Nat.le_of_ble_eq_true rfl) ⟨Nat.zero_le _, Nat.zero_le _⟩ dX3_reaching_28 rfl rfl ?_
      refine ap_iload_n dX3_reaching_31 2 rfl rfl ?_
      obtain ⟨a3, ha3, h⟩ := Option.bind_eq_some_iff.mp h
      refine ap_callV (k := 53) (As := [.int x5, .int a2, .int x2]) (st := []) (st1 := [.int a3]) (mcX3_ifLit  (w := w) ha3) cv_X3_93 rfl ly_53 ⟨rfl, rfl, by decide, by decide⟩ rfl (Nat.le_of_ble_eq_true rfl) ⟨Nat.zero_le _, Nat.zero_le _⟩ dX3_reaching_32 rfl rfl ?_
      refine ap_iload_n dX3_reaching_35 3 rfl rfl ?_
      refine ap_icmp_lt (tgt := 48) dX3_reaching_36 (by decide) (fun hc4 => ?_) (fun hc4 => ?_)
      · rw [if_pos hc4] at h
        refine ap_iinc (v := x5 + 1) (lv' := [(5, .int (x5 + 1)), (0, .ref (K.1 53)), (1, .int x1), (2, .int x2), (3, .int x3), (4, .int x4)]) dX3_reaching_48 5 rfl rfl (by decide) rfl ?_
        refine ap_goto (tgt := 6) dX3_reaching_51 (by decide) ?_
        refine ap_sub [1, 2, 3, 4, 5, 0] rfl ?_
        exact ih _ _ _ _ _ h
      · rw [if_neg hc4] at h
        refine ap_iload dX3_reaching_39 4 rfl ?_
        refine ap_iconst (v := 1) dX3_reaching_41 (by decide) ?_
        refine ap_iload dX3_reaching_42 5 rfl ?_
        refine ap_ishl dX3_reaching_44 ?_
        refine ap_ior dX3_reaching_45 ?_
        refine ap_istore (i := 4) (lv' := [(4, .int (x4 ||| ((1 : Int32) <<< (x5 &&& 31)))), (0, .ref (K.1 53)), (1, .int x1), (2, .int x2), (3, .int x3), (5, .int x5)]) dX3_reaching_46 (by decide) rfl ?_
        refine ap_iinc (v := x5 + 1) (lv' := [(5, .int (x5 + 1)), (4, .int (x4 ||| ((1 : Int32) <<< (x5 &&& 31)))), (0, .ref (K.1 53)), (1, .int x1), (2, .int x2), (3, .int x3)]) dX3_reaching_48 5 rfl rfl (by decide) rfl ?_
        refine ap_goto (tgt := 6) dX3_reaching_51 (by decide) ?_
        refine ap_sub [2, 3, 4, 5, 1, 0] rfl ?_
        exact ih _ _ _ _ _ h
def fX3_reaching (N : Nat) (w : Mm) (x1 : Int32) (x2 : Int32) (x3 : Int32) : Option Int32 :=
fX3_reaching_L6 N w N x1 x2 x3 (0 : Int32) (0 : Int32)
set_option maxRecDepth 100000 in
set_option maxHeartbeats 4000000 in
theorem AX3_reaching {l : Launch} {K : Kt} {N : Nat} {w : Mm}  {x1 : Int32} {x2 : Int32} {x3 : Int32} {zx : Int32} (h : fX3_reaching N w x1 x2 x3 = some zx) : AW l K cX3_reaching RX3 6 (some .int) rmX3_reaching 0 0 ap_E (ap_F K (some (.int zx)) w) w 0 [(0, .ref (K.1 53)), (1, .int x1), (2, .int x2), (3, .int x3)] [] := by
  unfold fX3_reaching at h
  refine ap_iconst (v := 0) dX3_reaching_0 (by decide) ?_
  refine ap_istore (i := 4) (lv' := [(4, .int (0 : Int32)), (0, .ref (K.1 53)), (1, .int x1), (2, .int x2), (3, .int x3)]) dX3_reaching_1 (by decide) rfl ?_
  refine ap_iconst (v := 0) dX3_reaching_3 (by decide) ?_
  refine ap_istore (i := 5) (lv' := [(5, .int (0 : Int32)), (4, .int (0 : Int32)), (0, .ref (K.1 53)), (1, .int x1), (2, .int x2), (3, .int x3)]) dX3_reaching_4 (by decide) rfl ?_
  refine ap_sub [2, 3, 4, 5, 1, 0] rfl ?_
  exact AX3_reaching_L6  N _ _ _ _ _ h
theorem mcX3_reaching {l : Launch} {K : Kt} {N : Nat} {w : Mm}  {x1 : Int32} {x2 : Int32} {x3 : Int32} {zx : Int32} (h : fX3_reaching N w x1 x2 x3 = some zx) : MC l K yX3_reaching cX3_reaching 6 (some .int) rmX3_reaching w [.ref (K.1 53), .int x1, .int x2, .int x3] (some (.int zx)) w :=
  MC.of (by decide) (Nat.le_of_ble_eq_true rfl) rfl (AX3_reaching  h)
def fX3_strongest_L5 (N : Nat) (w : Mm) : Nat → Int32 → Int32 → Int32 → Int32 → Option Int32
  | 0, _, _, _, _ => none
  | n0 + 1, x1, x2, x3, x4 => if (w.1 1 1) ≤ x4 then (
some x3)
else (
if ((x2 >>> (x4 &&& 31)) &&& (1 : Int32)) = (1 : Int32) then (
Option.bind (rdA w 61 448 ((x1 * (7 : Int32)) + x4)) fun a3 =>
(fX3_strongest_L5 N w n0) x1 x2 (mxI x3 a3) (x4 + 1))
else (
(fX3_strongest_L5 N w n0) x1 x2 x3 (x4 + 1)))
set_option maxRecDepth 100000 in
set_option maxHeartbeats 4000000 in
theorem AX3_strongest_L5 {l : Launch} {K : Kt} {N : Nat} {w : Mm}   : ∀ (n0 : Nat) (x1 : Int32) (x2 : Int32) (x3 : Int32) (x4 : Int32) {zx : Int32}, fX3_strongest_L5 N w n0 x1 x2 x3 x4 = some zx → AW l K cX3_strongest RX3 5 (some .int) rmX3_strongest 0 0 ap_E (ap_F K (some (.int zx)) w) w 5 [(0, .ref (K.1 53)), (1, .int x1), (2, .int x2), (3, .int x3), (4, .int x4)] [] := by
  intro n0
  induction n0 with
  | zero =>
    intro x1 x2 x3 x4 zx h
    cases h
  | succ n0 ih =>
    intro x1 x2 x3 x4 zx h
    rw [fX3_strongest_L5] at h
    refine ap_iload dX3_strongest_5 4 rfl ?_
    refine ap_aload_n dX3_strongest_7 0 rfl rfl ?_
    refine ap_get (v := .ref (K.1 1)) fl_X3_55 ly_53 rfl rfl dX3_strongest_8 ?_
    refine ap_get (v := .int (w.1 1 1)) fl_X3_87 ly_1 rfl rfl dX3_strongest_11 ?_
    refine ap_icmp_ge (tgt := 50) dX3_strongest_14 (by decide) (fun hc1 => ?_) (fun hc1 => ?_)
    · rw [if_pos hc1] at h
      refine ap_iload_n dX3_strongest_50 3 rfl rfl ?_
      obtain rfl := Option.some.inj h
      exact ap_iret rfl dX3_strongest_51
    · rw [if_neg hc1] at h
      refine ap_iload_n dX3_strongest_17 2 rfl rfl ?_
      refine ap_iload dX3_strongest_18 4 rfl ?_
      refine ap_ishr dX3_strongest_20 ?_
      refine ap_iconst (v := 1) dX3_strongest_21 (by decide) ?_
      refine ap_iand dX3_strongest_22 ?_
      refine ap_iconst (v := 1) dX3_strongest_23 (by decide) ?_
      refine ap_icmp_ne (tgt := 44) dX3_strongest_24 (by decide) (fun hc2 => ?_) (fun hc2 => ?_)
      · rw [if_neg hc2] at h
        refine ap_iinc (v := x4 + 1) (lv' := [(4, .int (x4 + 1)), (0, .ref (K.1 53)), (1, .int x1), (2, .int x2), (3, .int x3)]) dX3_strongest_44 4 rfl rfl (by decide) rfl ?_
        refine ap_goto (tgt := 5) dX3_strongest_47 (by decide) ?_
        refine ap_sub [1, 2, 3, 4, 0] rfl ?_
        exact ih _ _ _ _ h
      · rw [if_pos hc2] at h
        refine ap_iload_n dX3_strongest_27 3 rfl rfl ?_
        refine ap_aload_n dX3_strongest_28 0 rfl rfl ?_
        refine ap_get (v := .ref (K.1 61)) fl_X3_33 ly_53 rfl rfl dX3_strongest_29 ?_
        refine ap_iload_n dX3_strongest_32 1 rfl rfl ?_
        refine ap_bipush (v := 7) dX3_strongest_33 (by decide) ?_
        refine ap_imul dX3_strongest_35 ?_
        refine ap_iload dX3_strongest_36 4 rfl ?_
        refine ap_iadd dX3_strongest_38 ?_
        obtain ⟨a3, ha3, h⟩ := Option.bind_eq_some_iff.mp h
        refine ap_iald ly_61 ha3 dX3_strongest_39 ?_
        refine ap_mmax wd_638 ⟨by decide, by decide⟩ (Nat.le_of_ble_eq_true rfl) ⟨Nat.zero_le _, Nat.zero_le _⟩ dX3_strongest_40 ?_
        refine ap_istore_n (i := 3) (lv' := [(3, .int (mxI x3 a3)), (0, .ref (K.1 53)), (1, .int x1), (2, .int x2), (4, .int x4)]) dX3_strongest_43 rfl (by decide) rfl ?_
        refine ap_iinc (v := x4 + 1) (lv' := [(4, .int (x4 + 1)), (3, .int (mxI x3 a3)), (0, .ref (K.1 53)), (1, .int x1), (2, .int x2)]) dX3_strongest_44 4 rfl rfl (by decide) rfl ?_
        refine ap_goto (tgt := 5) dX3_strongest_47 (by decide) ?_
        refine ap_sub [2, 3, 4, 1, 0] rfl ?_
        exact ih _ _ _ _ h
def fX3_strongest (N : Nat) (w : Mm) (x1 : Int32) (x2 : Int32) : Option Int32 :=
fX3_strongest_L5 N w N x1 x2 (0 : Int32) (0 : Int32)
set_option maxRecDepth 100000 in
set_option maxHeartbeats 4000000 in
theorem AX3_strongest {l : Launch} {K : Kt} {N : Nat} {w : Mm}  {x1 : Int32} {x2 : Int32} {zx : Int32} (h : fX3_strongest N w x1 x2 = some zx) : AW l K cX3_strongest RX3 5 (some .int) rmX3_strongest 0 0 ap_E (ap_F K (some (.int zx)) w) w 0 [(0, .ref (K.1 53)), (1, .int x1), (2, .int x2)] [] := by
  unfold fX3_strongest at h
  refine ap_iconst (v := 0) dX3_strongest_0 (by decide) ?_
  refine ap_istore_n (i := 3) (lv' := [(3, .int (0 : Int32)), (0, .ref (K.1 53)), (1, .int x1), (2, .int x2)]) dX3_strongest_1 rfl (by decide) rfl ?_
  refine ap_iconst (v := 0) dX3_strongest_2 (by decide) ?_
  refine ap_istore (i := 4) (lv' := [(4, .int (0 : Int32)), (3, .int (0 : Int32)), (0, .ref (K.1 53)), (1, .int x1), (2, .int x2)]) dX3_strongest_3 (by decide) rfl ?_
  refine ap_sub [2, 3, 4, 1, 0] rfl ?_
  exact AX3_strongest_L5  N _ _ _ _ h
theorem mcX3_strongest {l : Launch} {K : Kt} {N : Nat} {w : Mm}  {x1 : Int32} {x2 : Int32} {zx : Int32} (h : fX3_strongest N w x1 x2 = some zx) : MC l K yX3_strongest cX3_strongest 5 (some .int) rmX3_strongest w [.ref (K.1 53), .int x1, .int x2] (some (.int zx)) w :=
  MC.of (by decide) (Nat.le_of_ble_eq_true rfl) rfl (AX3_strongest  h)
def fX3_holder_L54 (N : Nat) (k9 : Int32 → Int32 → Int32 → Int32 → Int32 → Option Int32) (a : Nat) (n : Nat) (w : Mm) (x1 : Int32) (x2 : Int32) (x4 : Int32) (x5 : Int32) (x6 : Int32) (t0 : Int32) : Option Int32 :=
if t0 ≤ x4 then (
if t0 ≤ (0 : Int32) then (
k9 x1 x2 x4 x5 (x6 + 1))
else (
if t0 = x4 then (
Option.bind (rdA w a n x6) fun a8 =>
if a8 = x5 then (
k9 x1 x2 x4 x5 (x6 + 1))
else (
k9 x1 x2 x4 (-2 : Int32) (x6 + 1)))
else (
k9 x1 x2 x4 x5 (x6 + 1))))
else (
Option.bind (rdA w a n x6) fun a10 =>
k9 x1 x2 t0 a10 (x6 + 1))
set_option maxRecDepth 100000 in
set_option maxHeartbeats 4000000 in
theorem AX3_holder_L54 {l : Launch} {K : Kt} {N : Nat} {a : Nat} {n : Nat} {w : Mm} {k9 : Int32 → Int32 → Int32 → Int32 → Int32 → Option Int32} (hk9 : ∀ (x1 : Int32) (x2 : Int32) (x4 : Int32) (x5 : Int32) (x6 : Int32) (zx : Int32), k9 x1 x2 x4 x5 x6 = some zx → AW l K cX3_holder RX3 8 (some .int) rmX3_holder 0 0 ap_E (ap_F K (some (.int zx)) w) w 9 [(0, .ref (K.1 53)), (1, .int x1), (2, .int x2), (3, .ref (K.1 a)), (4, .int x4), (5, .int x5), (6, .int x6)] []) (ha : LAY[a]? = some (.inr (.inl (0, n)))) {x1 : Int32} {x2 : Int32} {x4 : Int32} {x5 : Int32} {x6 : Int32} {t0 : Int32} {zx : Int32} (h : fX3_holder_L54 N k9 a n w x1 x2 x4 x5 x6 t0 = some zx) : AW l K cX3_holder RX3 8 (some .int) rmX3_holder 0 0 ap_E (ap_F K (some (.int zx)) w) w 54 [(0, .ref (K.1 53)), (1, .int x1), (2, .int x2), (3, .ref (K.1 a)), (4, .int x4), (5, .int x5), (6, .int x6)] [.int t0] := by
  unfold fX3_holder_L54 at h
  refine ap_istore (i := 7) (lv' := [(7, .int t0), (0, .ref (K.1 53)), (1, .int x1), (2, .int x2), (3, .ref (K.1 a)), (4, .int x4), (5, .int x5), (6, .int x6)]) dX3_holder_54 (by decide) rfl ?_
  refine ap_iload dX3_holder_56 0 rfl ?_
  refine ap_iload dX3_holder_58 5 rfl ?_
  refine ap_icmp_le (tgt := 76) dX3_holder_60 (by decide) (fun hc5 => ?_) (fun hc5 => ?_)
  · rw [if_pos hc5] at h
    refine ap_iload dX3_holder_76 0 rfl ?_
    refine ap_if_le (tgt := 101) dX3_holder_78 (by decide) (fun hc6 => ?_) (fun hc6 => ?_)
    · rw [if_pos hc6] at h
      refine ap_iinc (v := x6 + 1) (lv' := [(6, .int (x6 + 1)), (7, .int t0), (0, .ref (K.1 53)), (1, .int x1), (2, .int x2), (3, .ref (K.1 a)), (4, .int x4), (5, .int x5)]) dX3_holder_101 7 rfl rfl (by decide) rfl ?_
      refine ap_goto (tgt := 9) dX3_holder_104 (by decide) ?_
      refine ap_sub [2, 3, 4, 5, 6, 7, 0] rfl ?_
      exact hk9 _ _ _ _ _ _ h
    · rw [if_neg hc6] at h
      refine ap_iload dX3_holder_81 0 rfl ?_
      refine ap_iload dX3_holder_83 5 rfl ?_
      refine ap_icmp_ne (tgt := 101) dX3_holder_85 (by decide) (fun hc7 => ?_) (fun hc7 => ?_)
      · rw [if_neg hc7] at h
        refine ap_iinc (v := x6 + 1) (lv' := [(6, .int (x6 + 1)), (7, .int t0), (0, .ref (K.1 53)), (1, .int x1), (2, .int x2), (3, .ref (K.1 a)), (4, .int x4), (5, .int x5)]) dX3_holder_101 7 rfl rfl (by decide) rfl ?_
        refine ap_goto (tgt := 9) dX3_holder_104 (by decide) ?_
        refine ap_sub [2, 3, 4, 5, 6, 7, 0] rfl ?_
        exact hk9 _ _ _ _ _ _ h
      · rw [if_pos hc7] at h
        refine ap_aload_n dX3_holder_88 4 rfl rfl ?_
        refine ap_iload dX3_holder_89 7 rfl ?_
        obtain ⟨a8, ha8, h⟩ := Option.bind_eq_some_iff.mp h
        refine ap_iald ha ha8 dX3_holder_91 ?_
        refine ap_iload dX3_holder_92 6 rfl ?_
        refine ap_icmp_eq (tgt := 101) dX3_holder_94 (by decide) (fun hc9 => ?_) (fun hc9 => ?_)
        · rw [if_pos hc9] at h
          refine ap_iinc (v := x6 + 1) (lv' := [(6, .int (x6 + 1)), (7, .int t0), (0, .ref (K.1 53)), (1, .int x1), (2, .int x2), (3, .ref (K.1 a)), (4, .int x4), (5, .int x5)]) dX3_holder_101 7 rfl rfl (by decide) rfl ?_
          refine ap_goto (tgt := 9) dX3_holder_104 (by decide) ?_
          refine ap_sub [2, 3, 4, 5, 6, 7, 0] rfl ?_
          exact hk9 _ _ _ _ _ _ h
        · rw [if_neg hc9] at h
          refine ap_bipush (v := -2) dX3_holder_97 (by decide) ?_
          refine ap_istore (i := 5) (lv' := [(5, .int (-2 : Int32)), (7, .int t0), (0, .ref (K.1 53)), (1, .int x1), (2, .int x2), (3, .ref (K.1 a)), (4, .int x4), (6, .int x6)]) dX3_holder_99 (by decide) rfl ?_
          refine ap_iinc (v := x6 + 1) (lv' := [(6, .int (x6 + 1)), (5, .int (-2 : Int32)), (7, .int t0), (0, .ref (K.1 53)), (1, .int x1), (2, .int x2), (3, .ref (K.1 a)), (4, .int x4)]) dX3_holder_101 7 rfl rfl (by decide) rfl ?_
          refine ap_goto (tgt := 9) dX3_holder_104 (by decide) ?_
          refine ap_sub [3, 4, 5, 6, 7, 1, 0] rfl ?_
          exact hk9 _ _ _ _ _ _ h
  · rw [if_neg hc5] at h
    refine ap_iload dX3_holder_63 0 rfl ?_
    refine ap_istore (i := 4) (lv' := [(4, .int t0), (7, .int t0), (0, .ref (K.1 53)), (1, .int x1), (2, .int x2), (3, .ref (K.1 a)), (5, .int x5), (6, .int x6)]) dX3_holder_65 (by decide) rfl ?_
    refine ap_aload_n dX3_holder_67 5 rfl rfl ?_
    refine ap_iload dX3_holder_68 7 rfl ?_
    obtain ⟨a10, ha10, h⟩ := Option.bind_eq_some_iff.mp h
    refine ap_iald ha ha10 dX3_holder_70 ?_
    refine ap_istore (i := 5) (lv' := [(5, .int a10), (4, .int t0), (7, .int t0), (0, .ref (K.1 53)), (1, .int x1), (2, .int x2), (3, .ref (K.1 a)), (6, .int x6)]) dX3_holder_71 (by decide) rfl ?_
    refine ap_goto (tgt := 101) dX3_holder_73 (by decide) ?_
    refine ap_iinc (v := x6 + 1) (lv' := [(6, .int (x6 + 1)), (5, .int a10), (4, .int t0), (7, .int t0), (0, .ref (K.1 53)), (1, .int x1), (2, .int x2), (3, .ref (K.1 a))]) dX3_holder_101 7 rfl rfl (by decide) rfl ?_
    refine ap_goto (tgt := 9) dX3_holder_104 (by decide) ?_
    refine ap_sub [4, 5, 6, 7, 2, 1, 0] rfl ?_
    exact hk9 _ _ _ _ _ _ h
def fX3_holder_L9 (N : Nat) (a : Nat) (n : Nat) (w : Mm) : Nat → Int32 → Int32 → Int32 → Int32 → Int32 → Option Int32
  | 0, _, _, _, _, _ => none
  | n0 + 1, x1, x2, x4, x5, x6 => if (w.1 1 1) ≤ x6 then (
some x5)
else (
if (Int32.ofNat n) ≤ x6 then (
some x5)
else (
if ((x2 >>> (x6 &&& 31)) &&& (1 : Int32)) = (1 : Int32) then (
Option.bind (rdA w 61 448 ((x1 * (7 : Int32)) + x6)) fun a4 =>
fX3_holder_L54 N (fX3_holder_L9 N a n w n0) a n w x1 x2 x4 x5 x6 a4)
else (
fX3_holder_L54 N (fX3_holder_L9 N a n w n0) a n w x1 x2 x4 x5 x6 (0 : Int32))))
set_option maxRecDepth 100000 in
set_option maxHeartbeats 4000000 in
theorem AX3_holder_L9 {l : Launch} {K : Kt} {N : Nat} {a : Nat} {n : Nat} {w : Mm}  (ha : LAY[a]? = some (.inr (.inl (0, n)))) : ∀ (n0 : Nat) (x1 : Int32) (x2 : Int32) (x4 : Int32) (x5 : Int32) (x6 : Int32) {zx : Int32}, fX3_holder_L9 N a n w n0 x1 x2 x4 x5 x6 = some zx → AW l K cX3_holder RX3 8 (some .int) rmX3_holder 0 0 ap_E (ap_F K (some (.int zx)) w) w 9 [(0, .ref (K.1 53)), (1, .int x1), (2, .int x2), (3, .ref (K.1 a)), (4, .int x4), (5, .int x5), (6, .int x6)] [] := by
  intro n0
  induction n0 with
  | zero =>
    intro x1 x2 x4 x5 x6 zx h
    cases h
  | succ n0 ih =>
    intro x1 x2 x4 x5 x6 zx h
    rw [fX3_holder_L9] at h
    refine ap_iload dX3_holder_9 6 rfl ?_
    refine ap_aload_n dX3_holder_11 0 rfl rfl ?_
    refine ap_get (v := .ref (K.1 1)) fl_X3_55 ly_53 rfl rfl dX3_holder_12 ?_
    refine ap_get (v := .int (w.1 1 1)) fl_X3_87 ly_1 rfl rfl dX3_holder_15 ?_
    refine ap_icmp_ge (tgt := 107) dX3_holder_18 (by decide) (fun hc1 => ?_) (fun hc1 => ?_)
    · rw [if_pos hc1] at h
      refine ap_iload dX3_holder_107 5 rfl ?_
      obtain rfl := Option.some.inj h
      exact ap_iret rfl dX3_holder_109
    · rw [if_neg hc1] at h
      refine ap_iload dX3_holder_21 6 rfl ?_
      refine ap_aload_n dX3_holder_23 3 rfl rfl ?_
      refine ap_alen (ty := .int) (v := (Int32.ofNat n)) ha rfl rfl dX3_holder_24 ?_
      refine ap_icmp_ge (tgt := 107) dX3_holder_25 (by decide) (fun hc2 => ?_) (fun hc2 => ?_)
      · rw [if_pos hc2] at h
        refine ap_iload dX3_holder_107 5 rfl ?_
        obtain rfl := Option.some.inj h
        exact ap_iret rfl dX3_holder_109
      · rw [if_neg hc2] at h
        refine ap_iload_n dX3_holder_28 2 rfl rfl ?_
        refine ap_iload dX3_holder_29 6 rfl ?_
        refine ap_ishr dX3_holder_31 ?_
        refine ap_iconst (v := 1) dX3_holder_32 (by decide) ?_
        refine ap_iand dX3_holder_33 ?_
        refine ap_iconst (v := 1) dX3_holder_34 (by decide) ?_
        refine ap_icmp_ne (tgt := 53) dX3_holder_35 (by decide) (fun hc3 => ?_) (fun hc3 => ?_)
        · rw [if_neg hc3] at h
          refine ap_iconst (v := 0) dX3_holder_53 (by decide) ?_
          exact AX3_holder_L54 (fun q0 q1 q2 q3 q4 q5 hq => ih q0 q1 q2 q3 q4 hq) ha  h
        · rw [if_pos hc3] at h
          refine ap_aload_n dX3_holder_38 0 rfl rfl ?_
          refine ap_get (v := .ref (K.1 61)) fl_X3_33 ly_53 rfl rfl dX3_holder_39 ?_
          refine ap_iload_n dX3_holder_42 1 rfl rfl ?_
          refine ap_bipush (v := 7) dX3_holder_43 (by decide) ?_
          refine ap_imul dX3_holder_45 ?_
          refine ap_iload dX3_holder_46 6 rfl ?_
          refine ap_iadd dX3_holder_48 ?_
          obtain ⟨a4, ha4, h⟩ := Option.bind_eq_some_iff.mp h
          refine ap_iald ly_61 ha4 dX3_holder_49 ?_
          refine ap_goto (tgt := 54) dX3_holder_50 (by decide) ?_
          exact AX3_holder_L54 (fun q0 q1 q2 q3 q4 q5 hq => ih q0 q1 q2 q3 q4 hq) ha  h
def fX3_holder (N : Nat) (a : Nat) (n : Nat) (w : Mm) (x1 : Int32) (x2 : Int32) : Option Int32 :=
fX3_holder_L9 N a n w N x1 x2 (0 : Int32) (-1 : Int32) (0 : Int32)
set_option maxRecDepth 100000 in
set_option maxHeartbeats 4000000 in
theorem AX3_holder {l : Launch} {K : Kt} {N : Nat} {a : Nat} {n : Nat} {w : Mm} (ha : LAY[a]? = some (.inr (.inl (0, n)))) {x1 : Int32} {x2 : Int32} {zx : Int32} (h : fX3_holder N a n w x1 x2 = some zx) : AW l K cX3_holder RX3 8 (some .int) rmX3_holder 0 0 ap_E (ap_F K (some (.int zx)) w) w 0 [(0, .ref (K.1 53)), (1, .int x1), (2, .int x2), (3, .ref (K.1 a))] [] := by
  unfold fX3_holder at h
  refine ap_iconst (v := 0) dX3_holder_0 (by decide) ?_
  refine ap_istore (i := 4) (lv' := [(4, .int (0 : Int32)), (0, .ref (K.1 53)), (1, .int x1), (2, .int x2), (3, .ref (K.1 a))]) dX3_holder_1 (by decide) rfl ?_
  refine ap_iconst (v := -1) dX3_holder_3 (by decide) ?_
  refine ap_istore (i := 5) (lv' := [(5, .int (-1 : Int32)), (4, .int (0 : Int32)), (0, .ref (K.1 53)), (1, .int x1), (2, .int x2), (3, .ref (K.1 a))]) dX3_holder_4 (by decide) rfl ?_
  refine ap_iconst (v := 0) dX3_holder_6 (by decide) ?_
  refine ap_istore (i := 6) (lv' := [(6, .int (0 : Int32)), (5, .int (-1 : Int32)), (4, .int (0 : Int32)), (0, .ref (K.1 53)), (1, .int x1), (2, .int x2), (3, .ref (K.1 a))]) dX3_holder_7 (by decide) rfl ?_
  refine ap_sub [3, 4, 5, 6, 2, 1, 0] rfl ?_
  exact AX3_holder_L9 ha N _ _ _ _ _ h
theorem mcX3_holder {l : Launch} {K : Kt} {N : Nat} {a : Nat} {n : Nat} {w : Mm} (ha : LAY[a]? = some (.inr (.inl (0, n)))) {x1 : Int32} {x2 : Int32} {zx : Int32} (h : fX3_holder N a n w x1 x2 = some zx) : MC l K yX3_holder cX3_holder 8 (some .int) rmX3_holder w [.ref (K.1 53), .int x1, .int x2, .ref (K.1 a)] (some (.int zx)) w :=
  MC.of (by decide) (Nat.le_of_ble_eq_true rfl) rfl (AX3_holder ha h)
def fX3_pick_L5 (N : Nat) (w : Mm) : Nat → Int32 → Int32 → Int32 → Int32 → Option Int32
  | 0, _, _, _, _ => none
  | n0 + 1, x1, x2, x3, x4 => if (64 : Int32) ≤ x4 then (
if x2 = (-1 : Int32) then (
some x3)
else (
some (-5 : Int32)))
else (
Option.bind (fX3_holder N 5 7 w x4 (w.1 1 2)) fun a3 =>
if a3 = x1 then (
if x3 = x2 then (
some x4)
else (
(fX3_pick_L5 N w n0) x1 x2 (x3 + 1) (x4 + 1)))
else (
(fX3_pick_L5 N w n0) x1 x2 x3 (x4 + 1)))
set_option maxRecDepth 100000 in
set_option maxHeartbeats 4000000 in
theorem AX3_pick_L5 {l : Launch} {K : Kt} {N : Nat} {w : Mm}   : ∀ (n0 : Nat) (x1 : Int32) (x2 : Int32) (x3 : Int32) (x4 : Int32) {zx : Int32}, fX3_pick_L5 N w n0 x1 x2 x3 x4 = some zx → AW l K cX3_pick RX3 5 (some .int) rmX3_pick 0 0 ap_E (ap_F K (some (.int zx)) w) w 5 [(0, .ref (K.1 53)), (1, .int x1), (2, .int x2), (3, .int x3), (4, .int x4)] [] := by
  intro n0
  induction n0 with
  | zero =>
    intro x1 x2 x3 x4 zx h
    cases h
  | succ n0 ih =>
    intro x1 x2 x3 x4 zx h
    rw [fX3_pick_L5] at h
    refine ap_iload dX3_pick_5 4 rfl ?_
    refine ap_bipush (v := 64) dX3_pick_7 (by decide) ?_
    refine ap_icmp_ge (tgt := 53) dX3_pick_9 (by decide) (fun hc1 => ?_) (fun hc1 => ?_)
    · rw [if_pos hc1] at h
      refine ap_iload_n dX3_pick_53 2 rfl rfl ?_
      refine ap_iconst (v := -1) dX3_pick_54 (by decide) ?_
      refine ap_icmp_ne (tgt := 62) dX3_pick_55 (by decide) (fun hc2 => ?_) (fun hc2 => ?_)
      · rw [if_neg hc2] at h
        refine ap_bipush (v := -5) dX3_pick_62 (by decide) ?_
        obtain rfl := Option.some.inj h
        exact ap_iret rfl dX3_pick_64
      · rw [if_pos hc2] at h
        refine ap_iload_n dX3_pick_58 3 rfl rfl ?_
        refine ap_goto (tgt := 64) dX3_pick_59 (by decide) ?_
        obtain rfl := Option.some.inj h
        exact ap_iret rfl dX3_pick_64
    · rw [if_neg hc1] at h
      refine ap_aload_n dX3_pick_12 0 rfl rfl ?_
      refine ap_iload dX3_pick_13 4 rfl ?_
      refine ap_aload_n dX3_pick_15 0 rfl rfl ?_
      refine ap_get (v := .ref (K.1 1)) fl_X3_55 ly_53 rfl rfl dX3_pick_16 ?_
      refine ap_get (v := .int (w.1 1 2)) fl_X3_101 ly_1 rfl rfl dX3_pick_19 ?_
      refine ap_aload_n dX3_pick_22 0 rfl rfl ?_
      refine ap_get (v := .ref (K.1 1)) fl_X3_55 ly_53 rfl rfl dX3_pick_23 ?_
      refine ap_get (v := .ref (K.1 5)) fl_X3_104 ly_1 rfl rfl dX3_pick_26 ?_
      obtain ⟨a3, ha3, h⟩ := Option.bind_eq_some_iff.mp h
      refine ap_callV (k := 53) (As := [.int x4, .int (w.1 1 2), .ref (K.1 5)]) (st := []) (st1 := [.int a3]) (mcX3_holder ly_5 (w := w) ha3) cv_X3_107 rfl ly_53 ⟨rfl, rfl, by decide, by decide⟩ rfl (Nat.le_of_ble_eq_true rfl) ⟨Nat.zero_le _, Nat.zero_le _⟩ dX3_pick_29 rfl rfl ?_
      refine ap_iload_n dX3_pick_32 1 rfl rfl ?_
      refine ap_icmp_ne (tgt := 47) dX3_pick_33 (by decide) (fun hc4 => ?_) (fun hc4 => ?_)
      · rw [if_neg hc4] at h
        refine ap_iinc (v := x4 + 1) (lv' := [(4, .int (x4 + 1)), (0, .ref (K.1 53)), (1, .int x1), (2, .int x2), (3, .int x3)]) dX3_pick_47 4 rfl rfl (by decide) rfl ?_
        refine ap_goto (tgt := 5) dX3_pick_50 (by decide) ?_
        refine ap_sub [1, 2, 3, 4, 0] rfl ?_
        exact ih _ _ _ _ h
      · rw [if_pos hc4] at h
        refine ap_iload_n dX3_pick_36 3 rfl rfl ?_
        refine ap_iload_n dX3_pick_37 2 rfl rfl ?_
        refine ap_icmp_ne (tgt := 44) dX3_pick_38 (by decide) (fun hc5 => ?_) (fun hc5 => ?_)
        · rw [if_neg hc5] at h
          refine ap_iinc (v := x3 + 1) (lv' := [(3, .int (x3 + 1)), (0, .ref (K.1 53)), (1, .int x1), (2, .int x2), (4, .int x4)]) dX3_pick_44 3 rfl rfl (by decide) rfl ?_
          refine ap_iinc (v := x4 + 1) (lv' := [(4, .int (x4 + 1)), (3, .int (x3 + 1)), (0, .ref (K.1 53)), (1, .int x1), (2, .int x2)]) dX3_pick_47 4 rfl rfl (by decide) rfl ?_
          refine ap_goto (tgt := 5) dX3_pick_50 (by decide) ?_
          refine ap_sub [2, 3, 4, 1, 0] rfl ?_
          exact ih _ _ _ _ h
        · rw [if_pos hc5] at h
          refine ap_iload dX3_pick_41 4 rfl ?_
          obtain rfl := Option.some.inj h
          exact ap_iret rfl dX3_pick_43
def fX3_pick (N : Nat) (w : Mm) (x1 : Int32) (x2 : Int32) : Option Int32 :=
fX3_pick_L5 N w N x1 x2 (0 : Int32) (0 : Int32)
set_option maxRecDepth 100000 in
set_option maxHeartbeats 4000000 in
theorem AX3_pick {l : Launch} {K : Kt} {N : Nat} {w : Mm}  {x1 : Int32} {x2 : Int32} {zx : Int32} (h : fX3_pick N w x1 x2 = some zx) : AW l K cX3_pick RX3 5 (some .int) rmX3_pick 0 0 ap_E (ap_F K (some (.int zx)) w) w 0 [(0, .ref (K.1 53)), (1, .int x1), (2, .int x2)] [] := by
  unfold fX3_pick at h
  refine ap_iconst (v := 0) dX3_pick_0 (by decide) ?_
  refine ap_istore_n (i := 3) (lv' := [(3, .int (0 : Int32)), (0, .ref (K.1 53)), (1, .int x1), (2, .int x2)]) dX3_pick_1 rfl (by decide) rfl ?_
  refine ap_iconst (v := 0) dX3_pick_2 (by decide) ?_
  refine ap_istore (i := 4) (lv' := [(4, .int (0 : Int32)), (3, .int (0 : Int32)), (0, .ref (K.1 53)), (1, .int x1), (2, .int x2)]) dX3_pick_3 (by decide) rfl ?_
  refine ap_sub [2, 3, 4, 1, 0] rfl ?_
  exact AX3_pick_L5  N _ _ _ _ h
theorem mcX3_pick {l : Launch} {K : Kt} {N : Nat} {w : Mm}  {x1 : Int32} {x2 : Int32} {zx : Int32} (h : fX3_pick N w x1 x2 = some zx) : MC l K yX3_pick cX3_pick 5 (some .int) rmX3_pick w [.ref (K.1 53), .int x1, .int x2] (some (.int zx)) w :=
  MC.of (by decide) (Nat.le_of_ble_eq_true rfl) rfl (AX3_pick  h)
def fX3_acresOf_L6 (N : Nat) (a : Nat) (n : Nat) (w : Mm) : Nat → Int32 → Int32 → Int32 → Int32 → Option Int32
  | 0, _, _, _, _ => none
  | n0 + 1, x1, x2, x4, x5 => if (64 : Int32) ≤ x5 then (
some x4)
else (
Option.bind (fX3_holder N a n w x5 x2) fun a2 =>
if a2 = x1 then (
(fX3_acresOf_L6 N a n w n0) x1 x2 (x4 + 1) (x5 + 1))
else (
(fX3_acresOf_L6 N a n w n0) x1 x2 x4 (x5 + 1)))
set_option maxRecDepth 100000 in
set_option maxHeartbeats 4000000 in
theorem AX3_acresOf_L6 {l : Launch} {K : Kt} {N : Nat} {a : Nat} {n : Nat} {w : Mm}  (ha : LAY[a]? = some (.inr (.inl (0, n)))) : ∀ (n0 : Nat) (x1 : Int32) (x2 : Int32) (x4 : Int32) (x5 : Int32) {zx : Int32}, fX3_acresOf_L6 N a n w n0 x1 x2 x4 x5 = some zx → AW l K cX3_acresOf RX3 6 (some .int) rmX3_acresOf 0 0 ap_E (ap_F K (some (.int zx)) w) w 6 [(0, .ref (K.1 53)), (1, .int x1), (2, .int x2), (3, .ref (K.1 a)), (4, .int x4), (5, .int x5)] [] := by
  intro n0
  induction n0 with
  | zero =>
    intro x1 x2 x4 x5 zx h
    cases h
  | succ n0 ih =>
    intro x1 x2 x4 x5 zx h
    rw [fX3_acresOf_L6] at h
    refine ap_iload dX3_acresOf_6 5 rfl ?_
    refine ap_bipush (v := 64) dX3_acresOf_8 (by decide) ?_
    refine ap_icmp_ge (tgt := 34) dX3_acresOf_10 (by decide) (fun hc1 => ?_) (fun hc1 => ?_)
    · rw [if_pos hc1] at h
      refine ap_iload dX3_acresOf_34 4 rfl ?_
      obtain rfl := Option.some.inj h
      exact ap_iret rfl dX3_acresOf_36
    · rw [if_neg hc1] at h
      refine ap_aload_n dX3_acresOf_13 0 rfl rfl ?_
      refine ap_iload dX3_acresOf_14 5 rfl ?_
      refine ap_iload_n dX3_acresOf_16 2 rfl rfl ?_
      refine ap_aload_n dX3_acresOf_17 3 rfl rfl ?_
      obtain ⟨a2, ha2, h⟩ := Option.bind_eq_some_iff.mp h
      refine ap_callV (k := 53) (As := [.int x5, .int x2, .ref (K.1 a)]) (st := []) (st1 := [.int a2]) (mcX3_holder ha (w := w) ha2) cv_X3_107 rfl ly_53 ⟨rfl, rfl, by decide, by decide⟩ rfl (Nat.le_of_ble_eq_true rfl) ⟨Nat.zero_le _, Nat.zero_le _⟩ dX3_acresOf_18 rfl rfl ?_
      refine ap_iload_n dX3_acresOf_21 1 rfl rfl ?_
      refine ap_icmp_ne (tgt := 28) dX3_acresOf_22 (by decide) (fun hc3 => ?_) (fun hc3 => ?_)
      · rw [if_neg hc3] at h
        refine ap_iinc (v := x5 + 1) (lv' := [(5, .int (x5 + 1)), (0, .ref (K.1 53)), (1, .int x1), (2, .int x2), (3, .ref (K.1 a)), (4, .int x4)]) dX3_acresOf_28 5 rfl rfl (by decide) rfl ?_
        refine ap_goto (tgt := 6) dX3_acresOf_31 (by decide) ?_
        refine ap_sub [1, 2, 3, 4, 5, 0] rfl ?_
        exact ih _ _ _ _ h
      · rw [if_pos hc3] at h
        refine ap_iinc (v := x4 + 1) (lv' := [(4, .int (x4 + 1)), (0, .ref (K.1 53)), (1, .int x1), (2, .int x2), (3, .ref (K.1 a)), (5, .int x5)]) dX3_acresOf_25 4 rfl rfl (by decide) rfl ?_
        refine ap_iinc (v := x5 + 1) (lv' := [(5, .int (x5 + 1)), (4, .int (x4 + 1)), (0, .ref (K.1 53)), (1, .int x1), (2, .int x2), (3, .ref (K.1 a))]) dX3_acresOf_28 5 rfl rfl (by decide) rfl ?_
        refine ap_goto (tgt := 6) dX3_acresOf_31 (by decide) ?_
        refine ap_sub [2, 3, 4, 5, 1, 0] rfl ?_
        exact ih _ _ _ _ h
def fX3_acresOf (N : Nat) (a : Nat) (n : Nat) (w : Mm) (x1 : Int32) (x2 : Int32) : Option Int32 :=
fX3_acresOf_L6 N a n w N x1 x2 (0 : Int32) (0 : Int32)
set_option maxRecDepth 100000 in
set_option maxHeartbeats 4000000 in
theorem AX3_acresOf {l : Launch} {K : Kt} {N : Nat} {a : Nat} {n : Nat} {w : Mm} (ha : LAY[a]? = some (.inr (.inl (0, n)))) {x1 : Int32} {x2 : Int32} {zx : Int32} (h : fX3_acresOf N a n w x1 x2 = some zx) : AW l K cX3_acresOf RX3 6 (some .int) rmX3_acresOf 0 0 ap_E (ap_F K (some (.int zx)) w) w 0 [(0, .ref (K.1 53)), (1, .int x1), (2, .int x2), (3, .ref (K.1 a))] [] := by
  unfold fX3_acresOf at h
  refine ap_iconst (v := 0) dX3_acresOf_0 (by decide) ?_
  refine ap_istore (i := 4) (lv' := [(4, .int (0 : Int32)), (0, .ref (K.1 53)), (1, .int x1), (2, .int x2), (3, .ref (K.1 a))]) dX3_acresOf_1 (by decide) rfl ?_
  refine ap_iconst (v := 0) dX3_acresOf_3 (by decide) ?_
  refine ap_istore (i := 5) (lv' := [(5, .int (0 : Int32)), (4, .int (0 : Int32)), (0, .ref (K.1 53)), (1, .int x1), (2, .int x2), (3, .ref (K.1 a))]) dX3_acresOf_4 (by decide) rfl ?_
  refine ap_sub [2, 3, 4, 5, 1, 0] rfl ?_
  exact AX3_acresOf_L6 ha N _ _ _ _ h
theorem mcX3_acresOf {l : Launch} {K : Kt} {N : Nat} {a : Nat} {n : Nat} {w : Mm} (ha : LAY[a]? = some (.inr (.inl (0, n)))) {x1 : Int32} {x2 : Int32} {zx : Int32} (h : fX3_acresOf N a n w x1 x2 = some zx) : MC l K yX3_acresOf cX3_acresOf 6 (some .int) rmX3_acresOf w [.ref (K.1 53), .int x1, .int x2, .ref (K.1 a)] (some (.int zx)) w :=
  MC.of (by decide) (Nat.le_of_ble_eq_true rfl) rfl (AX3_acresOf ha h)
def fX3_gainByWedding_L39 (N : Nat) (k2 : Mm → Int32 → Int32 → Int32 → Option (Int32 × Mm)) (w : Mm) (x1 : Int32) (x2 : Int32) (x3 : Int32) (t0 : Int32) (t1 : Int32) : Option (Int32 × Mm) :=
Option.bind (wrA w 62 7 t1 t0) fun m8 =>
k2 m8 x1 x2 (x3 + 1)
set_option maxRecDepth 100000 in
set_option maxHeartbeats 4000000 in
theorem AX3_gainByWedding_L39 {l : Launch} {K : Kt} {N : Nat} {k2 : Mm → Int32 → Int32 → Int32 → Option (Int32 × Mm)} (hk2 : ∀ (w : Mm) (x1 : Int32) (x2 : Int32) (x3 : Int32) (zx : Int32) (zw : Mm), k2 w x1 x2 x3 = some (zx, zw) → AW l K cX3_gainByWedding RX3 4 (some .int) rmX3_gainByWedding 0 0 ap_E (ap_F K (some (.int zx)) zw) w 2 [(0, .ref (K.1 53)), (1, .int x1), (2, .int x2), (3, .int x3)] [])  {w : Mm} {x1 : Int32} {x2 : Int32} {x3 : Int32} {t0 : Int32} {t1 : Int32} {zx : Int32} {zw : Mm} (h : fX3_gainByWedding_L39 N k2 w x1 x2 x3 t0 t1 = some (zx, zw)) : AW l K cX3_gainByWedding RX3 4 (some .int) rmX3_gainByWedding 0 0 ap_E (ap_F K (some (.int zx)) zw) w 39 [(0, .ref (K.1 53)), (1, .int x1), (2, .int x2), (3, .int x3)] [.int t0, .int t1, .ref (K.1 62)] := by
  unfold fX3_gainByWedding_L39 at h
  obtain ⟨m8, hm8, h⟩ := Option.bind_eq_some_iff.mp h
  refine ap_iast ly_62 hm8 dX3_gainByWedding_39 ?_
  refine ap_iinc (v := x3 + 1) (lv' := [(3, .int (x3 + 1)), (0, .ref (K.1 53)), (1, .int x1), (2, .int x2)]) dX3_gainByWedding_40 3 rfl rfl (by decide) rfl ?_
  refine ap_goto (tgt := 2) dX3_gainByWedding_43 (by decide) ?_
  refine ap_sub [1, 2, 3, 0] rfl ?_
  exact hk2 _ _ _ _ _ _ h
def fX3_gainByWedding_L2 (N : Nat) : Nat → Mm → Int32 → Int32 → Int32 → Option (Int32 × Mm)
  | 0, _, _, _, _ => none
  | n0 + 1, w, x1, x2, x3 => if (7 : Int32) ≤ x3 then (
Option.bind (fX3_acresOf N 5 7 w x1 (w.1 1 2)) fun a2 =>
Option.bind (fX3_acresOf N 5 7 w x2 (w.1 1 2)) fun a3 =>
Option.bind (fX3_acresOf N 62 7 w x1 (w.1 1 2)) fun a4 =>
some ((a4 - (a2 + a3)), w))
else (
Option.bind (rdA w 5 7 x3) fun a5 =>
if a5 = x2 then (
fX3_gainByWedding_L39 N (fX3_gainByWedding_L2 N n0) w x1 x2 x3 x1 x3)
else (
Option.bind (rdA w 5 7 x3) fun a7 =>
fX3_gainByWedding_L39 N (fX3_gainByWedding_L2 N n0) w x1 x2 x3 a7 x3))
set_option maxRecDepth 100000 in
set_option maxHeartbeats 4000000 in
theorem AX3_gainByWedding_L2 {l : Launch} {K : Kt} {N : Nat}   : ∀ (n0 : Nat) (w : Mm) (x1 : Int32) (x2 : Int32) (x3 : Int32) {zx : Int32} {zw : Mm}, fX3_gainByWedding_L2 N n0 w x1 x2 x3 = some (zx, zw) → AW l K cX3_gainByWedding RX3 4 (some .int) rmX3_gainByWedding 0 0 ap_E (ap_F K (some (.int zx)) zw) w 2 [(0, .ref (K.1 53)), (1, .int x1), (2, .int x2), (3, .int x3)] [] := by
  intro n0
  induction n0 with
  | zero =>
    intro w x1 x2 x3 zx zw h
    cases h
  | succ n0 ih =>
    intro w x1 x2 x3 zx zw h
    rw [fX3_gainByWedding_L2] at h
    refine ap_iload_n dX3_gainByWedding_2 3 rfl rfl ?_
    refine ap_bipush (v := 7) dX3_gainByWedding_3 (by decide) ?_
    refine ap_icmp_ge (tgt := 46) dX3_gainByWedding_5 (by decide) (fun hc1 => ?_) (fun hc1 => ?_)
    · rw [if_pos hc1] at h
      refine ap_aload_n dX3_gainByWedding_46 0 rfl rfl ?_
      refine ap_iload_n dX3_gainByWedding_47 1 rfl rfl ?_
      refine ap_aload_n dX3_gainByWedding_48 0 rfl rfl ?_
      refine ap_get (v := .ref (K.1 1)) fl_X3_55 ly_53 rfl rfl dX3_gainByWedding_49 ?_
      refine ap_get (v := .int (w.1 1 2)) fl_X3_101 ly_1 rfl rfl dX3_gainByWedding_52 ?_
      refine ap_aload_n dX3_gainByWedding_55 0 rfl rfl ?_
      refine ap_get (v := .ref (K.1 1)) fl_X3_55 ly_53 rfl rfl dX3_gainByWedding_56 ?_
      refine ap_get (v := .ref (K.1 5)) fl_X3_104 ly_1 rfl rfl dX3_gainByWedding_59 ?_
      obtain ⟨a2, ha2, h⟩ := Option.bind_eq_some_iff.mp h
      refine ap_callV (k := 53) (As := [.int x1, .int (w.1 1 2), .ref (K.1 5)]) (st := []) (st1 := [.int a2]) (mcX3_acresOf ly_5 (w := w) ha2) cv_X3_111 rfl ly_53 ⟨rfl, rfl, by decide, by decide⟩ rfl (Nat.le_of_ble_eq_true rfl) ⟨Nat.zero_le _, Nat.zero_le _⟩ dX3_gainByWedding_62 rfl rfl ?_
      refine ap_aload_n dX3_gainByWedding_65 0 rfl rfl ?_
      refine ap_iload_n dX3_gainByWedding_66 2 rfl rfl ?_
      refine ap_aload_n dX3_gainByWedding_67 0 rfl rfl ?_
      refine ap_get (v := .ref (K.1 1)) fl_X3_55 ly_53 rfl rfl dX3_gainByWedding_68 ?_
      refine ap_get (v := .int (w.1 1 2)) fl_X3_101 ly_1 rfl rfl dX3_gainByWedding_71 ?_
      refine ap_aload_n dX3_gainByWedding_74 0 rfl rfl ?_
      refine ap_get (v := .ref (K.1 1)) fl_X3_55 ly_53 rfl rfl dX3_gainByWedding_75 ?_
      refine ap_get (v := .ref (K.1 5)) fl_X3_104 ly_1 rfl rfl dX3_gainByWedding_78 ?_
      obtain ⟨a3, ha3, h⟩ := Option.bind_eq_some_iff.mp h
      refine ap_callV (k := 53) (As := [.int x2, .int (w.1 1 2), .ref (K.1 5)]) (st := [.int a2]) (st1 := [.int a3, .int a2]) (mcX3_acresOf ly_5 (w := w) ha3) cv_X3_111 rfl ly_53 ⟨rfl, rfl, by decide, by decide⟩ rfl (Nat.le_of_ble_eq_true rfl) ⟨Nat.zero_le _, Nat.zero_le _⟩ dX3_gainByWedding_81 rfl rfl ?_
      refine ap_iadd dX3_gainByWedding_84 ?_
      refine ap_istore_n (i := 3) (lv' := [(3, .int (a2 + a3)), (0, .ref (K.1 53)), (1, .int x1), (2, .int x2)]) dX3_gainByWedding_85 rfl (by decide) rfl ?_
      refine ap_aload_n dX3_gainByWedding_86 1 rfl rfl ?_
      refine ap_iload_n dX3_gainByWedding_87 2 rfl rfl ?_
      refine ap_aload_n dX3_gainByWedding_88 1 rfl rfl ?_
      refine ap_get (v := .ref (K.1 1)) fl_X3_55 ly_53 rfl rfl dX3_gainByWedding_89 ?_
      refine ap_get (v := .int (w.1 1 2)) fl_X3_101 ly_1 rfl rfl dX3_gainByWedding_92 ?_
      refine ap_aload_n dX3_gainByWedding_95 1 rfl rfl ?_
      refine ap_get (v := .ref (K.1 62)) fl_X3_37 ly_53 rfl rfl dX3_gainByWedding_96 ?_
      obtain ⟨a4, ha4, h⟩ := Option.bind_eq_some_iff.mp h
      refine ap_callV (k := 53) (As := [.int x1, .int (w.1 1 2), .ref (K.1 62)]) (st := []) (st1 := [.int a4]) (mcX3_acresOf ly_62 (w := w) ha4) cv_X3_111 rfl ly_53 ⟨rfl, rfl, by decide, by decide⟩ rfl (Nat.le_of_ble_eq_true rfl) ⟨Nat.zero_le _, Nat.zero_le _⟩ dX3_gainByWedding_99 rfl rfl ?_
      refine ap_iload_n dX3_gainByWedding_102 0 rfl rfl ?_
      refine ap_isub dX3_gainByWedding_103 ?_
      obtain ⟨rfl, rfl⟩ := Prod.mk.inj (Option.some.inj h)
      exact ap_iret rfl dX3_gainByWedding_104
    · rw [if_neg hc1] at h
      refine ap_aload_n dX3_gainByWedding_8 0 rfl rfl ?_
      refine ap_get (v := .ref (K.1 62)) fl_X3_37 ly_53 rfl rfl dX3_gainByWedding_9 ?_
      refine ap_iload_n dX3_gainByWedding_12 3 rfl rfl ?_
      refine ap_aload_n dX3_gainByWedding_13 0 rfl rfl ?_
      refine ap_get (v := .ref (K.1 1)) fl_X3_55 ly_53 rfl rfl dX3_gainByWedding_14 ?_
      refine ap_get (v := .ref (K.1 5)) fl_X3_104 ly_1 rfl rfl dX3_gainByWedding_17 ?_
      refine ap_iload_n dX3_gainByWedding_20 3 rfl rfl ?_
      obtain ⟨a5, ha5, h⟩ := Option.bind_eq_some_iff.mp h
      refine ap_iald ly_5 ha5 dX3_gainByWedding_21 ?_
      refine ap_iload_n dX3_gainByWedding_22 2 rfl rfl ?_
      refine ap_icmp_ne (tgt := 30) dX3_gainByWedding_23 (by decide) (fun hc6 => ?_) (fun hc6 => ?_)
      · rw [if_neg hc6] at h
        refine ap_aload_n dX3_gainByWedding_30 0 rfl rfl ?_
        refine ap_get (v := .ref (K.1 1)) fl_X3_55 ly_53 rfl rfl dX3_gainByWedding_31 ?_
        refine ap_get (v := .ref (K.1 5)) fl_X3_104 ly_1 rfl rfl dX3_gainByWedding_34 ?_
        refine ap_iload_n dX3_gainByWedding_37 3 rfl rfl ?_
        obtain ⟨a7, ha7, h⟩ := Option.bind_eq_some_iff.mp h
        refine ap_iald ly_5 ha7 dX3_gainByWedding_38 ?_
        exact AX3_gainByWedding_L39 (fun q0 q1 q2 q3 q4 q5 hq => ih q0 q1 q2 q3 hq)  h
      · rw [if_pos hc6] at h
        refine ap_iload_n dX3_gainByWedding_26 1 rfl rfl ?_
        refine ap_goto (tgt := 39) dX3_gainByWedding_27 (by decide) ?_
        exact AX3_gainByWedding_L39 (fun q0 q1 q2 q3 q4 q5 hq => ih q0 q1 q2 q3 hq)  h
def fX3_gainByWedding (N : Nat) (w : Mm) (x1 : Int32) (x2 : Int32) : Option (Int32 × Mm) :=
fX3_gainByWedding_L2 N N w x1 x2 (0 : Int32)
set_option maxRecDepth 100000 in
set_option maxHeartbeats 4000000 in
theorem AX3_gainByWedding {l : Launch} {K : Kt} {N : Nat}  {w : Mm} {x1 : Int32} {x2 : Int32} {zx : Int32} {zw : Mm} (h : fX3_gainByWedding N w x1 x2 = some (zx, zw)) : AW l K cX3_gainByWedding RX3 4 (some .int) rmX3_gainByWedding 0 0 ap_E (ap_F K (some (.int zx)) zw) w 0 [(0, .ref (K.1 53)), (1, .int x1), (2, .int x2)] [] := by
  unfold fX3_gainByWedding at h
  refine ap_iconst (v := 0) dX3_gainByWedding_0 (by decide) ?_
  refine ap_istore_n (i := 3) (lv' := [(3, .int (0 : Int32)), (0, .ref (K.1 53)), (1, .int x1), (2, .int x2)]) dX3_gainByWedding_1 rfl (by decide) rfl ?_
  refine ap_sub [1, 2, 3, 0] rfl ?_
  exact AX3_gainByWedding_L2  N _ _ _ _ h
theorem mcX3_gainByWedding {l : Launch} {K : Kt} {N : Nat}  {w : Mm} {x1 : Int32} {x2 : Int32} {zx : Int32} {zw : Mm} (h : fX3_gainByWedding N w x1 x2 = some (zx, zw)) : MC l K yX3_gainByWedding cX3_gainByWedding 4 (some .int) rmX3_gainByWedding w [.ref (K.1 53), .int x1, .int x2] (some (.int zx)) zw :=
  MC.of (by decide) (Nat.le_of_ble_eq_true rfl) rfl (AX3_gainByWedding  h)
def fX3_candlesOf_L4 (N : Nat) (w : Mm) : Nat → Int32 → Int32 → Int32 → Option Int32
  | 0, _, _, _ => none
  | n0 + 1, x1, x2, x3 => if (w.1 1 1) ≤ x3 then (
some x2)
else (
Option.bind (rdA w 5 7 x3) fun a2 =>
if a2 = x1 then (
(fX3_candlesOf_L4 N w n0) x1 (x2 ||| ((1 : Int32) <<< (x3 &&& 31))) (x3 + 1))
else (
(fX3_candlesOf_L4 N w n0) x1 x2 (x3 + 1)))
set_option maxRecDepth 100000 in
set_option maxHeartbeats 4000000 in
theorem AX3_candlesOf_L4 {l : Launch} {K : Kt} {N : Nat} {w : Mm}   : ∀ (n0 : Nat) (x1 : Int32) (x2 : Int32) (x3 : Int32) {zx : Int32}, fX3_candlesOf_L4 N w n0 x1 x2 x3 = some zx → AW l K cX3_candlesOf RX3 4 (some .int) rmX3_candlesOf 0 0 ap_E (ap_F K (some (.int zx)) w) w 4 [(0, .ref (K.1 53)), (1, .int x1), (2, .int x2), (3, .int x3)] [] := by
  intro n0
  induction n0 with
  | zero =>
    intro x1 x2 x3 zx h
    cases h
  | succ n0 ih =>
    intro x1 x2 x3 zx h
    rw [fX3_candlesOf_L4] at h
    refine ap_iload_n dX3_candlesOf_4 3 rfl rfl ?_
    refine ap_aload_n dX3_candlesOf_5 0 rfl rfl ?_
    refine ap_get (v := .ref (K.1 1)) fl_X3_55 ly_53 rfl rfl dX3_candlesOf_6 ?_
    refine ap_get (v := .int (w.1 1 1)) fl_X3_87 ly_1 rfl rfl dX3_candlesOf_9 ?_
    refine ap_icmp_ge (tgt := 40) dX3_candlesOf_12 (by decide) (fun hc1 => ?_) (fun hc1 => ?_)
    · rw [if_pos hc1] at h
      refine ap_iload_n dX3_candlesOf_40 2 rfl rfl ?_
      obtain rfl := Option.some.inj h
      exact ap_iret rfl dX3_candlesOf_41
    · rw [if_neg hc1] at h
      refine ap_aload_n dX3_candlesOf_15 0 rfl rfl ?_
      refine ap_get (v := .ref (K.1 1)) fl_X3_55 ly_53 rfl rfl dX3_candlesOf_16 ?_
      refine ap_get (v := .ref (K.1 5)) fl_X3_104 ly_1 rfl rfl dX3_candlesOf_19 ?_
      refine ap_iload_n dX3_candlesOf_22 3 rfl rfl ?_
      obtain ⟨a2, ha2, h⟩ := Option.bind_eq_some_iff.mp h
      refine ap_iald ly_5 ha2 dX3_candlesOf_23 ?_
      refine ap_iload_n dX3_candlesOf_24 1 rfl rfl ?_
      refine ap_icmp_ne (tgt := 34) dX3_candlesOf_25 (by decide) (fun hc3 => ?_) (fun hc3 => ?_)
      · rw [if_neg hc3] at h
        refine ap_iinc (v := x3 + 1) (lv' := [(3, .int (x3 + 1)), (0, .ref (K.1 53)), (1, .int x1), (2, .int x2)]) dX3_candlesOf_34 3 rfl rfl (by decide) rfl ?_
        refine ap_goto (tgt := 4) dX3_candlesOf_37 (by decide) ?_
        refine ap_sub [1, 2, 3, 0] rfl ?_
        exact ih _ _ _ h
      · rw [if_pos hc3] at h
        refine ap_iload_n dX3_candlesOf_28 2 rfl rfl ?_
        refine ap_iconst (v := 1) dX3_candlesOf_29 (by decide) ?_
        refine ap_iload_n dX3_candlesOf_30 3 rfl rfl ?_
        refine ap_ishl dX3_candlesOf_31 ?_
        refine ap_ior dX3_candlesOf_32 ?_
        refine ap_istore_n (i := 2) (lv' := [(2, .int (x2 ||| ((1 : Int32) <<< (x3 &&& 31)))), (0, .ref (K.1 53)), (1, .int x1), (3, .int x3)]) dX3_candlesOf_33 rfl (by decide) rfl ?_
        refine ap_iinc (v := x3 + 1) (lv' := [(3, .int (x3 + 1)), (2, .int (x2 ||| ((1 : Int32) <<< (x3 &&& 31)))), (0, .ref (K.1 53)), (1, .int x1)]) dX3_candlesOf_34 3 rfl rfl (by decide) rfl ?_
        refine ap_goto (tgt := 4) dX3_candlesOf_37 (by decide) ?_
        refine ap_sub [2, 3, 1, 0] rfl ?_
        exact ih _ _ _ h
def fX3_candlesOf (N : Nat) (w : Mm) (x1 : Int32) : Option Int32 :=
fX3_candlesOf_L4 N w N x1 (0 : Int32) (0 : Int32)
set_option maxRecDepth 100000 in
set_option maxHeartbeats 4000000 in
theorem AX3_candlesOf {l : Launch} {K : Kt} {N : Nat} {w : Mm}  {x1 : Int32} {zx : Int32} (h : fX3_candlesOf N w x1 = some zx) : AW l K cX3_candlesOf RX3 4 (some .int) rmX3_candlesOf 0 0 ap_E (ap_F K (some (.int zx)) w) w 0 [(0, .ref (K.1 53)), (1, .int x1)] [] := by
  unfold fX3_candlesOf at h
  refine ap_iconst (v := 0) dX3_candlesOf_0 (by decide) ?_
  refine ap_istore_n (i := 2) (lv' := [(2, .int (0 : Int32)), (0, .ref (K.1 53)), (1, .int x1)]) dX3_candlesOf_1 rfl (by decide) rfl ?_
  refine ap_iconst (v := 0) dX3_candlesOf_2 (by decide) ?_
  refine ap_istore_n (i := 3) (lv' := [(3, .int (0 : Int32)), (2, .int (0 : Int32)), (0, .ref (K.1 53)), (1, .int x1)]) dX3_candlesOf_3 rfl (by decide) rfl ?_
  refine ap_sub [2, 3, 1, 0] rfl ?_
  exact AX3_candlesOf_L4  N _ _ _ h
theorem mcX3_candlesOf {l : Launch} {K : Kt} {N : Nat} {w : Mm}  {x1 : Int32} {zx : Int32} (h : fX3_candlesOf N w x1 = some zx) : MC l K yX3_candlesOf cX3_candlesOf 4 (some .int) rmX3_candlesOf w [.ref (K.1 53), .int x1] (some (.int zx)) w :=
  MC.of (by decide) (Nat.le_of_ble_eq_true rfl) rfl (AX3_candlesOf  h)

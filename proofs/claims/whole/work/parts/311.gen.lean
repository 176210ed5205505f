def fX12_draught_L39 (N : Nat) (w : Mm) : Option (Int32 × Mm) :=
ob2 (some (fX12_bad w (-2 : Int32))) fun a17 m18 =>
some (a17, m18)
set_option maxRecDepth 100000 in
set_option maxHeartbeats 4000000 in
theorem AX12_draught_L39 {l : Launch} {K : Kt} {N : Nat}   {w : Mm} {zx : Int32} {zw : Mm} (h : fX12_draught_L39 N w = some (zx, zw)) : AW l K cX12_draught RX12 13 (some .int) rmX12_draught 0 0 ap_E (ap_F K (some (.int zx)) zw) w 39 [(0, .ref (K.1 77))] [] := by
  unfold fX12_draught_L39 at h
  refine ap_aload_n dX12_draught_39 0 rfl rfl ?_
  refine ap_bipush (v := -2) dX12_draught_40 (by decide) ?_
  obtain ⟨a17, m18, ha17, h⟩ := ob2_iff h
  refine ap_callV (k := 77) (As := [.int (-2 : Int32)]) (st := []) (st1 := [.int a17]) (mcX12_bad  (Option.some.inj ha17)) cv_X12_75 rfl ly_77 ⟨rfl, rfl, by decide, by decide⟩ rfl (Nat.le_of_ble_eq_true rfl) ⟨Nat.zero_le _, Nat.zero_le _⟩ dX12_draught_42 rfl rfl ?_
  obtain ⟨rfl, rfl⟩ := Prod.mk.inj (Option.some.inj h)
  exact ap_iret rfl dX12_draught_45
def fX12_draught_L137 (N : Nat) (k90 : Mm → Int32 → Int32 → Int32 → Int32 → Int64 → Int64 → Int32 → Option (Int32 × Mm)) : Nat → Mm → Int32 → Int32 → Int32 → Int32 → Int64 → Int64 → Int32 → Int64 → Int32 → Option (Int32 × Mm)
  | 0, _, _, _, _, _, _, _, _, _, _ => none
  | n0 + 1, w, x1, x2, x3, x4, x5, x7, x9, x10, x12 => if (fX12_candles w) ≤ x12 then (
k90 w x1 x2 x3 x4 (x5 + x10) x7 (x9 + 1))
else (
if (((w.1 78 2) >>> (x12 &&& 31)) &&& (1 : Int32)) = (0 : Int32) then (
(fX12_draught_L137 N k90 n0) w x1 x2 x3 x4 x5 x7 x9 (x10 * (1 : Int64)) (x12 + 1))
else (
if ((x9 >>> (x12 &&& 31)) &&& (1 : Int32)) = (1 : Int32) then (
(fX12_draught_L137 N k90 n0) w x1 x2 x3 x4 x5 x7 x9 (x10 * ((10 : Int32) - x4).toInt64) (x12 + 1))
else (
(fX12_draught_L137 N k90 n0) w x1 x2 x3 x4 x5 x7 x9 (x10 * x4.toInt64) (x12 + 1))))
set_option maxRecDepth 100000 in
set_option maxHeartbeats 4000000 in
theorem AX12_draught_L137 {l : Launch} {K : Kt} {N : Nat} {k90 : Mm → Int32 → Int32 → Int32 → Int32 → Int64 → Int64 → Int32 → Option (Int32 × Mm)} (hk90 : ∀ (w : Mm) (x1 : Int32) (x2 : Int32) (x3 : Int32) (x4 : Int32) (x5 : Int64) (x7 : Int64) (x9 : Int32) (zx : Int32) (zw : Mm), k90 w x1 x2 x3 x4 x5 x7 x9 = some (zx, zw) → AW l K cX12_draught RX12 13 (some .int) rmX12_draught 0 0 ap_E (ap_F K (some (.int zx)) zw) w 90 [(0, .ref (K.1 77)), (1, .int x1), (2, .int x2), (3, .int x3), (4, .int x4), (5, .long x5), (7, .long x7), (9, .int x9)] [])  : ∀ (n0 : Nat) (w : Mm) (x1 : Int32) (x2 : Int32) (x3 : Int32) (x4 : Int32) (x5 : Int64) (x7 : Int64) (x9 : Int32) (x10 : Int64) (x12 : Int32) {zx : Int32} {zw : Mm}, fX12_draught_L137 N k90 n0 w x1 x2 x3 x4 x5 x7 x9 x10 x12 = some (zx, zw) → AW l K cX12_draught RX12 13 (some .int) rmX12_draught 0 0 ap_E (ap_F K (some (.int zx)) zw) w 137 [(0, .ref (K.1 77)), (1, .int x1), (2, .int x2), (3, .int x3), (4, .int x4), (5, .long x5), (7, .long x7), (9, .int x9), (10, .long x10), (12, .int x12)] [] := by
  intro n0
  induction n0 with
  | zero =>
    intro w x1 x2 x3 x4 x5 x7 x9 x10 x12 zx zw h
    cases h
  | succ n0 ih =>
    intro w x1 x2 x3 x4 x5 x7 x9 x10 x12 zx zw h
    rw [fX12_draught_L137] at h
    refine ap_iload dX12_draught_137 9 rfl ?_
    refine ap_aload_n dX12_draught_139 0 rfl rfl ?_
    refine ap_callV (k := 77) (As := []) (st := [.int x12]) (st1 := [.int (fX12_candles w), .int x12]) (mcX12_candles  (w := w) (zx := fX12_candles w) rfl) cv_X12_57 rfl ly_77 ⟨rfl, rfl, by decide, by decide⟩ rfl (Nat.le_of_ble_eq_true rfl) ⟨Nat.zero_le _, Nat.zero_le _⟩ dX12_draught_140 rfl rfl ?_
    refine ap_icmp_ge (tgt := 198) dX12_draught_143 (by decide) (fun hc14 => ?_) (fun hc14 => ?_)
    · rw [if_pos hc14] at h
      refine ap_lload dX12_draught_198 5 rfl ?_
      refine ap_lload dX12_draught_200 8 rfl ?_
      refine ap_ladd dX12_draught_202 ?_
      refine ap_lstore (i := 5) (lv' := [(5, .long (x5 + x10)), (0, .ref (K.1 77)), (1, .int x1), (2, .int x2), (3, .int x3), (4, .int x4), (7, .long x7), (9, .int x9), (10, .long x10), (12, .int x12)]) dX12_draught_203 (by decide) rfl ?_
      refine ap_iinc (v := x9 + 1) (lv' := [(9, .int (x9 + 1)), (5, .long (x5 + x10)), (0, .ref (K.1 77)), (1, .int x1), (2, .int x2), (3, .int x3), (4, .int x4), (7, .long x7), (10, .long x10), (12, .int x12)]) dX12_draught_205 7 rfl rfl (by decide) rfl ?_
      refine ap_goto (tgt := 90) dX12_draught_208 (by decide) ?_
      refine ap_sub [2, 3, 4, 5, 6, 1, 7, 0] rfl ?_
      exact hk90 _ _ _ _ _ _ _ _ _ _ h
    · rw [if_neg hc14] at h
      refine ap_lload dX12_draught_146 8 rfl ?_
      refine ap_aload_n dX12_draught_148 0 rfl rfl ?_
      refine ap_get (v := .ref (K.1 78)) fl_X12_7 ly_77 rfl rfl dX12_draught_149 ?_
      refine ap_iconst (v := 2) dX12_draught_152 (by decide) ?_
      refine ap_iald (x := (w.1 78 2)) ly_78 (rdA_c (by decide) (by decide)) dX12_draught_153 ?_
      refine ap_iload dX12_draught_154 9 rfl ?_
      refine ap_ishr dX12_draught_156 ?_
      refine ap_iconst (v := 1) dX12_draught_157 (by decide) ?_
      refine ap_iand dX12_draught_158 ?_
      refine ap_if_ne (tgt := 166) dX12_draught_159 (by decide) (fun hc15 => ?_) (fun hc15 => ?_)
      · rw [if_neg hc15] at h
        refine ap_iload dX12_draught_166 7 rfl ?_
        refine ap_iload dX12_draught_168 9 rfl ?_
        refine ap_ishr dX12_draught_170 ?_
        refine ap_iconst (v := 1) dX12_draught_171 (by decide) ?_
        refine ap_iand dX12_draught_172 ?_
        refine ap_iconst (v := 1) dX12_draught_173 (by decide) ?_
        refine ap_icmp_ne (tgt := 186) dX12_draught_174 (by decide) (fun hc16 => ?_) (fun hc16 => ?_)
        · rw [if_neg hc16] at h
          refine ap_iload dX12_draught_186 4 rfl ?_
          refine ap_i2l (v := x4.toInt64) dX12_draught_188 rfl ?_
          refine ap_lmul dX12_draught_189 ?_
          refine ap_lstore (i := 10) (lv' := [(10, .long (x10 * x4.toInt64)), (0, .ref (K.1 77)), (1, .int x1), (2, .int x2), (3, .int x3), (4, .int x4), (5, .long x5), (7, .long x7), (9, .int x9), (12, .int x12)]) dX12_draught_190 (by decide) rfl ?_
          refine ap_iinc (v := x12 + 1) (lv' := [(12, .int (x12 + 1)), (10, .long (x10 * x4.toInt64)), (0, .ref (K.1 77)), (1, .int x1), (2, .int x2), (3, .int x3), (4, .int x4), (5, .long x5), (7, .long x7), (9, .int x9)]) dX12_draught_192 9 rfl rfl (by decide) rfl ?_
          refine ap_goto (tgt := 137) dX12_draught_195 (by decide) ?_
          refine ap_sub [2, 3, 4, 5, 6, 7, 8, 9, 1, 0] rfl ?_
          exact ih _ _ _ _ _ _ _ _ _ _ h
        · rw [if_pos hc16] at h
          refine ap_bipush (v := 10) dX12_draught_177 (by decide) ?_
          refine ap_iload dX12_draught_179 4 rfl ?_
          refine ap_isub dX12_draught_181 ?_
          refine ap_i2l (v := ((10 : Int32) - x4).toInt64) dX12_draught_182 rfl ?_
          refine ap_goto (tgt := 189) dX12_draught_183 (by decide) ?_
          refine ap_lmul dX12_draught_189 ?_
          refine ap_lstore (i := 10) (lv' := [(10, .long (x10 * ((10 : Int32) - x4).toInt64)), (0, .ref (K.1 77)), (1, .int x1), (2, .int x2), (3, .int x3), (4, .int x4), (5, .long x5), (7, .long x7), (9, .int x9), (12, .int x12)]) dX12_draught_190 (by decide) rfl ?_
          refine ap_iinc (v := x12 + 1) (lv' := [(12, .int (x12 + 1)), (10, .long (x10 * ((10 : Int32) - x4).toInt64)), (0, .ref (K.1 77)), (1, .int x1), (2, .int x2), (3, .int x3), (4, .int x4), (5, .long x5), (7, .long x7), (9, .int x9)]) dX12_draught_192 9 rfl rfl (by decide) rfl ?_
          refine ap_goto (tgt := 137) dX12_draught_195 (by decide) ?_
          refine ap_sub [2, 3, 4, 5, 6, 7, 8, 9, 1, 0] rfl ?_
          exact ih _ _ _ _ _ _ _ _ _ _ h
      · rw [if_pos hc15] at h
        refine ap_lconst (v := 1) dX12_draught_162 (by decide) ?_
        refine ap_goto (tgt := 189) dX12_draught_163 (by decide) ?_
        refine ap_lmul dX12_draught_189 ?_
        refine ap_lstore (i := 10) (lv' := [(10, .long (x10 * (1 : Int64))), (0, .ref (K.1 77)), (1, .int x1), (2, .int x2), (3, .int x3), (4, .int x4), (5, .long x5), (7, .long x7), (9, .int x9), (12, .int x12)]) dX12_draught_190 (by decide) rfl ?_
        refine ap_iinc (v := x12 + 1) (lv' := [(12, .int (x12 + 1)), (10, .long (x10 * (1 : Int64))), (0, .ref (K.1 77)), (1, .int x1), (2, .int x2), (3, .int x3), (4, .int x4), (5, .long x5), (7, .long x7), (9, .int x9)]) dX12_draught_192 9 rfl rfl (by decide) rfl ?_
        refine ap_goto (tgt := 137) dX12_draught_195 (by decide) ?_
        refine ap_sub [2, 3, 4, 5, 6, 7, 8, 9, 1, 0] rfl ?_
        exact ih _ _ _ _ _ _ _ _ _ _ h
def fX12_draught_L90 (N : Nat) : Nat → Mm → Int32 → Int32 → Int32 → Int32 → Int64 → Int64 → Int32 → Option (Int32 × Mm)
  | 0, _, _, _, _, _, _, _, _ => none
  | n0 + 1, w, x1, x2, x3, x4, x5, x7, x9 => if ((1 : Int32) <<< ((fX12_candles w) &&& 31)) ≤ x9 then (
Option.bind (fX12_fraction N w x5 x7) fun m9 =>
some ((1 : Int32), m9))
else (
Option.bind (some (sI w 77 6 x9)) fun m10 =>
if (x9 &&& ((m10.1 78 2) ^^^ (-1 : Int32))) = (0 : Int32) then (
Option.bind (fX12_lightIn N m10 x1 x2) fun a12 =>
if a12 < x3 then (
(fX12_draught_L90 N n0) m10 x1 x2 x3 x4 x5 x7 (x9 + 1))
else (
fX12_draught_L137 N (fX12_draught_L90 N n0) N m10 x1 x2 x3 x4 x5 x7 x9 (1 : Int64) (0 : Int32)))
else (
(fX12_draught_L90 N n0) m10 x1 x2 x3 x4 x5 x7 (x9 + 1)))
set_option maxRecDepth 100000 in
set_option maxHeartbeats 4000000 in
theorem AX12_draught_L90 {l : Launch} {K : Kt} {N : Nat}   : ∀ (n0 : Nat) (w : Mm) (x1 : Int32) (x2 : Int32) (x3 : Int32) (x4 : Int32) (x5 : Int64) (x7 : Int64) (x9 : Int32) {zx : Int32} {zw : Mm}, fX12_draught_L90 N n0 w x1 x2 x3 x4 x5 x7 x9 = some (zx, zw) → AW l K cX12_draught RX12 13 (some .int) rmX12_draught 0 0 ap_E (ap_F K (some (.int zx)) zw) w 90 [(0, .ref (K.1 77)), (1, .int x1), (2, .int x2), (3, .int x3), (4, .int x4), (5, .long x5), (7, .long x7), (9, .int x9)] [] := by
  intro n0
  induction n0 with
  | zero =>
    intro w x1 x2 x3 x4 x5 x7 x9 zx zw h
    cases h
  | succ n0 ih =>
    intro w x1 x2 x3 x4 x5 x7 x9 zx zw h
    rw [fX12_draught_L90] at h
    refine ap_iload dX12_draught_90 7 rfl ?_
    refine ap_iconst (v := 1) dX12_draught_92 (by decide) ?_
    refine ap_aload_n dX12_draught_93 0 rfl rfl ?_
    refine ap_callV (k := 77) (As := []) (st := [.int (1 : Int32), .int x9]) (st1 := [.int (fX12_candles w), .int (1 : Int32), .int x9]) (mcX12_candles  (w := w) (zx := fX12_candles w) rfl) cv_X12_57 rfl ly_77 ⟨rfl, rfl, by decide, by decide⟩ rfl (Nat.le_of_ble_eq_true rfl) ⟨Nat.zero_le _, Nat.zero_le _⟩ dX12_draught_94 rfl rfl ?_
    refine ap_ishl dX12_draught_97 ?_
    refine ap_icmp_ge (tgt := 211) dX12_draught_98 (by decide) (fun hc8 => ?_) (fun hc8 => ?_)
    · rw [if_pos hc8] at h
      refine ap_aload_n dX12_draught_211 0 rfl rfl ?_
      refine ap_lload dX12_draught_212 5 rfl ?_
      refine ap_lload dX12_draught_214 6 rfl ?_
      obtain ⟨m9, hm9, h⟩ := Option.bind_eq_some_iff.mp h
      refine ap_callV (k := 77) (As := [.long x5, .long x7]) (st := []) (st1 := []) (mcX12_fraction  hm9) cv_X12_212 rfl ly_77 ⟨rfl, rfl, by decide, by decide⟩ rfl (Nat.le_of_ble_eq_true rfl) ⟨Nat.zero_le _, Nat.zero_le _⟩ dX12_draught_216 rfl rfl ?_
      refine ap_iconst (v := 1) dX12_draught_219 (by decide) ?_
      obtain ⟨rfl, rfl⟩ := Prod.mk.inj (Option.some.inj h)
      exact ap_iret rfl dX12_draught_220
    · rw [if_neg hc8] at h
      refine ap_aload_n dX12_draught_101 0 rfl rfl ?_
      refine ap_iload dX12_draught_102 7 rfl ?_
      obtain ⟨m10, hm10, h⟩ := Option.bind_eq_some_iff.mp h
      refine ap_putI fp_X12_126 ly_77 rfl (Option.some.inj hm10) dX12_draught_104 ?_
      refine ap_iload dX12_draught_107 7 rfl ?_
      refine ap_aload_n dX12_draught_109 0 rfl rfl ?_
      refine ap_get (v := .ref (K.1 78)) fl_X12_7 ly_77 rfl rfl dX12_draught_110 ?_
      refine ap_iconst (v := 2) dX12_draught_113 (by decide) ?_
      refine ap_iald (x := (m10.1 78 2)) ly_78 (rdA_c (by decide) (by decide)) dX12_draught_114 ?_
      refine ap_iconst (v := -1) dX12_draught_115 (by decide) ?_
      refine ap_ixor dX12_draught_116 ?_
      refine ap_iand dX12_draught_117 ?_
      refine ap_if_ne (tgt := 205) dX12_draught_118 (by decide) (fun hc11 => ?_) (fun hc11 => ?_)
      · rw [if_neg hc11] at h
        refine ap_iinc (v := x9 + 1) (lv' := [(9, .int (x9 + 1)), (0, .ref (K.1 77)), (1, .int x1), (2, .int x2), (3, .int x3), (4, .int x4), (5, .long x5), (7, .long x7)]) dX12_draught_205 7 rfl rfl (by decide) rfl ?_
        refine ap_goto (tgt := 90) dX12_draught_208 (by decide) ?_
        refine ap_sub [1, 2, 3, 4, 5, 6, 7, 0] rfl ?_
        exact ih _ _ _ _ _ _ _ _ h
      · rw [if_pos hc11] at h
        refine ap_aload_n dX12_draught_121 0 rfl rfl ?_
        refine ap_iload_n dX12_draught_122 1 rfl rfl ?_
        refine ap_iload_n dX12_draught_123 2 rfl rfl ?_
        obtain ⟨a12, ha12, h⟩ := Option.bind_eq_some_iff.mp h
        refine ap_callV (k := 77) (As := [.int x1, .int x2]) (st := []) (st1 := [.int a12]) (mcX12_lightIn  (w := m10) ha12) cv_X12_143 rfl ly_77 ⟨rfl, rfl, by decide, by decide⟩ rfl (Nat.le_of_ble_eq_true rfl) ⟨Nat.zero_le _, Nat.zero_le _⟩ dX12_draught_124 rfl rfl ?_
        refine ap_iload_n dX12_draught_127 3 rfl rfl ?_
        refine ap_icmp_lt (tgt := 205) dX12_draught_128 (by decide) (fun hc13 => ?_) (fun hc13 => ?_)
        · rw [if_pos hc13] at h
          refine ap_iinc (v := x9 + 1) (lv' := [(9, .int (x9 + 1)), (0, .ref (K.1 77)), (1, .int x1), (2, .int x2), (3, .int x3), (4, .int x4), (5, .long x5), (7, .long x7)]) dX12_draught_205 7 rfl rfl (by decide) rfl ?_
          refine ap_goto (tgt := 90) dX12_draught_208 (by decide) ?_
          refine ap_sub [1, 2, 3, 4, 5, 6, 7, 0] rfl ?_
          exact ih _ _ _ _ _ _ _ _ h
        · rw [if_neg hc13] at h
          refine ap_lconst (v := 1) dX12_draught_131 (by decide) ?_
          refine ap_lstore (i := 10) (lv' := [(10, .long (1 : Int64)), (0, .ref (K.1 77)), (1, .int x1), (2, .int x2), (3, .int x3), (4, .int x4), (5, .long x5), (7, .long x7), (9, .int x9)]) dX12_draught_132 (by decide) rfl ?_
          refine ap_iconst (v := 0) dX12_draught_134 (by decide) ?_
          refine ap_istore (i := 12) (lv' := [(12, .int (0 : Int32)), (10, .long (1 : Int64)), (0, .ref (K.1 77)), (1, .int x1), (2, .int x2), (3, .int x3), (4, .int x4), (5, .long x5), (7, .long x7), (9, .int x9)]) dX12_draught_135 (by decide) rfl ?_
          refine ap_sub [2, 3, 4, 5, 6, 7, 8, 9, 1, 0] rfl ?_
          exact AX12_draught_L137 (fun q0 q1 q2 q3 q4 q5 q6 q7 q8 q9 hq => ih q0 q1 q2 q3 q4 q5 q6 q7 hq)  N _ _ _ _ _ _ _ _ _ _ h
def fX12_draught_L59 (N : Nat) : Nat → Mm → Int32 → Int32 → Int32 → Int32 → Int64 → Int64 → Int32 → Option (Int32 × Mm)
  | 0, _, _, _, _, _, _, _, _ => none
  | n0 + 1, w, x1, x2, x3, x4, x5, x7, x9 => Option.bind (fX12_bits N (w.1 78 2)) fun a6 =>
if a6 ≤ x9 then (
fX12_draught_L90 N N w x1 x2 x3 x4 x5 x7 (0 : Int32))
else (
(fX12_draught_L59 N n0) w x1 x2 x3 x4 x5 (x7 * (10 : Int64)) (x9 + 1))
set_option maxRecDepth 100000 in
set_option maxHeartbeats 4000000 in
theorem AX12_draught_L59 {l : Launch} {K : Kt} {N : Nat}   : ∀ (n0 : Nat) (w : Mm) (x1 : Int32) (x2 : Int32) (x3 : Int32) (x4 : Int32) (x5 : Int64) (x7 : Int64) (x9 : Int32) {zx : Int32} {zw : Mm}, fX12_draught_L59 N n0 w x1 x2 x3 x4 x5 x7 x9 = some (zx, zw) → AW l K cX12_draught RX12 13 (some .int) rmX12_draught 0 0 ap_E (ap_F K (some (.int zx)) zw) w 59 [(0, .ref (K.1 77)), (1, .int x1), (2, .int x2), (3, .int x3), (4, .int x4), (5, .long x5), (7, .long x7), (9, .int x9)] [] := by
  intro n0
  induction n0 with
  | zero =>
    intro w x1 x2 x3 x4 x5 x7 x9 zx zw h
    cases h
  | succ n0 ih =>
    intro w x1 x2 x3 x4 x5 x7 x9 zx zw h
    rw [fX12_draught_L59] at h
    refine ap_iload dX12_draught_59 7 rfl ?_
    refine ap_aload_n dX12_draught_61 0 rfl rfl ?_
    refine ap_get (v := .ref (K.1 78)) fl_X12_7 ly_77 rfl rfl dX12_draught_62 ?_
    refine ap_iconst (v := 2) dX12_draught_65 (by decide) ?_
    refine ap_iald (x := (w.1 78 2)) ly_78 (rdA_c (by decide) (by decide)) dX12_draught_66 ?_
    obtain ⟨a6, ha6, h⟩ := Option.bind_eq_some_iff.mp h
    refine ap_callS (As := [.int (w.1 78 2)]) (st := [.int x9]) (st1 := [.int a6, .int x9]) (mcX12_bits  (w := w) ha6) cs_X12_162 ⟨rfl, rfl, by decide, by decide⟩ rfl (Nat.le_of_ble_eq_true rfl) ⟨Nat.zero_le _, Nat.zero_le _⟩ dX12_draught_67 rfl rfl ?_
    refine ap_icmp_ge (tgt := 87) dX12_draught_70 (by decide) (fun hc7 => ?_) (fun hc7 => ?_)
    · rw [if_pos hc7] at h
      refine ap_iconst (v := 0) dX12_draught_87 (by decide) ?_
      refine ap_istore (i := 9) (lv' := [(9, .int (0 : Int32)), (0, .ref (K.1 77)), (1, .int x1), (2, .int x2), (3, .int x3), (4, .int x4), (5, .long x5), (7, .long x7)]) dX12_draught_88 (by decide) rfl ?_
      refine ap_sub [1, 2, 3, 4, 5, 6, 7, 0] rfl ?_
      exact AX12_draught_L90  N _ _ _ _ _ _ _ _ h
    · rw [if_neg hc7] at h
      refine ap_lload dX12_draught_73 6 rfl ?_
      refine ap_ldc2 (v := 10) wd_1220 dX12_draught_75 ?_
      refine ap_lmul dX12_draught_78 ?_
      refine ap_lstore (i := 7) (lv' := [(7, .long (x7 * (10 : Int64))), (0, .ref (K.1 77)), (1, .int x1), (2, .int x2), (3, .int x3), (4, .int x4), (5, .long x5), (9, .int x9)]) dX12_draught_79 (by decide) rfl ?_
      refine ap_iinc (v := x9 + 1) (lv' := [(9, .int (x9 + 1)), (7, .long (x7 * (10 : Int64))), (0, .ref (K.1 77)), (1, .int x1), (2, .int x2), (3, .int x3), (4, .int x4), (5, .long x5)]) dX12_draught_81 7 rfl rfl (by decide) rfl ?_
      refine ap_goto (tgt := 59) dX12_draught_84 (by decide) ?_
      refine ap_sub [2, 3, 4, 5, 6, 7, 1, 0] rfl ?_
      exact ih _ _ _ _ _ _ _ _ h
def fX12_draught (N : Nat) (w : Mm) (x1 : Int32) (x2 : Int32) (x3 : Int32) (x4 : Int32) : Option (Int32 × Mm) :=
if (fX12_isCell x1) = (0 : Int32) then (
fX12_draught_L39 N w)
else (
if (fX12_isHour x2) = (0 : Int32) then (
fX12_draught_L39 N w)
else (
if (fX12_in x3.toInt64 (0 : Int64) (23 : Int64)) = (0 : Int32) then (
fX12_draught_L39 N w)
else (
if (fX12_in x4.toInt64 (0 : Int64) (10 : Int64)) = (0 : Int32) then (
fX12_draught_L39 N w)
else (
Option.bind (fX12_layHand N w) fun m5 =>
fX12_draught_L59 N N m5 x1 x2 x3 x4 (0 : Int64) (1 : Int64) (0 : Int32)))))
set_option maxRecDepth 100000 in
set_option maxHeartbeats 4000000 in
theorem AX12_draught {l : Launch} {K : Kt} {N : Nat}  {w : Mm} {x1 : Int32} {x2 : Int32} {x3 : Int32} {x4 : Int32} {zx : Int32} {zw : Mm} (h : fX12_draught N w x1 x2 x3 x4 = some (zx, zw)) : AW l K cX12_draught RX12 13 (some .int) rmX12_draught 0 0 ap_E (ap_F K (some (.int zx)) zw) w 0 [(0, .ref (K.1 77)), (1, .int x1), (2, .int x2), (3, .int x3), (4, .int x4)] [] := by
  unfold fX12_draught at h
  refine ap_iload_n dX12_draught_0 1 rfl rfl ?_
  refine ap_callS (As := [.int x1]) (st := []) (st1 := [.int (fX12_isCell x1)]) (mcX12_isCell  (w := w) (zx := fX12_isCell x1) rfl) cs_X12_85 ⟨rfl, rfl, by decide, by decide⟩ rfl (Nat.le_of_ble_eq_true rfl) ⟨Nat.zero_le _, Nat.zero_le _⟩ dX12_draught_1 rfl rfl ?_
  refine ap_if_eq (tgt := 39) dX12_draught_4 (by decide) (fun hc1 => ?_) (fun hc1 => ?_)
  · rw [if_pos hc1] at h
    refine ap_sub [0] rfl ?_
    exact AX12_draught_L39   h
  · rw [if_neg hc1] at h
    refine ap_iload_n dX12_draught_7 2 rfl rfl ?_
    refine ap_callS (As := [.int x2]) (st := []) (st1 := [.int (fX12_isHour x2)]) (mcX12_isHour  (w := w) (zx := fX12_isHour x2) rfl) cs_X12_151 ⟨rfl, rfl, by decide, by decide⟩ rfl (Nat.le_of_ble_eq_true rfl) ⟨Nat.zero_le _, Nat.zero_le _⟩ dX12_draught_8 rfl rfl ?_
    refine ap_if_eq (tgt := 39) dX12_draught_11 (by decide) (fun hc2 => ?_) (fun hc2 => ?_)
    · rw [if_pos hc2] at h
      refine ap_sub [0] rfl ?_
      exact AX12_draught_L39   h
    · rw [if_neg hc2] at h
      refine ap_iload_n dX12_draught_14 3 rfl rfl ?_
      refine ap_i2l (v := x3.toInt64) dX12_draught_15 rfl ?_
      refine ap_lconst (v := 0) dX12_draught_16 (by decide) ?_
      refine ap_ldc2 (v := 23) wd_1191 dX12_draught_17 ?_
      refine ap_callS (As := [.long x3.toInt64, .long (0 : Int64), .long (23 : Int64)]) (st := []) (st1 := [.int (fX12_in x3.toInt64 (0 : Int64) (23 : Int64))]) (mcX12_in  (w := w) (zx := fX12_in x3.toInt64 (0 : Int64) (23 : Int64)) rfl) cs_X12_61 ⟨rfl, rfl, by decide, by decide⟩ rfl (Nat.le_of_ble_eq_true rfl) ⟨Nat.zero_le _, Nat.zero_le _⟩ dX12_draught_20 rfl rfl ?_
      refine ap_if_eq (tgt := 39) dX12_draught_23 (by decide) (fun hc3 => ?_) (fun hc3 => ?_)
      · rw [if_pos hc3] at h
        refine ap_sub [0] rfl ?_
        exact AX12_draught_L39   h
      · rw [if_neg hc3] at h
        refine ap_iload dX12_draught_26 4 rfl ?_
        refine ap_i2l (v := x4.toInt64) dX12_draught_28 rfl ?_
        refine ap_lconst (v := 0) dX12_draught_29 (by decide) ?_
        refine ap_ldc2 (v := 10) wd_1220 dX12_draught_30 ?_
        refine ap_callS (As := [.long x4.toInt64, .long (0 : Int64), .long (10 : Int64)]) (st := []) (st1 := [.int (fX12_in x4.toInt64 (0 : Int64) (10 : Int64))]) (mcX12_in  (w := w) (zx := fX12_in x4.toInt64 (0 : Int64) (10 : Int64)) rfl) cs_X12_61 ⟨rfl, rfl, by decide, by decide⟩ rfl (Nat.le_of_ble_eq_true rfl) ⟨Nat.zero_le _, Nat.zero_le _⟩ dX12_draught_33 rfl rfl ?_
        refine ap_if_ne (tgt := 46) dX12_draught_36 (by decide) (fun hc4 => ?_) (fun hc4 => ?_)
        · rw [if_neg hc4] at h
          refine ap_lconst (v := 0) dX12_draught_46 (by decide) ?_
          refine ap_lstore (i := 5) (lv' := [(5, .long (0 : Int64)), (0, .ref (K.1 77)), (1, .int x1), (2, .int x2), (3, .int x3), (4, .int x4)]) dX12_draught_47 (by decide) rfl ?_
          refine ap_lconst (v := 1) dX12_draught_49 (by decide) ?_
          refine ap_lstore (i := 7) (lv' := [(7, .long (1 : Int64)), (5, .long (0 : Int64)), (0, .ref (K.1 77)), (1, .int x1), (2, .int x2), (3, .int x3), (4, .int x4)]) dX12_draught_50 (by decide) rfl ?_
          refine ap_aload_n dX12_draught_52 2 rfl rfl ?_
          obtain ⟨m5, hm5, h⟩ := Option.bind_eq_some_iff.mp h
          refine ap_callV (k := 77) (As := []) (st := []) (st1 := []) (mcX12_layHand  hm5) cv_X12_154 rfl ly_77 ⟨rfl, rfl, by decide, by decide⟩ rfl (Nat.le_of_ble_eq_true rfl) ⟨Nat.zero_le _, Nat.zero_le _⟩ dX12_draught_53 rfl rfl ?_
          refine ap_iconst (v := 0) dX12_draught_56 (by decide) ?_
          refine ap_istore (i := 9) (lv' := [(9, .int (0 : Int32)), (7, .long (1 : Int64)), (5, .long (0 : Int64)), (0, .ref (K.1 77)), (1, .int x1), (2, .int x2), (3, .int x3), (4, .int x4)]) dX12_draught_57 (by decide) rfl ?_
          refine ap_sub [3, 4, 5, 6, 7, 2, 1, 0] rfl ?_
          exact AX12_draught_L59  N _ _ _ _ _ _ _ _ h
        · rw [if_pos hc4] at h
          refine ap_sub [0] rfl ?_
          exact AX12_draught_L39   h
theorem mcX12_draught {l : Launch} {K : Kt} {N : Nat}  {w : Mm} {x1 : Int32} {x2 : Int32} {x3 : Int32} {x4 : Int32} {zx : Int32} {zw : Mm} (h : fX12_draught N w x1 x2 x3 x4 = some (zx, zw)) : MC l K yX12_draught cX12_draught 13 (some .int) rmX12_draught w [.ref (K.1 77), .int x1, .int x2, .int x3, .int x4] (some (.int zx)) zw :=
  MC.of (by decide) (Nat.le_of_ble_eq_true rfl) rfl (AX12_draught  h)
def fX12_nights_L44 (N : Nat) (w : Mm) : Option (Int32 × Mm) :=
ob2 (some (fX12_bad w (-2 : Int32))) fun a12 m13 =>
some (a12, m13)
set_option maxRecDepth 100000 in
set_option maxHeartbeats 4000000 in
theorem AX12_nights_L44 {l : Launch} {K : Kt} {N : Nat}   {w : Mm} {zx : Int32} {zw : Mm} (h : fX12_nights_L44 N w = some (zx, zw)) : AW l K cX12_nights RX12 10 (some .int) rmX12_nights 0 0 ap_E (ap_F K (some (.int zx)) zw) w 44 [(0, .ref (K.1 77))] [] := by
  unfold fX12_nights_L44 at h
  refine ap_aload_n dX12_nights_44 0 rfl rfl ?_
  refine ap_bipush (v := -2) dX12_nights_45 (by decide) ?_
  obtain ⟨a12, m13, ha12, h⟩ := ob2_iff h
  refine ap_callV (k := 77) (As := [.int (-2 : Int32)]) (st := []) (st1 := [.int a12]) (mcX12_bad  (Option.some.inj ha12)) cv_X12_75 rfl ly_77 ⟨rfl, rfl, by decide, by decide⟩ rfl (Nat.le_of_ble_eq_true rfl) ⟨Nat.zero_le _, Nat.zero_le _⟩ dX12_nights_47 rfl rfl ?_
  obtain ⟨rfl, rfl⟩ := Prod.mk.inj (Option.some.inj h)
  exact ap_iret rfl dX12_nights_50
def fX12_nights_L134 (N : Nat) (k65 : Mm → Int32 → Int32 → Int32 → Int64 → Int32 → Int32 → Option (Int32 × Mm)) (k79 : Mm → Int32 → Int32 → Int32 → Int64 → Int32 → Int32 → Int32 → Option (Int32 × Mm)) (w : Mm) (x1 : Int32) (x3 : Int32) (x4 : Int32) (x5 : Int64) (x7 : Int32) (x8 : Int32) (x9 : Int32) (t0 : Int32) (t1 : Int32) : Option (Int32 × Mm) :=
Option.bind (some (sI w 77 6 (t1 ||| t0))) fun m11 =>
k79 m11 x1 x3 x4 x5 x7 x8 (x9 + 1)
set_option maxRecDepth 100000 in
set_option maxHeartbeats 4000000 in
theorem AX12_nights_L134 {l : Launch} {K : Kt} {N : Nat} {k65 : Mm → Int32 → Int32 → Int32 → Int64 → Int32 → Int32 → Option (Int32 × Mm)} {k79 : Mm → Int32 → Int32 → Int32 → Int64 → Int32 → Int32 → Int32 → Option (Int32 × Mm)} (hk65 : ∀ (w : Mm) (x1 : Int32) (x3 : Int32) (x4 : Int32) (x5 : Int64) (x7 : Int32) (x8 : Int32) (zx : Int32) (zw : Mm), k65 w x1 x3 x4 x5 x7 x8 = some (zx, zw) → AW l K cX12_nights RX12 10 (some .int) rmX12_nights 0 0 ap_E (ap_F K (some (.int zx)) zw) w 65 [(0, .ref (K.1 77)), (1, .int x1), (3, .int x3), (4, .int x4), (5, .long x5), (7, .int x7), (8, .int x8)] []) (hk79 : ∀ (w : Mm) (x1 : Int32) (x3 : Int32) (x4 : Int32) (x5 : Int64) (x7 : Int32) (x8 : Int32) (x9 : Int32) (zx : Int32) (zw : Mm), k79 w x1 x3 x4 x5 x7 x8 x9 = some (zx, zw) → AW l K cX12_nights RX12 10 (some .int) rmX12_nights 0 0 ap_E (ap_F K (some (.int zx)) zw) w 79 [(0, .ref (K.1 77)), (1, .int x1), (3, .int x3), (4, .int x4), (5, .long x5), (7, .int x7), (8, .int x8), (9, .int x9)] [])  {w : Mm} {x1 : Int32} {x3 : Int32} {x4 : Int32} {x5 : Int64} {x7 : Int32} {x8 : Int32} {x9 : Int32} {t0 : Int32} {t1 : Int32} {zx : Int32} {zw : Mm} (h : fX12_nights_L134 N k65 k79 w x1 x3 x4 x5 x7 x8 x9 t0 t1 = some (zx, zw)) : AW l K cX12_nights RX12 10 (some .int) rmX12_nights 0 0 ap_E (ap_F K (some (.int zx)) zw) w 134 [(0, .ref (K.1 77)), (1, .int x1), (3, .int x3), (4, .int x4), (5, .long x5), (7, .int x7), (8, .int x8), (9, .int x9)] [.int t0, .int t1, .ref (K.1 77)] := by
  unfold fX12_nights_L134 at h
  refine ap_ior dX12_nights_134 ?_
  obtain ⟨m11, hm11, h⟩ := Option.bind_eq_some_iff.mp h
  refine ap_putI fp_X12_126 ly_77 rfl (Option.some.inj hm11) dX12_nights_135 ?_
  refine ap_iinc (v := x9 + 1) (lv' := [(9, .int (x9 + 1)), (0, .ref (K.1 77)), (1, .int x1), (3, .int x3), (4, .int x4), (5, .long x5), (7, .int x7), (8, .int x8)]) dX12_nights_138 7 rfl rfl (by decide) rfl ?_
  refine ap_goto (tgt := 79) dX12_nights_141 (by decide) ?_
  refine ap_sub [1, 2, 3, 4, 5, 6, 7, 0] rfl ?_
  exact hk79 _ _ _ _ _ _ _ _ _ _ h
def fX12_nights_L104 (N : Nat) (k65 : Mm → Int32 → Int32 → Int32 → Int64 → Int32 → Int32 → Option (Int32 × Mm)) (k79 : Mm → Int32 → Int32 → Int32 → Int64 → Int32 → Int32 → Int32 → Option (Int32 × Mm)) (w : Mm) (x1 : Int32) (x3 : Int32) (x4 : Int32) (x5 : Int64) (x7 : Int32) (x8 : Int32) (x9 : Int32) : Option (Int32 × Mm) :=
if (0 : Int32) ≤ (lg_cmp ((x5 / (65536 : Int64)) - (x5 / (65536 : Int64)) / (100 : Int64) * (100 : Int64)) x4.toInt64) then (
fX12_nights_L134 N k65 k79 w x1 x3 x4 x5 x7 x8 x9 (0 : Int32) (w.1 77 6))
else (
fX12_nights_L134 N k65 k79 w x1 x3 x4 x5 x7 x8 x9 ((1 : Int32) <<< (x9 &&& 31)) (w.1 77 6))
set_option maxRecDepth 100000 in
set_option maxHeartbeats 4000000 in
theorem AX12_nights_L104 {l : Launch} {K : Kt} {N : Nat} {k65 : Mm → Int32 → Int32 → Int32 → Int64 → Int32 → Int32 → Option (Int32 × Mm)} {k79 : Mm → Int32 → Int32 → Int32 → Int64 → Int32 → Int32 → Int32 → Option (Int32 × Mm)} (hk65 : ∀ (w : Mm) (x1 : Int32) (x3 : Int32) (x4 : Int32) (x5 : Int64) (x7 : Int32) (x8 : Int32) (zx : Int32) (zw : Mm), k65 w x1 x3 x4 x5 x7 x8 = some (zx, zw) → AW l K cX12_nights RX12 10 (some .int) rmX12_nights 0 0 ap_E (ap_F K (some (.int zx)) zw) w 65 [(0, .ref (K.1 77)), (1, .int x1), (3, .int x3), (4, .int x4), (5, .long x5), (7, .int x7), (8, .int x8)] []) (hk79 : ∀ (w : Mm) (x1 : Int32) (x3 : Int32) (x4 : Int32) (x5 : Int64) (x7 : Int32) (x8 : Int32) (x9 : Int32) (zx : Int32) (zw : Mm), k79 w x1 x3 x4 x5 x7 x8 x9 = some (zx, zw) → AW l K cX12_nights RX12 10 (some .int) rmX12_nights 0 0 ap_E (ap_F K (some (.int zx)) zw) w 79 [(0, .ref (K.1 77)), (1, .int x1), (3, .int x3), (4, .int x4), (5, .long x5), (7, .int x7), (8, .int x8), (9, .int x9)] [])  {w : Mm} {x1 : Int32} {x3 : Int32} {x4 : Int32} {x5 : Int64} {x7 : Int32} {x8 : Int32} {x9 : Int32} {zx : Int32} {zw : Mm} (h : fX12_nights_L104 N k65 k79 w x1 x3 x4 x5 x7 x8 x9 = some (zx, zw)) : AW l K cX12_nights RX12 10 (some .int) rmX12_nights 0 0 ap_E (ap_F K (some (.int zx)) zw) w 104 [(0, .ref (K.1 77)), (1, .int x1), (3, .int x3), (4, .int x4), (5, .long x5), (7, .int x7), (8, .int x8), (9, .int x9)] [] := by
  unfold fX12_nights_L104 at h
  refine ap_aload_n dX12_nights_104 0 rfl rfl ?_
  refine ap_dup dX12_nights_105 rfl ?_
  refine ap_get (v := .int (w.1 77 6)) fl_X12_126 ly_77 rfl rfl dX12_nights_106 ?_
  refine ap_lload dX12_nights_109 4 rfl ?_
  refine ap_ldc2 (v := 65536) wd_1235 dX12_nights_111 ?_
  refine ap_ldiv dX12_nights_114 (by decide) ?_
  refine ap_ldc2 (v := 100) wd_1231 dX12_nights_115 ?_
  refine ap_lrem dX12_nights_118 (by decide) ?_
  refine ap_iload dX12_nights_119 3 rfl ?_
  refine ap_i2l (v := x4.toInt64) dX12_nights_121 rfl ?_
  refine ap_lcmp dX12_nights_122 ?_
  refine ap_if_ge (tgt := 133) dX12_nights_123 (by decide) (fun hc10 => ?_) (fun hc10 => ?_)
  · rw [if_pos hc10] at h
    refine ap_iconst (v := 0) dX12_nights_133 (by decide) ?_
    exact AX12_nights_L134 hk65 hk79  h
  · rw [if_neg hc10] at h
    refine ap_iconst (v := 1) dX12_nights_126 (by decide) ?_
    refine ap_iload dX12_nights_127 7 rfl ?_
    refine ap_ishl dX12_nights_129 ?_
    refine ap_goto (tgt := 134) dX12_nights_130 (by decide) ?_
    exact AX12_nights_L134 hk65 hk79  h
def fX12_nights_L79 (N : Nat) (k65 : Mm → Int32 → Int32 → Int32 → Int64 → Int32 → Int32 → Option (Int32 × Mm)) : Nat → Mm → Int32 → Int32 → Int32 → Int64 → Int32 → Int32 → Int32 → Option (Int32 × Mm)
  | 0, _, _, _, _, _, _, _, _ => none
  | n0 + 1, w, x1, x3, x4, x5, x7, x8, x9 => if (fX12_candles w) ≤ x9 then (
Option.bind (fX12_acresOf N w x1 (0 : Int32)) fun a9 =>
k65 w x1 x3 x4 x5 (x7 + a9) (x8 + 1))
else (
fX12_nights_L104 N k65 (fX12_nights_L79 N k65 n0) w x1 x3 x4 (((x5 * (1103515245 : Int64)) + (12345 : Int64)) - ((x5 * (1103515245 : Int64)) + (12345 : Int64)) / (2147483648 : Int64) * (2147483648 : Int64)) x7 x8 x9)
set_option maxRecDepth 100000 in
set_option maxHeartbeats 4000000 in
theorem AX12_nights_L79 {l : Launch} {K : Kt} {N : Nat} {k65 : Mm → Int32 → Int32 → Int32 → Int64 → Int32 → Int32 → Option (Int32 × Mm)} (hk65 : ∀ (w : Mm) (x1 : Int32) (x3 : Int32) (x4 : Int32) (x5 : Int64) (x7 : Int32) (x8 : Int32) (zx : Int32) (zw : Mm), k65 w x1 x3 x4 x5 x7 x8 = some (zx, zw) → AW l K cX12_nights RX12 10 (some .int) rmX12_nights 0 0 ap_E (ap_F K (some (.int zx)) zw) w 65 [(0, .ref (K.1 77)), (1, .int x1), (3, .int x3), (4, .int x4), (5, .long x5), (7, .int x7), (8, .int x8)] [])  : ∀ (n0 : Nat) (w : Mm) (x1 : Int32) (x3 : Int32) (x4 : Int32) (x5 : Int64) (x7 : Int32) (x8 : Int32) (x9 : Int32) {zx : Int32} {zw : Mm}, fX12_nights_L79 N k65 n0 w x1 x3 x4 x5 x7 x8 x9 = some (zx, zw) → AW l K cX12_nights RX12 10 (some .int) rmX12_nights 0 0 ap_E (ap_F K (some (.int zx)) zw) w 79 [(0, .ref (K.1 77)), (1, .int x1), (3, .int x3), (4, .int x4), (5, .long x5), (7, .int x7), (8, .int x8), (9, .int x9)] [] := by
  intro n0
  induction n0 with
  | zero =>
    intro w x1 x3 x4 x5 x7 x8 x9 zx zw h
    cases h
  | succ n0 ih =>
    intro w x1 x3 x4 x5 x7 x8 x9 zx zw h
    rw [fX12_nights_L79] at h
    refine ap_iload dX12_nights_79 7 rfl ?_
    refine ap_aload_n dX12_nights_81 0 rfl rfl ?_
    refine ap_callV (k := 77) (As := []) (st := [.int x9]) (st1 := [.int (fX12_candles w), .int x9]) (mcX12_candles  (w := w) (zx := fX12_candles w) rfl) cv_X12_57 rfl ly_77 ⟨rfl, rfl, by decide, by decide⟩ rfl (Nat.le_of_ble_eq_true rfl) ⟨Nat.zero_le _, Nat.zero_le _⟩ dX12_nights_82 rfl rfl ?_
    refine ap_icmp_ge (tgt := 144) dX12_nights_85 (by decide) (fun hc8 => ?_) (fun hc8 => ?_)
    · rw [if_pos hc8] at h
      refine ap_iload dX12_nights_144 5 rfl ?_
      refine ap_aload_n dX12_nights_146 0 rfl rfl ?_
      refine ap_iload_n dX12_nights_147 1 rfl rfl ?_
      refine ap_iconst (v := 0) dX12_nights_148 (by decide) ?_
      obtain ⟨a9, ha9, h⟩ := Option.bind_eq_some_iff.mp h
      refine ap_callV (k := 77) (As := [.int x1, .int (0 : Int32)]) (st := [.int x7]) (st1 := [.int a9, .int x7]) (mcX12_acresOf  (w := w) ha9) cv_X12_172 rfl ly_77 ⟨rfl, rfl, by decide, by decide⟩ rfl (Nat.le_of_ble_eq_true rfl) ⟨Nat.zero_le _, Nat.zero_le _⟩ dX12_nights_149 rfl rfl ?_
      refine ap_iadd dX12_nights_152 ?_
      refine ap_istore (i := 7) (lv' := [(7, .int (x7 + a9)), (0, .ref (K.1 77)), (1, .int x1), (3, .int x3), (4, .int x4), (5, .long x5), (8, .int x8), (9, .int x9)]) dX12_nights_153 (by decide) rfl ?_
      refine ap_iinc (v := x8 + 1) (lv' := [(8, .int (x8 + 1)), (7, .int (x7 + a9)), (0, .ref (K.1 77)), (1, .int x1), (3, .int x3), (4, .int x4), (5, .long x5), (9, .int x9)]) dX12_nights_155 6 rfl rfl (by decide) rfl ?_
      refine ap_goto (tgt := 65) dX12_nights_158 (by decide) ?_
      refine ap_sub [2, 3, 4, 5, 6, 1, 0] rfl ?_
      exact hk65 _ _ _ _ _ _ _ _ _ h
    · rw [if_neg hc8] at h
      refine ap_lload dX12_nights_88 4 rfl ?_
      refine ap_ldc2 (v := 1103515245) wd_1232 dX12_nights_90 ?_
      refine ap_lmul dX12_nights_93 ?_
      refine ap_ldc2 (v := 12345) wd_1233 dX12_nights_94 ?_
      refine ap_ladd dX12_nights_97 ?_
      refine ap_ldc2 (v := 2147483648) wd_1234 dX12_nights_98 ?_
      refine ap_lrem dX12_nights_101 (by decide) ?_
      refine ap_lstore (i := 5) (lv' := [(5, .long (((x5 * (1103515245 : Int64)) + (12345 : Int64)) - ((x5 * (1103515245 : Int64)) + (12345 : Int64)) / (2147483648 : Int64) * (2147483648 : Int64))), (0, .ref (K.1 77)), (1, .int x1), (3, .int x3), (4, .int x4), (7, .int x7), (8, .int x8), (9, .int x9)]) dX12_nights_102 (by decide) rfl ?_
      refine ap_sub [1, 2, 3, 4, 0, 5, 6, 7] rfl ?_
      exact AX12_nights_L104 hk65 (fun q0 q1 q2 q3 q4 q5 q6 q7 q8 q9 hq => ih q0 q1 q2 q3 q4 q5 q6 q7 hq)  h
def fX12_nights_L65 (N : Nat) : Nat → Mm → Int32 → Int32 → Int32 → Int64 → Int32 → Int32 → Option (Int32 × Mm)
  | 0, _, _, _, _, _, _, _ => none
  | n0 + 1, w, x1, x3, x4, x5, x7, x8 => if x3 ≤ x8 then (
some (x7, w))
else (
Option.bind (some (sI w 77 6 (0 : Int32))) fun m7 =>
fX12_nights_L79 N (fX12_nights_L65 N n0) N m7 x1 x3 x4 x5 x7 x8 (0 : Int32))
set_option maxRecDepth 100000 in
set_option maxHeartbeats 4000000 in
theorem AX12_nights_L65 {l : Launch} {K : Kt} {N : Nat}   : ∀ (n0 : Nat) (w : Mm) (x1 : Int32) (x3 : Int32) (x4 : Int32) (x5 : Int64) (x7 : Int32) (x8 : Int32) {zx : Int32} {zw : Mm}, fX12_nights_L65 N n0 w x1 x3 x4 x5 x7 x8 = some (zx, zw) → AW l K cX12_nights RX12 10 (some .int) rmX12_nights 0 0 ap_E (ap_F K (some (.int zx)) zw) w 65 [(0, .ref (K.1 77)), (1, .int x1), (3, .int x3), (4, .int x4), (5, .long x5), (7, .int x7), (8, .int x8)] [] := by
  intro n0
  induction n0 with
  | zero =>
    intro w x1 x3 x4 x5 x7 x8 zx zw h
    cases h
  | succ n0 ih =>
    intro w x1 x3 x4 x5 x7 x8 zx zw h
    rw [fX12_nights_L65] at h
    refine ap_iload dX12_nights_65 6 rfl ?_
    refine ap_iload_n dX12_nights_67 2 rfl rfl ?_
    refine ap_icmp_ge (tgt := 161) dX12_nights_68 (by decide) (fun hc6 => ?_) (fun hc6 => ?_)
    · rw [if_pos hc6] at h
      refine ap_iload dX12_nights_161 5 rfl ?_
      obtain ⟨rfl, rfl⟩ := Prod.mk.inj (Option.some.inj h)
      exact ap_iret rfl dX12_nights_163
    · rw [if_neg hc6] at h
      refine ap_aload_n dX12_nights_71 0 rfl rfl ?_
      refine ap_iconst (v := 0) dX12_nights_72 (by decide) ?_
      obtain ⟨m7, hm7, h⟩ := Option.bind_eq_some_iff.mp h
      refine ap_putI fp_X12_126 ly_77 rfl (Option.some.inj hm7) dX12_nights_73 ?_
      refine ap_iconst (v := 0) dX12_nights_76 (by decide) ?_
      refine ap_istore (i := 9) (lv' := [(9, .int (0 : Int32)), (0, .ref (K.1 77)), (1, .int x1), (3, .int x3), (4, .int x4), (5, .long x5), (7, .int x7), (8, .int x8)]) dX12_nights_77 (by decide) rfl ?_
      refine ap_sub [1, 2, 3, 4, 5, 6, 7, 0] rfl ?_
      exact AX12_nights_L79 (fun q0 q1 q2 q3 q4 q5 q6 q7 q8 hq => ih q0 q1 q2 q3 q4 q5 q6 hq)  N _ _ _ _ _ _ _ _ h
def fX12_nights (N : Nat) (w : Mm) (x1 : Int32) (x2 : Int32) (x3 : Int32) (x4 : Int32) : Option (Int32 × Mm) :=
if (fX12_isOwner x1) = (0 : Int32) then (
fX12_nights_L44 N w)
else (
if (fX12_in x2.toInt64 (0 : Int64) (999999 : Int64)) = (0 : Int32) then (
fX12_nights_L44 N w)
else (
if (fX12_in x3.toInt64 (0 : Int64) (30 : Int64)) = (0 : Int32) then (
fX12_nights_L44 N w)
else (
if (fX12_in x4.toInt64 (0 : Int64) (100 : Int64)) = (0 : Int32) then (
fX12_nights_L44 N w)
else (
Option.bind (fX12_layHand N w) fun m5 =>
fX12_nights_L65 N N m5 x1 x3 x4 x2.toInt64 (0 : Int32) (0 : Int32)))))
set_option maxRecDepth 100000 in
set_option maxHeartbeats 4000000 in
theorem AX12_nights {l : Launch} {K : Kt} {N : Nat}  {w : Mm} {x1 : Int32} {x2 : Int32} {x3 : Int32} {x4 : Int32} {zx : Int32} {zw : Mm} (h : fX12_nights N w x1 x2 x3 x4 = some (zx, zw)) : AW l K cX12_nights RX12 10 (some .int) rmX12_nights 0 0 ap_E (ap_F K (some (.int zx)) zw) w 0 [(0, .ref (K.1 77)), (1, .int x1), (2, .int x2), (3, .int x3), (4, .int x4)] [] := by
  unfold fX12_nights at h
  refine ap_iload_n dX12_nights_0 1 rfl rfl ?_
  refine ap_callS (As := [.int x1]) (st := []) (st1 := [.int (fX12_isOwner x1)]) (mcX12_isOwner  (w := w) (zx := fX12_isOwner x1) rfl) cs_X12_92 ⟨rfl, rfl, by decide, by decide⟩ rfl (Nat.le_of_ble_eq_true rfl) ⟨Nat.zero_le _, Nat.zero_le _⟩ dX12_nights_1 rfl rfl ?_
  refine ap_if_eq (tgt := 44) dX12_nights_4 (by decide) (fun hc1 => ?_) (fun hc1 => ?_)
  · rw [if_pos hc1] at h
    refine ap_sub [0] rfl ?_
    exact AX12_nights_L44   h
  · rw [if_neg hc1] at h
    refine ap_iload_n dX12_nights_7 2 rfl rfl ?_
    refine ap_i2l (v := x2.toInt64) dX12_nights_8 rfl ?_
    refine ap_lconst (v := 0) dX12_nights_9 (by decide) ?_
    refine ap_ldc2 (v := 999999) wd_1229 dX12_nights_10 ?_
    refine ap_callS (As := [.long x2.toInt64, .long (0 : Int64), .long (999999 : Int64)]) (st := []) (st1 := [.int (fX12_in x2.toInt64 (0 : Int64) (999999 : Int64))]) (mcX12_in  (w := w) (zx := fX12_in x2.toInt64 (0 : Int64) (999999 : Int64)) rfl) cs_X12_61 ⟨rfl, rfl, by decide, by decide⟩ rfl (Nat.le_of_ble_eq_true rfl) ⟨Nat.zero_le _, Nat.zero_le _⟩ dX12_nights_13 rfl rfl ?_
    refine ap_if_eq (tgt := 44) dX12_nights_16 (by decide) (fun hc2 => ?_) (fun hc2 => ?_)
    · rw [if_pos hc2] at h
      refine ap_sub [0] rfl ?_
      exact AX12_nights_L44   h
    · rw [if_neg hc2] at h
      refine ap_iload_n dX12_nights_19 3 rfl rfl ?_
      refine ap_i2l (v := x3.toInt64) dX12_nights_20 rfl ?_
      refine ap_lconst (v := 0) dX12_nights_21 (by decide) ?_
      refine ap_ldc2 (v := 30) wd_1230 dX12_nights_22 ?_
      refine ap_callS (As := [.long x3.toInt64, .long (0 : Int64), .long (30 : Int64)]) (st := []) (st1 := [.int (fX12_in x3.toInt64 (0 : Int64) (30 : Int64))]) (mcX12_in  (w := w) (zx := fX12_in x3.toInt64 (0 : Int64) (30 : Int64)) rfl) cs_X12_61 ⟨rfl, rfl, by decide, by decide⟩ rfl (Nat.le_of_ble_eq_true rfl) ⟨Nat.zero_le _, Nat.zero_le _⟩ dX12_nights_25 rfl rfl ?_
      refine ap_if_eq (tgt := 44) dX12_nights_28 (by decide) (fun hc3 => ?_) (fun hc3 => ?_)
      · rw [if_pos hc3] at h
        refine ap_sub [0] rfl ?_
        exact AX12_nights_L44   h
      · rw [if_neg hc3] at h
        refine ap_iload dX12_nights_31 4 rfl ?_
        refine ap_i2l (v := x4.toInt64) dX12_nights_33 rfl ?_
        refine ap_lconst (v := 0) dX12_nights_34 (by decide) ?_
        refine ap_ldc2 (v := 100) wd_1231 dX12_nights_35 ?_
        refine ap_callS (As := [.long x4.toInt64, .long (0 : Int64), .long (100 : Int64)]) (st := []) (st1 := [.int (fX12_in x4.toInt64 (0 : Int64) (100 : Int64))]) (mcX12_in  (w := w) (zx := fX12_in x4.toInt64 (0 : Int64) (100 : Int64)) rfl) cs_X12_61 ⟨rfl, rfl, by decide, by decide⟩ rfl (Nat.le_of_ble_eq_true rfl) ⟨Nat.zero_le _, Nat.zero_le _⟩ dX12_nights_38 rfl rfl ?_
        refine ap_if_ne (tgt := 51) dX12_nights_41 (by decide) (fun hc4 => ?_) (fun hc4 => ?_)
        · rw [if_neg hc4] at h
          refine ap_iload_n dX12_nights_51 2 rfl rfl ?_
          refine ap_i2l (v := x2.toInt64) dX12_nights_52 rfl ?_
          refine ap_lstore (i := 5) (lv' := [(5, .long x2.toInt64), (0, .ref (K.1 77)), (1, .int x1), (2, .int x2), (3, .int x3), (4, .int x4)]) dX12_nights_53 (by decide) rfl ?_
          refine ap_iconst (v := 0) dX12_nights_55 (by decide) ?_
          refine ap_istore (i := 7) (lv' := [(7, .int (0 : Int32)), (5, .long x2.toInt64), (0, .ref (K.1 77)), (1, .int x1), (2, .int x2), (3, .int x3), (4, .int x4)]) dX12_nights_56 (by decide) rfl ?_
          refine ap_aload_n dX12_nights_58 2 rfl rfl ?_
          obtain ⟨m5, hm5, h⟩ := Option.bind_eq_some_iff.mp h
          refine ap_callV (k := 77) (As := []) (st := []) (st1 := []) (mcX12_layHand  hm5) cv_X12_154 rfl ly_77 ⟨rfl, rfl, by decide, by decide⟩ rfl (Nat.le_of_ble_eq_true rfl) ⟨Nat.zero_le _, Nat.zero_le _⟩ dX12_nights_59 rfl rfl ?_
          refine ap_iconst (v := 0) dX12_nights_62 (by decide) ?_
          refine ap_istore (i := 8) (lv' := [(8, .int (0 : Int32)), (7, .int (0 : Int32)), (5, .long x2.toInt64), (0, .ref (K.1 77)), (1, .int x1), (2, .int x2), (3, .int x3), (4, .int x4)]) dX12_nights_63 (by decide) rfl ?_
          refine ap_sub [3, 4, 6, 7, 2, 1, 0] rfl ?_
          exact AX12_nights_L65  N _ _ _ _ _ _ _ h
        · rw [if_pos hc4] at h
          refine ap_sub [0] rfl ?_
          exact AX12_nights_L44   h
theorem mcX12_nights {l : Launch} {K : Kt} {N : Nat}  {w : Mm} {x1 : Int32} {x2 : Int32} {x3 : Int32} {x4 : Int32} {zx : Int32} {zw : Mm} (h : fX12_nights N w x1 x2 x3 x4 = some (zx, zw)) : MC l K yX12_nights cX12_nights 10 (some .int) rmX12_nights w [.ref (K.1 77), .int x1, .int x2, .int x3, .int x4] (some (.int zx)) zw :=
  MC.of (by decide) (Nat.le_of_ble_eq_true rfl) rfl (AX12_nights  h)
def fX12_type (w : Mm) (x1 : Int32) : Option (Int32 × Mm) :=
if (fX12_in x1.toInt64 (0 : Int64) (127 : Int64)) = (0 : Int32) then (
ob2 (some (fX12_bad w (-2 : Int32))) fun a7 m8 =>
some (a7, m8))
else (
if (w.1 77 16) = (150 : Int32) then (
ob2 (some (fX12_full w)) fun a5 m6 =>
some (a5, m6))
else (
Option.bind (wrA w 89 150 (w.1 77 16) x1) fun m3 =>
Option.bind (some (sI m3 77 16 ((m3.1 77 16) + (1 : Int32)))) fun m4 =>
some ((m4.1 77 16), m4)))
set_option maxRecDepth 100000 in
set_option maxHeartbeats 4000000 in
theorem AX12_type {l : Launch} {K : Kt}  {w : Mm} {x1 : Int32} {zx : Int32} {zw : Mm} (h : fX12_type w x1 = some (zx, zw)) : AW l K cX12_type RX12 2 (some .int) rmX12_type 0 0 ap_E (ap_F K (some (.int zx)) zw) w 0 [(0, .ref (K.1 77)), (1, .int x1)] [] := by
  unfold fX12_type at h
  refine ap_iload_n dX12_type_0 1 rfl rfl ?_
  refine ap_i2l (v := x1.toInt64) dX12_type_1 rfl ?_
  refine ap_lconst (v := 0) dX12_type_2 (by decide) ?_
  refine ap_ldc2 (v := 127) wd_1240 dX12_type_3 ?_
  refine ap_callS (As := [.long x1.toInt64, .long (0 : Int64), .long (127 : Int64)]) (st := []) (st1 := [.int (fX12_in x1.toInt64 (0 : Int64) (127 : Int64))]) (mcX12_in  (w := w) (zx := fX12_in x1.toInt64 (0 : Int64) (127 : Int64)) rfl) cs_X12_61 ⟨rfl, rfl, by decide, by decide⟩ rfl (Nat.le_of_ble_eq_true rfl) ⟨Nat.zero_le _, Nat.zero_le _⟩ dX12_type_6 rfl rfl ?_
  refine ap_if_ne (tgt := 19) dX12_type_9 (by decide) (fun hc1 => ?_) (fun hc1 => ?_)
  · rw [if_neg hc1] at h
    refine ap_aload_n dX12_type_19 0 rfl rfl ?_
    refine ap_get (v := .int (w.1 77 16)) fl_X12_232 ly_77 rfl rfl dX12_type_20 ?_
    refine ap_sipush (v := 150) dX12_type_23 (by decide) ?_
    refine ap_icmp_ne (tgt := 34) dX12_type_26 (by decide) (fun hc2 => ?_) (fun hc2 => ?_)
    · rw [if_neg hc2] at h
      refine ap_aload_n dX12_type_34 0 rfl rfl ?_
      refine ap_get (v := .ref (K.1 89)) fl_X12_48 ly_77 rfl rfl dX12_type_35 ?_
      refine ap_aload_n dX12_type_38 0 rfl rfl ?_
      refine ap_get (v := .int (w.1 77 16)) fl_X12_232 ly_77 rfl rfl dX12_type_39 ?_
      refine ap_iload_n dX12_type_42 1 rfl rfl ?_
      obtain ⟨m3, hm3, h⟩ := Option.bind_eq_some_iff.mp h
      refine ap_iast ly_89 hm3 dX12_type_43 ?_
      refine ap_aload_n dX12_type_44 0 rfl rfl ?_
      refine ap_dup dX12_type_45 rfl ?_
      refine ap_get (v := .int (m3.1 77 16)) fl_X12_232 ly_77 rfl rfl dX12_type_46 ?_
      refine ap_iconst (v := 1) dX12_type_49 (by decide) ?_
      refine ap_iadd dX12_type_50 ?_
      obtain ⟨m4, hm4, h⟩ := Option.bind_eq_some_iff.mp h
      refine ap_putI fp_X12_232 ly_77 rfl (Option.some.inj hm4) dX12_type_51 ?_
      refine ap_aload_n dX12_type_54 0 rfl rfl ?_
      refine ap_get (v := .int (m4.1 77 16)) fl_X12_232 ly_77 rfl rfl dX12_type_55 ?_
      obtain ⟨rfl, rfl⟩ := Prod.mk.inj (Option.some.inj h)
      exact ap_iret rfl dX12_type_58
    · rw [if_pos hc2] at h
      refine ap_aload_n dX12_type_29 0 rfl rfl ?_
      obtain ⟨a5, m6, ha5, h⟩ := ob2_iff h
      refine ap_callV (k := 77) (As := []) (st := []) (st1 := [.int a5]) (mcX12_full  (Option.some.inj ha5)) cv_X12_97 rfl ly_77 ⟨rfl, rfl, by decide, by decide⟩ rfl (Nat.le_of_ble_eq_true rfl) ⟨Nat.zero_le _, Nat.zero_le _⟩ dX12_type_30 rfl rfl ?_
      obtain ⟨rfl, rfl⟩ := Prod.mk.inj (Option.some.inj h)
      exact ap_iret rfl dX12_type_33
  · rw [if_pos hc1] at h
    refine ap_aload_n dX12_type_12 0 rfl rfl ?_
    refine ap_bipush (v := -2) dX12_type_13 (by decide) ?_
    obtain ⟨a7, m8, ha7, h⟩ := ob2_iff h
    refine ap_callV (k := 77) (As := [.int (-2 : Int32)]) (st := []) (st1 := [.int a7]) (mcX12_bad  (Option.some.inj ha7)) cv_X12_75 rfl ly_77 ⟨rfl, rfl, by decide, by decide⟩ rfl (Nat.le_of_ble_eq_true rfl) ⟨Nat.zero_le _, Nat.zero_le _⟩ dX12_type_15 rfl rfl ?_
    obtain ⟨rfl, rfl⟩ := Prod.mk.inj (Option.some.inj h)
    exact ap_iret rfl dX12_type_18
theorem mcX12_type {l : Launch} {K : Kt}  {w : Mm} {x1 : Int32} {zx : Int32} {zw : Mm} (h : fX12_type w x1 = some (zx, zw)) : MC l K yX12_type cX12_type 2 (some .int) rmX12_type w [.ref (K.1 77), .int x1] (some (.int zx)) zw :=
  MC.of (by decide) (Nat.le_of_ble_eq_true rfl) rfl (AX12_type  h)
def fX12_clear (w : Mm) : (Int32 × Mm) :=
((w.1 77 16), (sI w 77 16 (0 : Int32)))
set_option maxRecDepth 100000 in
set_option maxHeartbeats 4000000 in
theorem AX12_clear {l : Launch} {K : Kt}  {w : Mm} {zx : Int32} {zw : Mm} (h : fX12_clear w = (zx, zw)) : AW l K cX12_clear RX12 2 (some .int) rmX12_clear 0 0 ap_E (ap_F K (some (.int zx)) zw) w 0 [(0, .ref (K.1 77))] [] := by
  unfold fX12_clear at h
  refine ap_aload_n dX12_clear_0 0 rfl rfl ?_
  refine ap_get (v := .int (w.1 77 16)) fl_X12_232 ly_77 rfl rfl dX12_clear_1 ?_
  refine ap_istore_n (i := 1) (lv' := [(1, .int (w.1 77 16)), (0, .ref (K.1 77))]) dX12_clear_4 rfl (by decide) rfl ?_
  refine ap_aload_n dX12_clear_5 1 rfl rfl ?_
  refine ap_iconst (v := 0) dX12_clear_6 (by decide) ?_
  refine ap_putI (w1 := sI w 77 16 (0 : Int32)) fp_X12_232 ly_77 rfl rfl dX12_clear_7 ?_
  refine ap_iload_n dX12_clear_10 0 rfl rfl ?_
  obtain ⟨rfl, rfl⟩ := Prod.mk.inj h
  exact ap_iret rfl dX12_clear_11
theorem mcX12_clear {l : Launch} {K : Kt}  {w : Mm} {zx : Int32} {zw : Mm} (h : fX12_clear w = (zx, zw)) : MC l K yX12_clear cX12_clear 2 (some .int) rmX12_clear w [.ref (K.1 77)] (some (.int zx)) zw :=
  MC.of (by decide) (Nat.le_of_ble_eq_true rfl) rfl (AX12_clear  h)
def fX12_isSmall (x0 : Int32) : Int32 :=
(fX12_in x0.toInt64 (97 : Int64) (122 : Int64))
set_option maxRecDepth 100000 in
set_option maxHeartbeats 4000000 in
theorem AX12_isSmall {l : Launch} {K : Kt} {w : Mm}  {x0 : Int32} {zx : Int32} (h : fX12_isSmall x0 = zx) : AW l K cX12_isSmall RX12 1 (some .boolean) rmX12_isSmall 0 0 ap_E (ap_F K (some (.int zx)) w) w 0 [(0, .int x0)] [] := by
  unfold fX12_isSmall at h
  refine ap_iload_n dX12_isSmall_0 0 rfl rfl ?_
  refine ap_i2l (v := x0.toInt64) dX12_isSmall_1 rfl ?_
  refine ap_ldc2 (v := 97) wd_1256 dX12_isSmall_2 ?_
  refine ap_ldc2 (v := 122) wd_1257 dX12_isSmall_5 ?_
  refine ap_callS (As := [.long x0.toInt64, .long (97 : Int64), .long (122 : Int64)]) (st := []) (st1 := [.int (fX12_in x0.toInt64 (97 : Int64) (122 : Int64))]) (mcX12_in  (w := w) (zx := fX12_in x0.toInt64 (97 : Int64) (122 : Int64)) rfl) cs_X12_61 ⟨rfl, rfl, by decide, by decide⟩ rfl (Nat.le_of_ble_eq_true rfl) ⟨Nat.zero_le _, Nat.zero_le _⟩ dX12_isSmall_8 rfl rfl ?_
  subst h
  exact ap_zret rfl zX12_in dX12_isSmall_11
theorem mcX12_isSmall {l : Launch} {K : Kt} {w : Mm}  {x0 : Int32} {zx : Int32} (h : fX12_isSmall x0 = zx) : MC l K yX12_isSmall cX12_isSmall 1 (some .boolean) rmX12_isSmall w [.int x0] (some (.int zx)) w :=
  MC.of (by decide) (Nat.le_of_ble_eq_true rfl) rfl (AX12_isSmall  h)
def fX12_isFigure (x0 : Int32) : Int32 :=
(fX12_in x0.toInt64 (48 : Int64) (57 : Int64))
set_option maxRecDepth 100000 in
set_option maxHeartbeats 4000000 in
theorem AX12_isFigure {l : Launch} {K : Kt} {w : Mm}  {x0 : Int32} {zx : Int32} (h : fX12_isFigure x0 = zx) : AW l K cX12_isFigure RX12 1 (some .boolean) rmX12_isFigure 0 0 ap_E (ap_F K (some (.int zx)) w) w 0 [(0, .int x0)] [] := by
  unfold fX12_isFigure at h
  refine ap_iload_n dX12_isFigure_0 0 rfl rfl ?_
  refine ap_i2l (v := x0.toInt64) dX12_isFigure_1 rfl ?_
  refine ap_ldc2 (v := 48) wd_1261 dX12_isFigure_2 ?_
  refine ap_ldc2 (v := 57) wd_1262 dX12_isFigure_5 ?_
  refine ap_callS (As := [.long x0.toInt64, .long (48 : Int64), .long (57 : Int64)]) (st := []) (st1 := [.int (fX12_in x0.toInt64 (48 : Int64) (57 : Int64))]) (mcX12_in  (w := w) (zx := fX12_in x0.toInt64 (48 : Int64) (57 : Int64)) rfl) cs_X12_61 ⟨rfl, rfl, by decide, by decide⟩ rfl (Nat.le_of_ble_eq_true rfl) ⟨Nat.zero_le _, Nat.zero_le _⟩ dX12_isFigure_8 rfl rfl ?_
  subst h
  exact ap_zret rfl zX12_in dX12_isFigure_11
theorem mcX12_isFigure {l : Launch} {K : Kt} {w : Mm}  {x0 : Int32} {zx : Int32} (h : fX12_isFigure x0 = zx) : MC l K yX12_isFigure cX12_isFigure 1 (some .boolean) rmX12_isFigure w [.int x0] (some (.int zx)) w :=
  MC.of (by decide) (Nat.le_of_ble_eq_true rfl) rfl (AX12_isFigure  h)
def fX12_lookAt_L299 (N : Nat) (w : Mm) (t0 : Int32) : Option Mm :=
Option.bind (some (sI w 77 19 t0)) fun m30 =>
some m30
set_option maxRecDepth 100000 in
set_option maxHeartbeats 4000000 in
theorem AX12_lookAt_L299 {l : Launch} {K : Kt} {N : Nat}   {w : Mm} {t0 : Int32} {zw : Mm} (h : fX12_lookAt_L299 N w t0 = some zw) : AW l K cX12_lookAt RX12 5 none rmX12_lookAt 0 0 ap_E (ap_F K none zw) w 299 [] [.int t0, .ref (K.1 77)] := by
  unfold fX12_lookAt_L299 at h
  obtain ⟨m30, hm30, h⟩ := Option.bind_eq_some_iff.mp h
  refine ap_putI fp_X12_249 ly_77 rfl (Option.some.inj hm30) dX12_lookAt_299 ?_
  obtain rfl := Option.some.inj h
  exact ap_vret rfl dX12_lookAt_302
def fX12_lookAt_L295 (N : Nat) (w : Mm) : Option Mm :=
fX12_lookAt_L299 N w (w.1 77 19)
set_option maxRecDepth 100000 in
set_option maxHeartbeats 4000000 in
theorem AX12_lookAt_L295 {l : Launch} {K : Kt} {N : Nat}   {w : Mm} {zw : Mm} (h : fX12_lookAt_L295 N w = some zw) : AW l K cX12_lookAt RX12 5 none rmX12_lookAt 0 0 ap_E (ap_F K none zw) w 295 [(0, .ref (K.1 77))] [.ref (K.1 77)] := by
  unfold fX12_lookAt_L295 at h
  refine ap_aload_n dX12_lookAt_295 0 rfl rfl ?_
  refine ap_get (v := .int (w.1 77 19)) fl_X12_249 ly_77 rfl rfl dX12_lookAt_296 ?_
  refine ap_sub [] rfl ?_
  exact AX12_lookAt_L299   h
def fX12_lookAt_L274 (N : Nat) (w : Mm) : Option Mm :=
if (w.1 77 19) = (2 : Int32) then (
if (w.1 77 18) ≤ (2 : Int32) then (
fX12_lookAt_L295 N w)
else (
fX12_lookAt_L299 N w (4 : Int32)))
else (
fX12_lookAt_L295 N w)
set_option maxRecDepth 100000 in
set_option maxHeartbeats 4000000 in
theorem AX12_lookAt_L274 {l : Launch} {K : Kt} {N : Nat}   {w : Mm} {zw : Mm} (h : fX12_lookAt_L274 N w = some zw) : AW l K cX12_lookAt RX12 5 none rmX12_lookAt 0 0 ap_E (ap_F K none zw) w 274 [(0, .ref (K.1 77))] [] := by
  unfold fX12_lookAt_L274 at h
  refine ap_aload_n dX12_lookAt_274 0 rfl rfl ?_
  refine ap_aload_n dX12_lookAt_275 0 rfl rfl ?_
  refine ap_get (v := .int (w.1 77 19)) fl_X12_249 ly_77 rfl rfl dX12_lookAt_276 ?_
  refine ap_iconst (v := 2) dX12_lookAt_279 (by decide) ?_
  refine ap_icmp_ne (tgt := 295) dX12_lookAt_280 (by decide) (fun hc28 => ?_) (fun hc28 => ?_)
  · rw [if_neg hc28] at h
    exact AX12_lookAt_L295   h
  · rw [if_pos hc28] at h
    refine ap_aload_n dX12_lookAt_283 0 rfl rfl ?_
    refine ap_get (v := .int (w.1 77 18)) fl_X12_246 ly_77 rfl rfl dX12_lookAt_284 ?_
    refine ap_iconst (v := 2) dX12_lookAt_287 (by decide) ?_
    refine ap_icmp_le (tgt := 295) dX12_lookAt_288 (by decide) (fun hc29 => ?_) (fun hc29 => ?_)
    · rw [if_pos hc29] at h
      exact AX12_lookAt_L295   h
    · rw [if_neg hc29] at h
      refine ap_iconst (v := 4) dX12_lookAt_291 (by decide) ?_
      refine ap_goto (tgt := 299) dX12_lookAt_292 (by decide) ?_
      refine ap_sub [] rfl ?_
      exact AX12_lookAt_L299   h
def fX12_lookAt_L218 (N : Nat) : Nat → Mm → Int32 → Option Mm
  | 0, _, _ => none
  | n0 + 1, w, x4 => if (w.1 77 18) ≤ x4 then (
fX12_lookAt_L274 N w)
else (
if (2 : Int32) ≤ x4 then (
fX12_lookAt_L274 N w)
else (
if (w.1 77 19) = (2 : Int32) then (
Option.bind (rdA w 89 150 ((w.1 77 17) + x4)) fun a26 =>
Option.bind (some (sI w 77 20 ((((10 : Int32) * (w.1 77 20)) + a26) - (48 : Int32)))) fun m27 =>
(fX12_lookAt_L218 N n0) m27 (x4 + 1))
else (
fX12_lookAt_L274 N w)))
set_option maxRecDepth 100000 in
set_option maxHeartbeats 4000000 in
theorem AX12_lookAt_L218 {l : Launch} {K : Kt} {N : Nat}   : ∀ (n0 : Nat) (w : Mm) (x4 : Int32) {zw : Mm}, fX12_lookAt_L218 N n0 w x4 = some zw → AW l K cX12_lookAt RX12 5 none rmX12_lookAt 0 0 ap_E (ap_F K none zw) w 218 [(0, .ref (K.1 77)), (4, .int x4)] [] := by
  intro n0
  induction n0 with
  | zero =>
    intro w x4 zw h
    cases h
  | succ n0 ih =>
    intro w x4 zw h
    rw [fX12_lookAt_L218] at h
    refine ap_iload dX12_lookAt_218 1 rfl ?_
    refine ap_aload_n dX12_lookAt_220 0 rfl rfl ?_
    refine ap_get (v := .int (w.1 77 18)) fl_X12_246 ly_77 rfl rfl dX12_lookAt_221 ?_
    refine ap_icmp_ge (tgt := 274) dX12_lookAt_224 (by decide) (fun hc23 => ?_) (fun hc23 => ?_)
    · rw [if_pos hc23] at h
      refine ap_sub [0] rfl ?_
      exact AX12_lookAt_L274   h
    · rw [if_neg hc23] at h
      refine ap_iload dX12_lookAt_227 1 rfl ?_
      refine ap_iconst (v := 2) dX12_lookAt_229 (by decide) ?_
      refine ap_icmp_ge (tgt := 274) dX12_lookAt_230 (by decide) (fun hc24 => ?_) (fun hc24 => ?_)
      · rw [if_pos hc24] at h
        refine ap_sub [0] rfl ?_
        exact AX12_lookAt_L274   h
      · rw [if_neg hc24] at h
        refine ap_aload_n dX12_lookAt_233 0 rfl rfl ?_
        refine ap_get (v := .int (w.1 77 19)) fl_X12_249 ly_77 rfl rfl dX12_lookAt_234 ?_
        refine ap_iconst (v := 2) dX12_lookAt_237 (by decide) ?_
        refine ap_icmp_ne (tgt := 274) dX12_lookAt_238 (by decide) (fun hc25 => ?_) (fun hc25 => ?_)
        · rw [if_neg hc25] at h
          refine ap_sub [0] rfl ?_
          exact AX12_lookAt_L274   h
        · rw [if_pos hc25] at h
          refine ap_aload_n dX12_lookAt_241 0 rfl rfl ?_
          refine ap_bipush (v := 10) dX12_lookAt_242 (by decide) ?_
          refine ap_aload_n dX12_lookAt_244 0 rfl rfl ?_
          refine ap_get (v := .int (w.1 77 20)) fl_X12_252 ly_77 rfl rfl dX12_lookAt_245 ?_
          refine ap_imul dX12_lookAt_248 ?_
          refine ap_aload_n dX12_lookAt_249 0 rfl rfl ?_
          refine ap_get (v := .ref (K.1 89)) fl_X12_48 ly_77 rfl rfl dX12_lookAt_250 ?_
          refine ap_aload_n dX12_lookAt_253 0 rfl rfl ?_
          refine ap_get (v := .int (w.1 77 17)) fl_X12_243 ly_77 rfl rfl dX12_lookAt_254 ?_
          refine ap_iload dX12_lookAt_257 1 rfl ?_
          refine ap_iadd dX12_lookAt_259 ?_
          obtain ⟨a26, ha26, h⟩ := Option.bind_eq_some_iff.mp h
          refine ap_iald ly_89 ha26 dX12_lookAt_260 ?_
          refine ap_iadd dX12_lookAt_261 ?_
          refine ap_bipush (v := 48) dX12_lookAt_262 (by decide) ?_
          refine ap_isub dX12_lookAt_264 ?_
          obtain ⟨m27, hm27, h⟩ := Option.bind_eq_some_iff.mp h
          refine ap_putI fp_X12_252 ly_77 rfl (Option.some.inj hm27) dX12_lookAt_265 ?_
          refine ap_iinc (v := x4 + 1) (lv' := [(4, .int (x4 + 1)), (0, .ref (K.1 77))]) dX12_lookAt_268 1 rfl rfl (by decide) rfl ?_
          refine ap_goto (tgt := 218) dX12_lookAt_271 (by decide) ?_
          refine ap_sub [1, 0] rfl ?_
          exact ih _ _ h
def fX12_lookAt_L215 (N : Nat) (w : Mm) : Option Mm :=
fX12_lookAt_L218 N N w (0 : Int32)
set_option maxRecDepth 100000 in
set_option maxHeartbeats 4000000 in
theorem AX12_lookAt_L215 {l : Launch} {K : Kt} {N : Nat}   {w : Mm} {zw : Mm} (h : fX12_lookAt_L215 N w = some zw) : AW l K cX12_lookAt RX12 5 none rmX12_lookAt 0 0 ap_E (ap_F K none zw) w 215 [(0, .ref (K.1 77))] [] := by
  unfold fX12_lookAt_L215 at h
  refine ap_iconst (v := 0) dX12_lookAt_215 (by decide) ?_
  refine ap_istore (i := 4) (lv' := [(4, .int (0 : Int32)), (0, .ref (K.1 77))]) dX12_lookAt_216 (by decide) rfl ?_
  refine ap_sub [1, 0] rfl ?_
  exact AX12_lookAt_L218  N _ _ h
def fX12_lookAt_L208 (N : Nat) (k136 : Mm → Int32 → Option Mm) (w : Mm) (x3 : Int32) (t0 : Int32) (t1 : Int32) : Option Mm :=
Option.bind (some (sI w 77 18 (t1 + t0))) fun m22 =>
k136 m22 x3
set_option maxRecDepth 100000 in
set_option maxHeartbeats 4000000 in
theorem AX12_lookAt_L208 {l : Launch} {K : Kt} {N : Nat} {k136 : Mm → Int32 → Option Mm} (hk136 : ∀ (w : Mm) (x3 : Int32) (zw : Mm), k136 w x3 = some zw → AW l K cX12_lookAt RX12 5 none rmX12_lookAt 0 0 ap_E (ap_F K none zw) w 136 [(0, .ref (K.1 77)), (3, .int x3)] [])  {w : Mm} {x3 : Int32} {t0 : Int32} {t1 : Int32} {zw : Mm} (h : fX12_lookAt_L208 N k136 w x3 t0 t1 = some zw) : AW l K cX12_lookAt RX12 5 none rmX12_lookAt 0 0 ap_E (ap_F K none zw) w 208 [(0, .ref (K.1 77)), (3, .int x3)] [.int t0, .int t1, .ref (K.1 77)] := by
  unfold fX12_lookAt_L208 at h
  refine ap_iadd dX12_lookAt_208 ?_
  obtain ⟨m22, hm22, h⟩ := Option.bind_eq_some_iff.mp h
  refine ap_putI fp_X12_246 ly_77 rfl (Option.some.inj hm22) dX12_lookAt_209 ?_
  refine ap_goto (tgt := 136) dX12_lookAt_212 (by decide) ?_
  exact hk136 _ _ _ h
def fX12_lookAt_L193 (N : Nat) (k136 : Mm → Int32 → Option Mm) (w : Mm) (t0 : Int32) : Option Mm :=
if t0 = (0 : Int32) then (
fX12_lookAt_L208 N k136 w t0 (0 : Int32) (w.1 77 18))
else (
fX12_lookAt_L208 N k136 w t0 (1 : Int32) (w.1 77 18))
set_option maxRecDepth 100000 in
set_option maxHeartbeats 4000000 in
theorem AX12_lookAt_L193 {l : Launch} {K : Kt} {N : Nat} {k136 : Mm → Int32 → Option Mm} (hk136 : ∀ (w : Mm) (x3 : Int32) (zw : Mm), k136 w x3 = some zw → AW l K cX12_lookAt RX12 5 none rmX12_lookAt 0 0 ap_E (ap_F K none zw) w 136 [(0, .ref (K.1 77)), (3, .int x3)] [])  {w : Mm} {t0 : Int32} {zw : Mm} (h : fX12_lookAt_L193 N k136 w t0 = some zw) : AW l K cX12_lookAt RX12 5 none rmX12_lookAt 0 0 ap_E (ap_F K none zw) w 193 [(0, .ref (K.1 77))] [.int t0] := by
  unfold fX12_lookAt_L193 at h
  refine ap_istore_n (i := 3) (lv' := [(3, .int t0), (0, .ref (K.1 77))]) dX12_lookAt_193 rfl (by decide) rfl ?_
  refine ap_aload_n dX12_lookAt_194 1 rfl rfl ?_
  refine ap_dup dX12_lookAt_195 rfl ?_
  refine ap_get (v := .int (w.1 77 18)) fl_X12_246 ly_77 rfl rfl dX12_lookAt_196 ?_
  refine ap_iload_n dX12_lookAt_199 0 rfl rfl ?_
  refine ap_if_eq (tgt := 207) dX12_lookAt_200 (by decide) (fun hc21 => ?_) (fun hc21 => ?_)
  · rw [if_pos hc21] at h
    refine ap_iconst (v := 0) dX12_lookAt_207 (by decide) ?_
    refine ap_sub [1, 0] rfl ?_
    exact AX12_lookAt_L208 hk136  h
  · rw [if_neg hc21] at h
    refine ap_iconst (v := 1) dX12_lookAt_203 (by decide) ?_
    refine ap_goto (tgt := 208) dX12_lookAt_204 (by decide) ?_
    refine ap_sub [1, 0] rfl ?_
    exact AX12_lookAt_L208 hk136  h
def fX12_lookAt_L136 (N : Nat) : Nat → Mm → Int32 → Option Mm
  | 0, _, _ => none
  | n0 + 1, w, x3 => if x3 = (0 : Int32) then (
fX12_lookAt_L215 N w)
else (
if (w.1 77 16) ≤ ((w.1 77 17) + (w.1 77 18)) then (
fX12_lookAt_L215 N w)
else (
Option.bind (rdA w 89 150 ((w.1 77 17) + (w.1 77 18))) fun a19 =>
if (w.1 77 19) = (1 : Int32) then (
fX12_lookAt_L193 N (fX12_lookAt_L136 N n0) w (fX12_isSmall a19))
else (
fX12_lookAt_L193 N (fX12_lookAt_L136 N n0) w (fX12_isFigure a19))))
set_option maxRecDepth 100000 in
set_option maxHeartbeats 4000000 in
theorem AX12_lookAt_L136 {l : Launch} {K : Kt} {N : Nat}   : ∀ (n0 : Nat) (w : Mm) (x3 : Int32) {zw : Mm}, fX12_lookAt_L136 N n0 w x3 = some zw → AW l K cX12_lookAt RX12 5 none rmX12_lookAt 0 0 ap_E (ap_F K none zw) w 136 [(0, .ref (K.1 77)), (3, .int x3)] [] := by
  intro n0
  induction n0 with
  | zero =>
    intro w x3 zw h
    cases h
  | succ n0 ih =>
    intro w x3 zw h
    rw [fX12_lookAt_L136] at h
    refine ap_iload_n dX12_lookAt_136 1 rfl rfl ?_
    refine ap_if_eq (tgt := 215) dX12_lookAt_137 (by decide) (fun hc17 => ?_) (fun hc17 => ?_)
    · rw [if_pos hc17] at h
      refine ap_sub [0] rfl ?_
      exact AX12_lookAt_L215   h
    · rw [if_neg hc17] at h
      refine ap_aload_n dX12_lookAt_140 0 rfl rfl ?_
      refine ap_get (v := .int (w.1 77 17)) fl_X12_243 ly_77 rfl rfl dX12_lookAt_141 ?_
      refine ap_aload_n dX12_lookAt_144 0 rfl rfl ?_
      refine ap_get (v := .int (w.1 77 18)) fl_X12_246 ly_77 rfl rfl dX12_lookAt_145 ?_
      refine ap_iadd dX12_lookAt_148 ?_
      refine ap_aload_n dX12_lookAt_149 0 rfl rfl ?_
      refine ap_get (v := .int (w.1 77 16)) fl_X12_232 ly_77 rfl rfl dX12_lookAt_150 ?_
      refine ap_icmp_ge (tgt := 215) dX12_lookAt_153 (by decide) (fun hc18 => ?_) (fun hc18 => ?_)
      · rw [if_pos hc18] at h
        refine ap_sub [0] rfl ?_
        exact AX12_lookAt_L215   h
      · rw [if_neg hc18] at h
        refine ap_aload_n dX12_lookAt_156 0 rfl rfl ?_
        refine ap_get (v := .ref (K.1 89)) fl_X12_48 ly_77 rfl rfl dX12_lookAt_157 ?_
        refine ap_aload_n dX12_lookAt_160 0 rfl rfl ?_
        refine ap_get (v := .int (w.1 77 17)) fl_X12_243 ly_77 rfl rfl dX12_lookAt_161 ?_
        refine ap_aload_n dX12_lookAt_164 0 rfl rfl ?_
        refine ap_get (v := .int (w.1 77 18)) fl_X12_246 ly_77 rfl rfl dX12_lookAt_165 ?_
        refine ap_iadd dX12_lookAt_168 ?_
        obtain ⟨a19, ha19, h⟩ := Option.bind_eq_some_iff.mp h
        refine ap_iald ly_89 ha19 dX12_lookAt_169 ?_
        refine ap_istore (i := 4) (lv' := [(4, .int a19), (0, .ref (K.1 77)), (3, .int x3)]) dX12_lookAt_170 (by decide) rfl ?_
        refine ap_aload_n dX12_lookAt_172 1 rfl rfl ?_
        refine ap_get (v := .int (w.1 77 19)) fl_X12_249 ly_77 rfl rfl dX12_lookAt_173 ?_
        refine ap_iconst (v := 1) dX12_lookAt_176 (by decide) ?_
        refine ap_icmp_ne (tgt := 188) dX12_lookAt_177 (by decide) (fun hc20 => ?_) (fun hc20 => ?_)
        · rw [if_neg hc20] at h
          refine ap_iload dX12_lookAt_188 0 rfl ?_
          refine ap_callS (As := [.int a19]) (st := []) (st1 := [.int (fX12_isFigure a19)]) (mcX12_isFigure  (w := w) (zx := fX12_isFigure a19) rfl) cs_X12_258 ⟨rfl, rfl, by decide, by decide⟩ rfl (Nat.le_of_ble_eq_true rfl) ⟨Nat.zero_le _, Nat.zero_le _⟩ dX12_lookAt_190 rfl rfl ?_
          refine ap_sub [1] rfl ?_
          exact AX12_lookAt_L193 (fun q0 q1 q2 hq => ih q0 q1 hq)  h
        · rw [if_pos hc20] at h
          refine ap_iload dX12_lookAt_180 0 rfl ?_
          refine ap_callS (As := [.int a19]) (st := []) (st1 := [.int (fX12_isSmall a19)]) (mcX12_isSmall  (w := w) (zx := fX12_isSmall a19) rfl) cs_X12_255 ⟨rfl, rfl, by decide, by decide⟩ rfl (Nat.le_of_ble_eq_true rfl) ⟨Nat.zero_le _, Nat.zero_le _⟩ dX12_lookAt_182 rfl rfl ?_
          refine ap_goto (tgt := 193) dX12_lookAt_185 (by decide) ?_
          refine ap_sub [1] rfl ?_
          exact AX12_lookAt_L193 (fun q0 q1 q2 hq => ih q0 q1 hq)  h
def fX12_lookAt_L135 (N : Nat) (w : Mm) (t0 : Int32) : Option Mm :=
fX12_lookAt_L136 N N w t0
set_option maxRecDepth 100000 in
set_option maxHeartbeats 4000000 in
theorem AX12_lookAt_L135 {l : Launch} {K : Kt} {N : Nat}   {w : Mm} {t0 : Int32} {zw : Mm} (h : fX12_lookAt_L135 N w t0 = some zw) : AW l K cX12_lookAt RX12 5 none rmX12_lookAt 0 0 ap_E (ap_F K none zw) w 135 [(0, .ref (K.1 77))] [.int t0] := by
  unfold fX12_lookAt_L135 at h
  refine ap_istore_n (i := 3) (lv' := [(3, .int t0), (0, .ref (K.1 77))]) dX12_lookAt_135 rfl (by decide) rfl ?_
  refine ap_sub [1, 0] rfl ?_
  exact AX12_lookAt_L136  N _ _ h
def fX12_lookAt_L114 (N : Nat) (w : Mm) (t0 : Int32) : Option Mm :=
Option.bind (some (sI w 77 19 t0)) fun m14 =>
Option.bind (some (sI m14 77 18 (1 : Int32))) fun m15 =>
if (3 : Int32) ≤ (m15.1 77 19) then (
fX12_lookAt_L135 N m15 (0 : Int32))
else (
fX12_lookAt_L135 N m15 (1 : Int32))
set_option maxRecDepth 100000 in
set_option maxHeartbeats 4000000 in
theorem AX12_lookAt_L114 {l : Launch} {K : Kt} {N : Nat}   {w : Mm} {t0 : Int32} {zw : Mm} (h : fX12_lookAt_L114 N w t0 = some zw) : AW l K cX12_lookAt RX12 5 none rmX12_lookAt 0 0 ap_E (ap_F K none zw) w 114 [(0, .ref (K.1 77))] [.int t0, .ref (K.1 77)] := by
  unfold fX12_lookAt_L114 at h
  obtain ⟨m14, hm14, h⟩ := Option.bind_eq_some_iff.mp h
  refine ap_putI fp_X12_249 ly_77 rfl (Option.some.inj hm14) dX12_lookAt_114 ?_
  refine ap_aload_n dX12_lookAt_117 0 rfl rfl ?_
  refine ap_iconst (v := 1) dX12_lookAt_118 (by decide) ?_
  obtain ⟨m15, hm15, h⟩ := Option.bind_eq_some_iff.mp h
  refine ap_putI fp_X12_246 ly_77 rfl (Option.some.inj hm15) dX12_lookAt_119 ?_
  refine ap_aload_n dX12_lookAt_122 0 rfl rfl ?_
  refine ap_get (v := .int (m15.1 77 19)) fl_X12_249 ly_77 rfl rfl dX12_lookAt_123 ?_
  refine ap_iconst (v := 3) dX12_lookAt_126 (by decide) ?_
  refine ap_icmp_ge (tgt := 134) dX12_lookAt_127 (by decide) (fun hc16 => ?_) (fun hc16 => ?_)
  · rw [if_pos hc16] at h
    refine ap_iconst (v := 0) dX12_lookAt_134 (by decide) ?_
    exact AX12_lookAt_L135   h
  · rw [if_neg hc16] at h
    refine ap_iconst (v := 1) dX12_lookAt_130 (by decide) ?_
    refine ap_goto (tgt := 135) dX12_lookAt_131 (by decide) ?_
    exact AX12_lookAt_L135   h
def fX12_lookAt_L43 (N : Nat) (w : Mm) : Option Mm :=
Option.bind (some (sI w 77 18 (0 : Int32))) fun m6 =>
Option.bind (some (sI m6 77 19 (0 : Int32))) fun m7 =>
Option.bind (some (sI m7 77 20 (0 : Int32))) fun m8 =>
if (m8.1 77 17) = (m8.1 77 16) then (
some m8)
else (
Option.bind (rdA m8 89 150 (m8.1 77 17)) fun a10 =>
if (fX12_isSmall a10) = (0 : Int32) then (
if (fX12_isFigure a10) = (0 : Int32) then (
if a10 = (59 : Int32) then (
fX12_lookAt_L114 N m8 (3 : Int32))
else (
fX12_lookAt_L114 N m8 (4 : Int32)))
else (
fX12_lookAt_L114 N m8 (2 : Int32)))
else (
fX12_lookAt_L114 N m8 (1 : Int32)))
set_option maxRecDepth 100000 in
set_option maxHeartbeats 4000000 in
theorem AX12_lookAt_L43 {l : Launch} {K : Kt} {N : Nat}   {w : Mm} {zw : Mm} (h : fX12_lookAt_L43 N w = some zw) : AW l K cX12_lookAt RX12 5 none rmX12_lookAt 0 0 ap_E (ap_F K none zw) w 43 [(0, .ref (K.1 77))] [] := by
  unfold fX12_lookAt_L43 at h
  refine ap_aload_n dX12_lookAt_43 0 rfl rfl ?_
  refine ap_iconst (v := 0) dX12_lookAt_44 (by decide) ?_
  obtain ⟨m6, hm6, h⟩ := Option.bind_eq_some_iff.mp h
  refine ap_putI fp_X12_246 ly_77 rfl (Option.some.inj hm6) dX12_lookAt_45 ?_
  refine ap_aload_n dX12_lookAt_48 0 rfl rfl ?_
  refine ap_iconst (v := 0) dX12_lookAt_49 (by decide) ?_
  obtain ⟨m7, hm7, h⟩ := Option.bind_eq_some_iff.mp h
  refine ap_putI fp_X12_249 ly_77 rfl (Option.some.inj hm7) dX12_lookAt_50 ?_
  refine ap_aload_n dX12_lookAt_53 0 rfl rfl ?_
  refine ap_iconst (v := 0) dX12_lookAt_54 (by decide) ?_
  obtain ⟨m8, hm8, h⟩ := Option.bind_eq_some_iff.mp h
  refine ap_putI fp_X12_252 ly_77 rfl (Option.some.inj hm8) dX12_lookAt_55 ?_
  refine ap_aload_n dX12_lookAt_58 0 rfl rfl ?_
  refine ap_get (v := .int (m8.1 77 17)) fl_X12_243 ly_77 rfl rfl dX12_lookAt_59 ?_
  refine ap_aload_n dX12_lookAt_62 0 rfl rfl ?_
  refine ap_get (v := .int (m8.1 77 16)) fl_X12_232 ly_77 rfl rfl dX12_lookAt_63 ?_
  refine ap_icmp_ne (tgt := 70) dX12_lookAt_66 (by decide) (fun hc9 => ?_) (fun hc9 => ?_)
  · rw [if_neg hc9] at h
    refine ap_aload_n dX12_lookAt_70 0 rfl rfl ?_
    refine ap_get (v := .ref (K.1 89)) fl_X12_48 ly_77 rfl rfl dX12_lookAt_71 ?_
    refine ap_aload_n dX12_lookAt_74 0 rfl rfl ?_
    refine ap_get (v := .int (m8.1 77 17)) fl_X12_243 ly_77 rfl rfl dX12_lookAt_75 ?_
    obtain ⟨a10, ha10, h⟩ := Option.bind_eq_some_iff.mp h
    refine ap_iald ly_89 ha10 dX12_lookAt_78 ?_
    refine ap_istore_n (i := 2) (lv' := [(2, .int a10), (0, .ref (K.1 77))]) dX12_lookAt_79 rfl (by decide) rfl ?_
    refine ap_aload_n dX12_lookAt_80 1 rfl rfl ?_
    refine ap_iload_n dX12_lookAt_81 0 rfl rfl ?_
    refine ap_callS (As := [.int a10]) (st := [.ref (K.1 77)]) (st1 := [.int (fX12_isSmall a10), .ref (K.1 77)]) (mcX12_isSmall  (w := m8) (zx := fX12_isSmall a10) rfl) cs_X12_255 ⟨rfl, rfl, by decide, by decide⟩ rfl (Nat.le_of_ble_eq_true rfl) ⟨Nat.zero_le _, Nat.zero_le _⟩ dX12_lookAt_82 rfl rfl ?_
    refine ap_if_eq (tgt := 92) dX12_lookAt_85 (by decide) (fun hc11 => ?_) (fun hc11 => ?_)
    · rw [if_pos hc11] at h
      refine ap_iload_n dX12_lookAt_92 0 rfl rfl ?_
      refine ap_callS (As := [.int a10]) (st := [.ref (K.1 77)]) (st1 := [.int (fX12_isFigure a10), .ref (K.1 77)]) (mcX12_isFigure  (w := m8) (zx := fX12_isFigure a10) rfl) cs_X12_258 ⟨rfl, rfl, by decide, by decide⟩ rfl (Nat.le_of_ble_eq_true rfl) ⟨Nat.zero_le _, Nat.zero_le _⟩ dX12_lookAt_93 rfl rfl ?_
      refine ap_if_eq (tgt := 103) dX12_lookAt_96 (by decide) (fun hc12 => ?_) (fun hc12 => ?_)
      · rw [if_pos hc12] at h
        refine ap_iload_n dX12_lookAt_103 0 rfl rfl ?_
        refine ap_bipush (v := 59) dX12_lookAt_104 (by decide) ?_
        refine ap_icmp_ne (tgt := 113) dX12_lookAt_106 (by decide) (fun hc13 => ?_) (fun hc13 => ?_)
        · rw [if_neg hc13] at h
          refine ap_iconst (v := 4) dX12_lookAt_113 (by decide) ?_
          refine ap_sub [1] rfl ?_
          exact AX12_lookAt_L114   h
        · rw [if_pos hc13] at h
          refine ap_iconst (v := 3) dX12_lookAt_109 (by decide) ?_
          refine ap_goto (tgt := 114) dX12_lookAt_110 (by decide) ?_
          refine ap_sub [1] rfl ?_
          exact AX12_lookAt_L114   h
      · rw [if_neg hc12] at h
        refine ap_iconst (v := 2) dX12_lookAt_99 (by decide) ?_
        refine ap_goto (tgt := 114) dX12_lookAt_100 (by decide) ?_
        refine ap_sub [1] rfl ?_
        exact AX12_lookAt_L114   h
    · rw [if_neg hc11] at h
      refine ap_iconst (v := 1) dX12_lookAt_88 (by decide) ?_
      refine ap_goto (tgt := 114) dX12_lookAt_89 (by decide) ?_
      refine ap_sub [1] rfl ?_
      exact AX12_lookAt_L114   h
  · rw [if_pos hc9] at h
    obtain rfl := Option.some.inj h
    exact ap_vret rfl dX12_lookAt_69
def fX12_lookAt_L5 (N : Nat) : Nat → Mm → Option Mm
  | 0, _ => none
  | n0 + 1, w => if (w.1 77 16) ≤ (w.1 77 17) then (
fX12_lookAt_L43 N w)
else (
Option.bind (rdA w 89 150 (w.1 77 17)) fun a3 =>
if a3 = (32 : Int32) then (
Option.bind (some (sI w 77 17 ((w.1 77 17) + (1 : Int32)))) fun m5 =>
(fX12_lookAt_L5 N n0) m5)
else (
fX12_lookAt_L43 N w))
set_option maxRecDepth 100000 in
set_option maxHeartbeats 4000000 in
theorem AX12_lookAt_L5 {l : Launch} {K : Kt} {N : Nat}   : ∀ (n0 : Nat) (w : Mm) {zw : Mm}, fX12_lookAt_L5 N n0 w = some zw → AW l K cX12_lookAt RX12 5 none rmX12_lookAt 0 0 ap_E (ap_F K none zw) w 5 [(0, .ref (K.1 77))] [] := by
  intro n0
  induction n0 with
  | zero =>
    intro w zw h
    cases h
  | succ n0 ih =>
    intro w zw h
    rw [fX12_lookAt_L5] at h
    refine ap_aload_n dX12_lookAt_5 0 rfl rfl ?_
    refine ap_get (v := .int (w.1 77 17)) fl_X12_243 ly_77 rfl rfl dX12_lookAt_6 ?_
    refine ap_aload_n dX12_lookAt_9 0 rfl rfl ?_
    refine ap_get (v := .int (w.1 77 16)) fl_X12_232 ly_77 rfl rfl dX12_lookAt_10 ?_
    refine ap_icmp_ge (tgt := 43) dX12_lookAt_13 (by decide) (fun hc2 => ?_) (fun hc2 => ?_)
    · rw [if_pos hc2] at h
      exact AX12_lookAt_L43   h
    · rw [if_neg hc2] at h
      refine ap_aload_n dX12_lookAt_16 0 rfl rfl ?_
      refine ap_get (v := .ref (K.1 89)) fl_X12_48 ly_77 rfl rfl dX12_lookAt_17 ?_
      refine ap_aload_n dX12_lookAt_20 0 rfl rfl ?_
      refine ap_get (v := .int (w.1 77 17)) fl_X12_243 ly_77 rfl rfl dX12_lookAt_21 ?_
      obtain ⟨a3, ha3, h⟩ := Option.bind_eq_some_iff.mp h
      refine ap_iald ly_89 ha3 dX12_lookAt_24 ?_
      refine ap_bipush (v := 32) dX12_lookAt_25 (by decide) ?_
      refine ap_icmp_ne (tgt := 43) dX12_lookAt_27 (by decide) (fun hc4 => ?_) (fun hc4 => ?_)
      · rw [if_neg hc4] at h
        exact AX12_lookAt_L43   h
      · rw [if_pos hc4] at h
        refine ap_aload_n dX12_lookAt_30 0 rfl rfl ?_
        refine ap_dup dX12_lookAt_31 rfl ?_
        refine ap_get (v := .int (w.1 77 17)) fl_X12_243 ly_77 rfl rfl dX12_lookAt_32 ?_
        refine ap_iconst (v := 1) dX12_lookAt_35 (by decide) ?_
        refine ap_iadd dX12_lookAt_36 ?_
        obtain ⟨m5, hm5, h⟩ := Option.bind_eq_some_iff.mp h
        refine ap_putI fp_X12_243 ly_77 rfl (Option.some.inj hm5) dX12_lookAt_37 ?_
        refine ap_goto (tgt := 5) dX12_lookAt_40 (by decide) ?_
        exact ih _ h
def fX12_lookAt (N : Nat) (w : Mm) (x1 : Int32) : Option Mm :=
Option.bind (some (sI w 77 17 x1)) fun m1 =>
fX12_lookAt_L5 N N m1
set_option maxRecDepth 100000 in
set_option maxHeartbeats 4000000 in
theorem AX12_lookAt {l : Launch} {K : Kt} {N : Nat}  {w : Mm} {x1 : Int32} {zw : Mm} (h : fX12_lookAt N w x1 = some zw) : AW l K cX12_lookAt RX12 5 none rmX12_lookAt 0 0 ap_E (ap_F K none zw) w 0 [(0, .ref (K.1 77)), (1, .int x1)] [] := by
  unfold fX12_lookAt at h
  refine ap_aload_n dX12_lookAt_0 0 rfl rfl ?_
  refine ap_iload_n dX12_lookAt_1 1 rfl rfl ?_
  obtain ⟨m1, hm1, h⟩ := Option.bind_eq_some_iff.mp h
  refine ap_putI fp_X12_243 ly_77 rfl (Option.some.inj hm1) dX12_lookAt_2 ?_
  refine ap_sub [0] rfl ?_
  exact AX12_lookAt_L5  N _ h
theorem mcX12_lookAt {l : Launch} {K : Kt} {N : Nat}  {w : Mm} {x1 : Int32} {zw : Mm} (h : fX12_lookAt N w x1 = some zw) : MC l K yX12_lookAt cX12_lookAt 5 none rmX12_lookAt w [.ref (K.1 77), .int x1] none zw :=
  MC.of (by decide) (Nat.le_of_ble_eq_true rfl) rfl (AX12_lookAt  h)
def fX12_goBehind (N : Nat) (w : Mm) : Option Mm :=
Option.bind (fX12_lookAt N w ((w.1 77 17) + (w.1 77 18))) fun m1 =>
some m1
set_option maxRecDepth 100000 in
set_option maxHeartbeats 4000000 in
theorem AX12_goBehind {l : Launch} {K : Kt} {N : Nat}  {w : Mm} {zw : Mm} (h : fX12_goBehind N w = some zw) : AW l K cX12_goBehind RX12 1 none rmX12_goBehind 0 0 ap_E (ap_F K none zw) w 0 [(0, .ref (K.1 77))] [] := by
  unfold fX12_goBehind at h
  refine ap_aload_n dX12_goBehind_0 0 rfl rfl ?_
  refine ap_aload_n dX12_goBehind_1 0 rfl rfl ?_
  refine ap_get (v := .int (w.1 77 17)) fl_X12_243 ly_77 rfl rfl dX12_goBehind_2 ?_
  refine ap_aload_n dX12_goBehind_5 0 rfl rfl ?_
  refine ap_get (v := .int (w.1 77 18)) fl_X12_246 ly_77 rfl rfl dX12_goBehind_6 ?_
  refine ap_iadd dX12_goBehind_9 ?_
  obtain ⟨m1, hm1, h⟩ := Option.bind_eq_some_iff.mp h
  refine ap_callV (k := 77) (As := [.int ((w.1 77 17) + (w.1 77 18))]) (st := []) (st1 := []) (mcX12_lookAt  hm1) cv_X12_261 rfl ly_77 ⟨rfl, rfl, by decide, by decide⟩ rfl (Nat.le_of_ble_eq_true rfl) ⟨Nat.zero_le _, Nat.zero_le _⟩ dX12_goBehind_10 rfl rfl ?_
  obtain rfl := Option.some.inj h
  exact ap_vret rfl dX12_goBehind_13
theorem mcX12_goBehind {l : Launch} {K : Kt} {N : Nat}  {w : Mm} {zw : Mm} (h : fX12_goBehind N w = some zw) : MC l K yX12_goBehind cX12_goBehind 1 none rmX12_goBehind w [.ref (K.1 77)] none zw :=
  MC.of (by decide) (Nat.le_of_ble_eq_true rfl) rfl (AX12_goBehind  h)
def fX12_isCalled_L103 (N : Nat) (k26 : Int32 → Int32 → Int32 → Int32 → Int32 → Int32 → Int32 → Int32 → Int32 → Option Int32) (w : Mm) (x1 : Int32) (x2 : Int32) (x3 : Int32) (x4 : Int32) (x5 : Int32) (x6 : Int32) (x7 : Int32) (x9 : Int32) (t0 : Int32) (t1 : Int32) : Option Int32 :=
if t1 = t0 then (
k26 x1 x2 x3 x4 x5 x6 x7 (1 : Int32) (x9 + 1))
else (
k26 x1 x2 x3 x4 x5 x6 x7 (0 : Int32) (x9 + 1))
set_option maxRecDepth 100000 in
set_option maxHeartbeats 4000000 in
theorem AX12_isCalled_L103 {l : Launch} {K : Kt} {N : Nat} {w : Mm} {k26 : Int32 → Int32 → Int32 → Int32 → Int32 → Int32 → Int32 → Int32 → Int32 → Option Int32} (hk26 : ∀ (x1 : Int32) (x2 : Int32) (x3 : Int32) (x4 : Int32) (x5 : Int32) (x6 : Int32) (x7 : Int32) (x8 : Int32) (x9 : Int32) (zx : Int32), k26 x1 x2 x3 x4 x5 x6 x7 x8 x9 = some zx → AW l K cX12_isCalled RX12 10 (some .boolean) rmX12_isCalled 0 0 ap_E (ap_F K (some (.int zx)) w) w 26 [(0, .ref (K.1 77)), (1, .int x1), (2, .int x2), (3, .int x3), (4, .int x4), (5, .int x5), (6, .int x6), (7, .int x7), (8, .int x8), (9, .int x9)] [])  {x1 : Int32} {x2 : Int32} {x3 : Int32} {x4 : Int32} {x5 : Int32} {x6 : Int32} {x7 : Int32} {x9 : Int32} {t0 : Int32} {t1 : Int32} {zx : Int32} (h : fX12_isCalled_L103 N k26 w x1 x2 x3 x4 x5 x6 x7 x9 t0 t1 = some zx) : AW l K cX12_isCalled RX12 10 (some .boolean) rmX12_isCalled 0 0 ap_E (ap_F K (some (.int zx)) w) w 103 [(0, .ref (K.1 77)), (1, .int x1), (2, .int x2), (3, .int x3), (4, .int x4), (5, .int x5), (6, .int x6), (7, .int x7), (9, .int x9)] [.int t0, .int t1] := by
  unfold fX12_isCalled_L103 at h
  refine ap_icmp_ne (tgt := 110) dX12_isCalled_103 (by decide) (fun hc13 => ?_) (fun hc13 => ?_)
  · rw [if_neg hc13] at h
    refine ap_iconst (v := 0) dX12_isCalled_110 (by decide) ?_
    refine ap_istore (i := 8) (lv' := [(8, .int (0 : Int32)), (0, .ref (K.1 77)), (1, .int x1), (2, .int x2), (3, .int x3), (4, .int x4), (5, .int x5), (6, .int x6), (7, .int x7), (9, .int x9)]) dX12_isCalled_111 (by decide) rfl ?_
    refine ap_iinc (v := x9 + 1) (lv' := [(9, .int (x9 + 1)), (8, .int (0 : Int32)), (0, .ref (K.1 77)), (1, .int x1), (2, .int x2), (3, .int x3), (4, .int x4), (5, .int x5), (6, .int x6), (7, .int x7)]) dX12_isCalled_113 9 rfl rfl (by decide) rfl ?_
    refine ap_goto (tgt := 26) dX12_isCalled_116 (by decide) ?_
    refine ap_sub [2, 3, 4, 5, 6, 7, 8, 9, 1, 0] rfl ?_
    exact hk26 _ _ _ _ _ _ _ _ _ _ h
  · rw [if_pos hc13] at h
    refine ap_iconst (v := 1) dX12_isCalled_106 (by decide) ?_
    refine ap_goto (tgt := 111) dX12_isCalled_107 (by decide) ?_
    refine ap_istore (i := 8) (lv' := [(8, .int (1 : Int32)), (0, .ref (K.1 77)), (1, .int x1), (2, .int x2), (3, .int x3), (4, .int x4), (5, .int x5), (6, .int x6), (7, .int x7), (9, .int x9)]) dX12_isCalled_111 (by decide) rfl ?_
    refine ap_iinc (v := x9 + 1) (lv' := [(9, .int (x9 + 1)), (8, .int (1 : Int32)), (0, .ref (K.1 77)), (1, .int x1), (2, .int x2), (3, .int x3), (4, .int x4), (5, .int x5), (6, .int x6), (7, .int x7)]) dX12_isCalled_113 9 rfl rfl (by decide) rfl ?_
    refine ap_goto (tgt := 26) dX12_isCalled_116 (by decide) ?_
    refine ap_sub [2, 3, 4, 5, 6, 7, 8, 9, 1, 0] rfl ?_
    exact hk26 _ _ _ _ _ _ _ _ _ _ h
def fX12_isCalled_L26 (N : Nat) (w : Mm) : Nat → Int32 → Int32 → Int32 → Int32 → Int32 → Int32 → Int32 → Int32 → Int32 → Option Int32
  | 0, _, _, _, _, _, _, _, _, _ => none
  | n0 + 1, x1, x2, x3, x4, x5, x6, x7, x8, x9 => if x1 ≤ x9 then (
Option.bind (bz x8) fun a4 =>
some a4)
else (
if x8 = (0 : Int32) then (
Option.bind (bz x8) fun a6 =>
some a6)
else (
Option.bind (rdA w 89 150 ((w.1 77 17) + x9)) fun a7 =>
if x9 = (0 : Int32) then (
fX12_isCalled_L103 N (fX12_isCalled_L26 N w n0) w x1 x2 x3 x4 x5 x6 x7 x9 x2 a7)
else (
if x9 = (1 : Int32) then (
fX12_isCalled_L103 N (fX12_isCalled_L26 N w n0) w x1 x2 x3 x4 x5 x6 x7 x9 x3 a7)
else (
if x9 = (2 : Int32) then (
fX12_isCalled_L103 N (fX12_isCalled_L26 N w n0) w x1 x2 x3 x4 x5 x6 x7 x9 x4 a7)
else (
if x9 = (3 : Int32) then (
fX12_isCalled_L103 N (fX12_isCalled_L26 N w n0) w x1 x2 x3 x4 x5 x6 x7 x9 x5 a7)
else (
if x9 = (4 : Int32) then (
fX12_isCalled_L103 N (fX12_isCalled_L26 N w n0) w x1 x2 x3 x4 x5 x6 x7 x9 x6 a7)
else (
fX12_isCalled_L103 N (fX12_isCalled_L26 N w n0) w x1 x2 x3 x4 x5 x6 x7 x9 x7 a7)))))))
set_option maxRecDepth 100000 in
set_option maxHeartbeats 4000000 in
theorem AX12_isCalled_L26 {l : Launch} {K : Kt} {N : Nat} {w : Mm}   : ∀ (n0 : Nat) (x1 : Int32) (x2 : Int32) (x3 : Int32) (x4 : Int32) (x5 : Int32) (x6 : Int32) (x7 : Int32) (x8 : Int32) (x9 : Int32) {zx : Int32}, fX12_isCalled_L26 N w n0 x1 x2 x3 x4 x5 x6 x7 x8 x9 = some zx → AW l K cX12_isCalled RX12 10 (some .boolean) rmX12_isCalled 0 0 ap_E (ap_F K (some (.int zx)) w) w 26 [(0, .ref (K.1 77)), (1, .int x1), (2, .int x2), (3, .int x3), (4, .int x4), (5, .int x5), (6, .int x6), (7, .int x7), (8, .int x8), (9, .int x9)] [] := by
  intro n0
  induction n0 with
  | zero =>
    intro x1 x2 x3 x4 x5 x6 x7 x8 x9 zx h
    cases h
  | succ n0 ih =>
    intro x1 x2 x3 x4 x5 x6 x7 x8 x9 zx h
    rw [fX12_isCalled_L26] at h
    refine ap_iload dX12_isCalled_26 9 rfl ?_
    refine ap_iload_n dX12_isCalled_28 1 rfl rfl ?_
    refine ap_icmp_ge (tgt := 119) dX12_isCalled_29 (by decide) (fun hc3 => ?_) (fun hc3 => ?_)
    · rw [if_pos hc3] at h
      refine ap_iload dX12_isCalled_119 8 rfl ?_
      obtain ⟨a4, ha4, h⟩ := Option.bind_eq_some_iff.mp h
      obtain rfl := Option.some.inj h
      obtain ⟨ha4b, rfl⟩ := bz_some ha4
      exact ap_zret rfl ha4b dX12_isCalled_121
    · rw [if_neg hc3] at h
      refine ap_iload dX12_isCalled_32 8 rfl ?_
      refine ap_if_eq (tgt := 119) dX12_isCalled_34 (by decide) (fun hc5 => ?_) (fun hc5 => ?_)
      · rw [if_pos hc5] at h
        refine ap_iload dX12_isCalled_119 8 rfl ?_
        obtain ⟨a6, ha6, h⟩ := Option.bind_eq_some_iff.mp h
        obtain rfl := Option.some.inj h
        obtain ⟨ha6b, rfl⟩ := bz_some ha6
        exact ap_zret rfl ha6b dX12_isCalled_121
      · rw [if_neg hc5] at h
        refine ap_aload_n dX12_isCalled_37 0 rfl rfl ?_
        refine ap_get (v := .ref (K.1 89)) fl_X12_48 ly_77 rfl rfl dX12_isCalled_38 ?_
        refine ap_aload_n dX12_isCalled_41 0 rfl rfl ?_
        refine ap_get (v := .int (w.1 77 17)) fl_X12_243 ly_77 rfl rfl dX12_isCalled_42 ?_
        refine ap_iload dX12_isCalled_45 9 rfl ?_
        refine ap_iadd dX12_isCalled_47 ?_
        obtain ⟨a7, ha7, h⟩ := Option.bind_eq_some_iff.mp h
        refine ap_iald ly_89 ha7 dX12_isCalled_48 ?_
        refine ap_iload dX12_isCalled_49 9 rfl ?_
        refine ap_if_ne (tgt := 58) dX12_isCalled_51 (by decide) (fun hc8 => ?_) (fun hc8 => ?_)
        · rw [if_neg hc8] at h
          refine ap_iload dX12_isCalled_58 9 rfl ?_
          refine ap_iconst (v := 1) dX12_isCalled_60 (by decide) ?_
          refine ap_icmp_ne (tgt := 68) dX12_isCalled_61 (by decide) (fun hc9 => ?_) (fun hc9 => ?_)
          · rw [if_neg hc9] at h
            refine ap_iload dX12_isCalled_68 9 rfl ?_
            refine ap_iconst (v := 2) dX12_isCalled_70 (by decide) ?_
            refine ap_icmp_ne (tgt := 79) dX12_isCalled_71 (by decide) (fun hc10 => ?_) (fun hc10 => ?_)
            · rw [if_neg hc10] at h
              refine ap_iload dX12_isCalled_79 9 rfl ?_
              refine ap_iconst (v := 3) dX12_isCalled_81 (by decide) ?_
              refine ap_icmp_ne (tgt := 90) dX12_isCalled_82 (by decide) (fun hc11 => ?_) (fun hc11 => ?_)
              · rw [if_neg hc11] at h
                refine ap_iload dX12_isCalled_90 9 rfl ?_
                refine ap_iconst (v := 4) dX12_isCalled_92 (by decide) ?_
                refine ap_icmp_ne (tgt := 101) dX12_isCalled_93 (by decide) (fun hc12 => ?_) (fun hc12 => ?_)
                · rw [if_neg hc12] at h
                  refine ap_iload dX12_isCalled_101 7 rfl ?_
                  refine ap_sub [0, 1, 2, 3, 4, 5, 6, 7, 9] rfl ?_
                  exact AX12_isCalled_L103 (fun q0 q1 q2 q3 q4 q5 q6 q7 q8 q9 hq => ih q0 q1 q2 q3 q4 q5 q6 q7 q8 hq)  h
                · rw [if_pos hc12] at h
                  refine ap_iload dX12_isCalled_96 6 rfl ?_
                  refine ap_goto (tgt := 103) dX12_isCalled_98 (by decide) ?_
                  refine ap_sub [0, 1, 2, 3, 4, 5, 6, 7, 9] rfl ?_
                  exact AX12_isCalled_L103 (fun q0 q1 q2 q3 q4 q5 q6 q7 q8 q9 hq => ih q0 q1 q2 q3 q4 q5 q6 q7 q8 hq)  h
              · rw [if_pos hc11] at h
                refine ap_iload dX12_isCalled_85 5 rfl ?_
                refine ap_goto (tgt := 103) dX12_isCalled_87 (by decide) ?_
                refine ap_sub [0, 1, 2, 3, 4, 5, 6, 7, 9] rfl ?_
                exact AX12_isCalled_L103 (fun q0 q1 q2 q3 q4 q5 q6 q7 q8 q9 hq => ih q0 q1 q2 q3 q4 q5 q6 q7 q8 hq)  h
            · rw [if_pos hc10] at h
              refine ap_iload dX12_isCalled_74 4 rfl ?_
              refine ap_goto (tgt := 103) dX12_isCalled_76 (by decide) ?_
              refine ap_sub [0, 1, 2, 3, 4, 5, 6, 7, 9] rfl ?_
              exact AX12_isCalled_L103 (fun q0 q1 q2 q3 q4 q5 q6 q7 q8 q9 hq => ih q0 q1 q2 q3 q4 q5 q6 q7 q8 hq)  h
          · rw [if_pos hc9] at h
            refine ap_iload_n dX12_isCalled_64 3 rfl rfl ?_
            refine ap_goto (tgt := 103) dX12_isCalled_65 (by decide) ?_
            refine ap_sub [0, 1, 2, 3, 4, 5, 6, 7, 9] rfl ?_
            exact AX12_isCalled_L103 (fun q0 q1 q2 q3 q4 q5 q6 q7 q8 q9 hq => ih q0 q1 q2 q3 q4 q5 q6 q7 q8 hq)  h
        · rw [if_pos hc8] at h
          refine ap_iload_n dX12_isCalled_54 2 rfl rfl ?_
          refine ap_goto (tgt := 103) dX12_isCalled_55 (by decide) ?_
          refine ap_sub [0, 1, 2, 3, 4, 5, 6, 7, 9] rfl ?_
          exact AX12_isCalled_L103 (fun q0 q1 q2 q3 q4 q5 q6 q7 q8 q9 hq => ih q0 q1 q2 q3 q4 q5 q6 q7 q8 hq)  h
def fX12_isCalled_L21 (N : Nat) (w : Mm) (x1 : Int32) (x2 : Int32) (x3 : Int32) (x4 : Int32) (x5 : Int32) (x6 : Int32) (x7 : Int32) (t0 : Int32) : Option Int32 :=
fX12_isCalled_L26 N w N x1 x2 x3 x4 x5 x6 x7 t0 (0 : Int32)
set_option maxRecDepth 100000 in
set_option maxHeartbeats 4000000 in
theorem AX12_isCalled_L21 {l : Launch} {K : Kt} {N : Nat} {w : Mm}   {x1 : Int32} {x2 : Int32} {x3 : Int32} {x4 : Int32} {x5 : Int32} {x6 : Int32} {x7 : Int32} {t0 : Int32} {zx : Int32} (h : fX12_isCalled_L21 N w x1 x2 x3 x4 x5 x6 x7 t0 = some zx) : AW l K cX12_isCalled RX12 10 (some .boolean) rmX12_isCalled 0 0 ap_E (ap_F K (some (.int zx)) w) w 21 [(0, .ref (K.1 77)), (1, .int x1), (2, .int x2), (3, .int x3), (4, .int x4), (5, .int x5), (6, .int x6), (7, .int x7)] [.int t0] := by
  unfold fX12_isCalled_L21 at h
  refine ap_istore (i := 8) (lv' := [(8, .int t0), (0, .ref (K.1 77)), (1, .int x1), (2, .int x2), (3, .int x3), (4, .int x4), (5, .int x5), (6, .int x6), (7, .int x7)]) dX12_isCalled_21 (by decide) rfl ?_
  refine ap_iconst (v := 0) dX12_isCalled_23 (by decide) ?_
  refine ap_istore (i := 9) (lv' := [(9, .int (0 : Int32)), (8, .int t0), (0, .ref (K.1 77)), (1, .int x1), (2, .int x2), (3, .int x3), (4, .int x4), (5, .int x5), (6, .int x6), (7, .int x7)]) dX12_isCalled_24 (by decide) rfl ?_
  refine ap_sub [2, 3, 4, 5, 6, 7, 8, 9, 1, 0] rfl ?_
  exact AX12_isCalled_L26  N _ _ _ _ _ _ _ _ _ h
def fX12_isCalled_L20 (N : Nat) (w : Mm) (x1 : Int32) (x2 : Int32) (x3 : Int32) (x4 : Int32) (x5 : Int32) (x6 : Int32) (x7 : Int32) : Option Int32 :=
fX12_isCalled_L21 N w x1 x2 x3 x4 x5 x6 x7 (0 : Int32)
set_option maxRecDepth 100000 in
set_option maxHeartbeats 4000000 in
theorem AX12_isCalled_L20 {l : Launch} {K : Kt} {N : Nat} {w : Mm}   {x1 : Int32} {x2 : Int32} {x3 : Int32} {x4 : Int32} {x5 : Int32} {x6 : Int32} {x7 : Int32} {zx : Int32} (h : fX12_isCalled_L20 N w x1 x2 x3 x4 x5 x6 x7 = some zx) : AW l K cX12_isCalled RX12 10 (some .boolean) rmX12_isCalled 0 0 ap_E (ap_F K (some (.int zx)) w) w 20 [(0, .ref (K.1 77)), (1, .int x1), (2, .int x2), (3, .int x3), (4, .int x4), (5, .int x5), (6, .int x6), (7, .int x7)] [] := by
  unfold fX12_isCalled_L20 at h
  refine ap_iconst (v := 0) dX12_isCalled_20 (by decide) ?_
  exact AX12_isCalled_L21   h
def fX12_isCalled (N : Nat) (w : Mm) (x1 : Int32) (x2 : Int32) (x3 : Int32) (x4 : Int32) (x5 : Int32) (x6 : Int32) (x7 : Int32) : Option Int32 :=
if (w.1 77 19) = (1 : Int32) then (
if (w.1 77 18) = x1 then (
fX12_isCalled_L21 N w x1 x2 x3 x4 x5 x6 x7 (1 : Int32))
else (
fX12_isCalled_L20 N w x1 x2 x3 x4 x5 x6 x7))
else (
fX12_isCalled_L20 N w x1 x2 x3 x4 x5 x6 x7)
set_option maxRecDepth 100000 in
set_option maxHeartbeats 4000000 in
theorem AX12_isCalled {l : Launch} {K : Kt} {N : Nat} {w : Mm}  {x1 : Int32} {x2 : Int32} {x3 : Int32} {x4 : Int32} {x5 : Int32} {x6 : Int32} {x7 : Int32} {zx : Int32} (h : fX12_isCalled N w x1 x2 x3 x4 x5 x6 x7 = some zx) : AW l K cX12_isCalled RX12 10 (some .boolean) rmX12_isCalled 0 0 ap_E (ap_F K (some (.int zx)) w) w 0 [(0, .ref (K.1 77)), (1, .int x1), (2, .int x2), (3, .int x3), (4, .int x4), (5, .int x5), (6, .int x6), (7, .int x7)] [] := by
  unfold fX12_isCalled at h
  refine ap_aload_n dX12_isCalled_0 0 rfl rfl ?_
  refine ap_get (v := .int (w.1 77 19)) fl_X12_249 ly_77 rfl rfl dX12_isCalled_1 ?_
  refine ap_iconst (v := 1) dX12_isCalled_4 (by decide) ?_
  refine ap_icmp_ne (tgt := 20) dX12_isCalled_5 (by decide) (fun hc1 => ?_) (fun hc1 => ?_)
  · rw [if_neg hc1] at h
    exact AX12_isCalled_L20   h
  · rw [if_pos hc1] at h
    refine ap_aload_n dX12_isCalled_8 0 rfl rfl ?_
    refine ap_get (v := .int (w.1 77 18)) fl_X12_246 ly_77 rfl rfl dX12_isCalled_9 ?_
    refine ap_iload_n dX12_isCalled_12 1 rfl rfl ?_
    refine ap_icmp_ne (tgt := 20) dX12_isCalled_13 (by decide) (fun hc2 => ?_) (fun hc2 => ?_)
    · rw [if_neg hc2] at h
      exact AX12_isCalled_L20   h
    · rw [if_pos hc2] at h
      refine ap_iconst (v := 1) dX12_isCalled_16 (by decide) ?_
      refine ap_goto (tgt := 21) dX12_isCalled_17 (by decide) ?_
      exact AX12_isCalled_L21   h
theorem mcX12_isCalled {l : Launch} {K : Kt} {N : Nat} {w : Mm}  {x1 : Int32} {x2 : Int32} {x3 : Int32} {x4 : Int32} {x5 : Int32} {x6 : Int32} {x7 : Int32} {zx : Int32} (h : fX12_isCalled N w x1 x2 x3 x4 x5 x6 x7 = some zx) : MC l K yX12_isCalled cX12_isCalled 10 (some .boolean) rmX12_isCalled w [.ref (K.1 77), .int x1, .int x2, .int x3, .int x4, .int x5, .int x6, .int x7] (some (.int zx)) w :=
  MC.of (by decide) (Nat.le_of_ble_eq_true rfl) rfl (AX12_isCalled  h)

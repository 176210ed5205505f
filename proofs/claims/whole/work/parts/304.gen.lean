def fX8_mix_L170 (N : Nat) (k131 : Int64 → Int32 → Option Int64) (v : Nat) (w : Mm) (x3 : Int64) (x5 : Int32) : Option Int64 :=
Option.bind (rdA w (v + 9) 6 x5) fun a12 =>
k131 (((31 : Int64) * x3) + a12.toInt64) (x5 + 1)
set_option maxRecDepth 100000 in
set_option maxHeartbeats 4000000 in
theorem AX8_mix_L170 {l : Launch} {K : Kt} {N : Nat} {v : Nat} {w : Mm} {k131 : Int64 → Int32 → Option Int64} (hk131 : ∀ (x3 : Int64) (x5 : Int32) (zx : Int64), k131 x3 x5 = some zx → AW l K cX8_mix RX8 6 (some .long) rmX8_mix 0 0 ap_E (ap_F K (some (.long zx)) w) w 131 [(0, .ref (K.1 v)), (3, .long x3), (5, .int x5)] []) (hv : isV v) {x3 : Int64} {x5 : Int32} {zx : Int64} (h : fX8_mix_L170 N k131 v w x3 x5 = some zx) : AW l K cX8_mix RX8 6 (some .long) rmX8_mix 0 0 ap_E (ap_F K (some (.long zx)) w) w 170 [(0, .ref (K.1 v)), (3, .long x3), (5, .int x5)] [] := by
  unfold fX8_mix_L170 at h
  refine ap_ldc2 (v := 31) wd_901 dX8_mix_170 ?_
  refine ap_lload_n dX8_mix_173 1 rfl rfl ?_
  refine ap_lmul dX8_mix_174 ?_
  refine ap_aload_n dX8_mix_175 0 rfl rfl ?_
  refine ap_get (v := .ref (K.1 (v + 9))) fl_X8_52 (lyv_0 hv) rfl rfl dX8_mix_176 ?_
  refine ap_iload dX8_mix_179 2 rfl ?_
  obtain ⟨a12, ha12, h⟩ := Option.bind_eq_some_iff.mp h
  refine ap_iald (lyv_9 hv) ha12 dX8_mix_181 ?_
  refine ap_i2l (v := a12.toInt64) dX8_mix_182 rfl ?_
  refine ap_ladd dX8_mix_183 ?_
  refine ap_lstore_n (i := 3) (lv' := [(3, .long (((31 : Int64) * x3) + a12.toInt64)), (0, .ref (K.1 v)), (5, .int x5)]) dX8_mix_184 rfl (by decide) rfl ?_
  refine ap_iinc (v := x5 + 1) (lv' := [(5, .int (x5 + 1)), (3, .long (((31 : Int64) * x3) + a12.toInt64)), (0, .ref (K.1 v))]) dX8_mix_185 2 rfl rfl (by decide) rfl ?_
  refine ap_goto (tgt := 131) dX8_mix_188 (by decide) ?_
  refine ap_sub [2, 1, 0] rfl ?_
  exact hk131 _ _ _ h
def fX8_mix_L131 (N : Nat) (v : Nat) (w : Mm) : Nat → Int64 → Int32 → Option Int64
  | 0, _, _ => none
  | n0 + 1, x3, x5 => if (w.1 v 10) ≤ x5 then (
some x3)
else (
Option.bind (rdA w (v + 7) 6 x5) fun a10 =>
Option.bind (rdA w (v + 8) 6 x5) fun a11 =>
fX8_mix_L170 N (fX8_mix_L131 N v w n0) v w (((31 : Int64) * (((31 : Int64) * x3) + a10.toInt64)) + a11.toInt64) x5)
set_option maxRecDepth 100000 in
set_option maxHeartbeats 4000000 in
theorem AX8_mix_L131 {l : Launch} {K : Kt} {N : Nat} {v : Nat} {w : Mm}  (hv : isV v) : ∀ (n0 : Nat) (x3 : Int64) (x5 : Int32) {zx : Int64}, fX8_mix_L131 N v w n0 x3 x5 = some zx → AW l K cX8_mix RX8 6 (some .long) rmX8_mix 0 0 ap_E (ap_F K (some (.long zx)) w) w 131 [(0, .ref (K.1 v)), (3, .long x3), (5, .int x5)] [] := by
  intro n0
  induction n0 with
  | zero =>
    intro x3 x5 zx h
    cases h
  | succ n0 ih =>
    intro x3 x5 zx h
    rw [fX8_mix_L131] at h
    refine ap_iload dX8_mix_131 2 rfl ?_
    refine ap_aload_n dX8_mix_133 0 rfl rfl ?_
    refine ap_get (v := .int (w.1 v 10)) fl_X8_43 (lyv_0 hv) rfl rfl dX8_mix_134 ?_
    refine ap_icmp_ge (tgt := 191) dX8_mix_137 (by decide) (fun hc9 => ?_) (fun hc9 => ?_)
    · rw [if_pos hc9] at h
      refine ap_lload_n dX8_mix_191 1 rfl rfl ?_
      obtain rfl := Option.some.inj h
      exact ap_lret rfl dX8_mix_192
    · rw [if_neg hc9] at h
      refine ap_ldc2 (v := 31) wd_901 dX8_mix_140 ?_
      refine ap_lload_n dX8_mix_143 1 rfl rfl ?_
      refine ap_lmul dX8_mix_144 ?_
      refine ap_aload_n dX8_mix_145 0 rfl rfl ?_
      refine ap_get (v := .ref (K.1 (v + 7))) fl_X8_46 (lyv_0 hv) rfl rfl dX8_mix_146 ?_
      refine ap_iload dX8_mix_149 2 rfl ?_
      obtain ⟨a10, ha10, h⟩ := Option.bind_eq_some_iff.mp h
      refine ap_iald (lyv_7 hv) ha10 dX8_mix_151 ?_
      refine ap_i2l (v := a10.toInt64) dX8_mix_152 rfl ?_
      refine ap_ladd dX8_mix_153 ?_
      refine ap_lstore_n (i := 3) (lv' := [(3, .long (((31 : Int64) * x3) + a10.toInt64)), (0, .ref (K.1 v)), (5, .int x5)]) dX8_mix_154 rfl (by decide) rfl ?_
      refine ap_ldc2 (v := 31) wd_901 dX8_mix_155 ?_
      refine ap_lload_n dX8_mix_158 0 rfl rfl ?_
      refine ap_lmul dX8_mix_159 ?_
      refine ap_aload_n dX8_mix_160 1 rfl rfl ?_
      refine ap_get (v := .ref (K.1 (v + 8))) fl_X8_49 (lyv_0 hv) rfl rfl dX8_mix_161 ?_
      refine ap_iload dX8_mix_164 2 rfl ?_
      obtain ⟨a11, ha11, h⟩ := Option.bind_eq_some_iff.mp h
      refine ap_iald (lyv_8 hv) ha11 dX8_mix_166 ?_
      refine ap_i2l (v := a11.toInt64) dX8_mix_167 rfl ?_
      refine ap_ladd dX8_mix_168 ?_
      refine ap_lstore_n (i := 3) (lv' := [(3, .long (((31 : Int64) * (((31 : Int64) * x3) + a10.toInt64)) + a11.toInt64)), (0, .ref (K.1 v)), (5, .int x5)]) dX8_mix_169 rfl (by decide) rfl ?_
      refine ap_sub [1, 0, 2] rfl ?_
      exact AX8_mix_L170 (fun q0 q1 q2 hq => ih q0 q1 hq) hv  h
def fX8_mix_L98 (N : Nat) (v : Nat) (w : Mm) : Nat → Int64 → Int32 → Option Int64
  | 0, _, _ => none
  | n0 + 1, x3, x5 => if (w.1 v 8) ≤ x5 then (
fX8_mix_L131 N v w N x3 (0 : Int32))
else (
Option.bind (rdA w (v + 6) 6 x5) fun a8 =>
(fX8_mix_L98 N v w n0) (((31 : Int64) * x3) + a8.toInt64) (x5 + 1))
set_option maxRecDepth 100000 in
set_option maxHeartbeats 4000000 in
theorem AX8_mix_L98 {l : Launch} {K : Kt} {N : Nat} {v : Nat} {w : Mm}  (hv : isV v) : ∀ (n0 : Nat) (x3 : Int64) (x5 : Int32) {zx : Int64}, fX8_mix_L98 N v w n0 x3 x5 = some zx → AW l K cX8_mix RX8 6 (some .long) rmX8_mix 0 0 ap_E (ap_F K (some (.long zx)) w) w 98 [(0, .ref (K.1 v)), (3, .long x3), (5, .int x5)] [] := by
  intro n0
  induction n0 with
  | zero =>
    intro x3 x5 zx h
    cases h
  | succ n0 ih =>
    intro x3 x5 zx h
    rw [fX8_mix_L98] at h
    refine ap_iload dX8_mix_98 2 rfl ?_
    refine ap_aload_n dX8_mix_100 0 rfl rfl ?_
    refine ap_get (v := .int (w.1 v 8)) fl_X8_37 (lyv_0 hv) rfl rfl dX8_mix_101 ?_
    refine ap_icmp_ge (tgt := 128) dX8_mix_104 (by decide) (fun hc7 => ?_) (fun hc7 => ?_)
    · rw [if_pos hc7] at h
      refine ap_iconst (v := 0) dX8_mix_128 (by decide) ?_
      refine ap_istore (i := 5) (lv' := [(5, .int (0 : Int32)), (0, .ref (K.1 v)), (3, .long x3)]) dX8_mix_129 (by decide) rfl ?_
      refine ap_sub [1, 2, 0] rfl ?_
      exact AX8_mix_L131 hv N _ _ h
    · rw [if_neg hc7] at h
      refine ap_ldc2 (v := 31) wd_901 dX8_mix_107 ?_
      refine ap_lload_n dX8_mix_110 1 rfl rfl ?_
      refine ap_lmul dX8_mix_111 ?_
      refine ap_aload_n dX8_mix_112 0 rfl rfl ?_
      refine ap_get (v := .ref (K.1 (v + 6))) fl_X8_40 (lyv_0 hv) rfl rfl dX8_mix_113 ?_
      refine ap_iload dX8_mix_116 2 rfl ?_
      obtain ⟨a8, ha8, h⟩ := Option.bind_eq_some_iff.mp h
      refine ap_iald (lyv_6 hv) ha8 dX8_mix_118 ?_
      refine ap_i2l (v := a8.toInt64) dX8_mix_119 rfl ?_
      refine ap_ladd dX8_mix_120 ?_
      refine ap_lstore_n (i := 3) (lv' := [(3, .long (((31 : Int64) * x3) + a8.toInt64)), (0, .ref (K.1 v)), (5, .int x5)]) dX8_mix_121 rfl (by decide) rfl ?_
      refine ap_iinc (v := x5 + 1) (lv' := [(5, .int (x5 + 1)), (3, .long (((31 : Int64) * x3) + a8.toInt64)), (0, .ref (K.1 v))]) dX8_mix_122 2 rfl rfl (by decide) rfl ?_
      refine ap_goto (tgt := 98) dX8_mix_125 (by decide) ?_
      refine ap_sub [2, 1, 0] rfl ?_
      exact ih _ _ h
def fX8_mix_L74 (N : Nat) (k5 : Int64 → Int32 → Option Int64) (v : Nat) (w : Mm) (x3 : Int64) (x5 : Int32) : Option Int64 :=
Option.bind (rdA w (v + 5) 7 x5) fun a6 =>
k5 (((31 : Int64) * x3) + a6.toInt64) (x5 + 1)
set_option maxRecDepth 100000 in
set_option maxHeartbeats 4000000 in
theorem AX8_mix_L74 {l : Launch} {K : Kt} {N : Nat} {v : Nat} {w : Mm} {k5 : Int64 → Int32 → Option Int64} (hk5 : ∀ (x3 : Int64) (x5 : Int32) (zx : Int64), k5 x3 x5 = some zx → AW l K cX8_mix RX8 6 (some .long) rmX8_mix 0 0 ap_E (ap_F K (some (.long zx)) w) w 5 [(0, .ref (K.1 v)), (3, .long x3), (5, .int x5)] []) (hv : isV v) {x3 : Int64} {x5 : Int32} {zx : Int64} (h : fX8_mix_L74 N k5 v w x3 x5 = some zx) : AW l K cX8_mix RX8 6 (some .long) rmX8_mix 0 0 ap_E (ap_F K (some (.long zx)) w) w 74 [(0, .ref (K.1 v)), (3, .long x3), (5, .int x5)] [] := by
  unfold fX8_mix_L74 at h
  refine ap_ldc2 (v := 31) wd_901 dX8_mix_74 ?_
  refine ap_lload_n dX8_mix_77 1 rfl rfl ?_
  refine ap_lmul dX8_mix_78 ?_
  refine ap_aload_n dX8_mix_79 0 rfl rfl ?_
  refine ap_get (v := .ref (K.1 (v + 5))) fl_X8_34 (lyv_0 hv) rfl rfl dX8_mix_80 ?_
  refine ap_iload dX8_mix_83 2 rfl ?_
  obtain ⟨a6, ha6, h⟩ := Option.bind_eq_some_iff.mp h
  refine ap_iald (lyv_5 hv) ha6 dX8_mix_85 ?_
  refine ap_i2l (v := a6.toInt64) dX8_mix_86 rfl ?_
  refine ap_ladd dX8_mix_87 ?_
  refine ap_lstore_n (i := 3) (lv' := [(3, .long (((31 : Int64) * x3) + a6.toInt64)), (0, .ref (K.1 v)), (5, .int x5)]) dX8_mix_88 rfl (by decide) rfl ?_
  refine ap_iinc (v := x5 + 1) (lv' := [(5, .int (x5 + 1)), (3, .long (((31 : Int64) * x3) + a6.toInt64)), (0, .ref (K.1 v))]) dX8_mix_89 2 rfl rfl (by decide) rfl ?_
  refine ap_goto (tgt := 5) dX8_mix_92 (by decide) ?_
  refine ap_sub [2, 1, 0] rfl ?_
  exact hk5 _ _ _ h
def fX8_mix_L44 (N : Nat) (k5 : Int64 → Int32 → Option Int64) (v : Nat) (w : Mm) (x3 : Int64) (x5 : Int32) : Option Int64 :=
Option.bind (rdA w (v + 3) 7 x5) fun a4 =>
Option.bind (rdA w (v + 4) 7 x5) fun a5 =>
fX8_mix_L74 N k5 v w (((31 : Int64) * (((31 : Int64) * x3) + a4.toInt64)) + a5.toInt64) x5
set_option maxRecDepth 100000 in
set_option maxHeartbeats 4000000 in
theorem AX8_mix_L44 {l : Launch} {K : Kt} {N : Nat} {v : Nat} {w : Mm} {k5 : Int64 → Int32 → Option Int64} (hk5 : ∀ (x3 : Int64) (x5 : Int32) (zx : Int64), k5 x3 x5 = some zx → AW l K cX8_mix RX8 6 (some .long) rmX8_mix 0 0 ap_E (ap_F K (some (.long zx)) w) w 5 [(0, .ref (K.1 v)), (3, .long x3), (5, .int x5)] []) (hv : isV v) {x3 : Int64} {x5 : Int32} {zx : Int64} (h : fX8_mix_L44 N k5 v w x3 x5 = some zx) : AW l K cX8_mix RX8 6 (some .long) rmX8_mix 0 0 ap_E (ap_F K (some (.long zx)) w) w 44 [(0, .ref (K.1 v)), (3, .long x3), (5, .int x5)] [] := by
  unfold fX8_mix_L44 at h
  refine ap_ldc2 (v := 31) wd_901 dX8_mix_44 ?_
  refine ap_lload_n dX8_mix_47 1 rfl rfl ?_
  refine ap_lmul dX8_mix_48 ?_
  refine ap_aload_n dX8_mix_49 0 rfl rfl ?_
  refine ap_get (v := .ref (K.1 (v + 3))) fl_X8_28 (lyv_0 hv) rfl rfl dX8_mix_50 ?_
  refine ap_iload dX8_mix_53 2 rfl ?_
  obtain ⟨a4, ha4, h⟩ := Option.bind_eq_some_iff.mp h
  refine ap_iald (lyv_3 hv) ha4 dX8_mix_55 ?_
  refine ap_i2l (v := a4.toInt64) dX8_mix_56 rfl ?_
  refine ap_ladd dX8_mix_57 ?_
  refine ap_lstore_n (i := 3) (lv' := [(3, .long (((31 : Int64) * x3) + a4.toInt64)), (0, .ref (K.1 v)), (5, .int x5)]) dX8_mix_58 rfl (by decide) rfl ?_
  refine ap_ldc2 (v := 31) wd_901 dX8_mix_59 ?_
  refine ap_lload_n dX8_mix_62 0 rfl rfl ?_
  refine ap_lmul dX8_mix_63 ?_
  refine ap_aload_n dX8_mix_64 1 rfl rfl ?_
  refine ap_get (v := .ref (K.1 (v + 4))) fl_X8_31 (lyv_0 hv) rfl rfl dX8_mix_65 ?_
  refine ap_iload dX8_mix_68 2 rfl ?_
  obtain ⟨a5, ha5, h⟩ := Option.bind_eq_some_iff.mp h
  refine ap_iald (lyv_4 hv) ha5 dX8_mix_70 ?_
  refine ap_i2l (v := a5.toInt64) dX8_mix_71 rfl ?_
  refine ap_ladd dX8_mix_72 ?_
  refine ap_lstore_n (i := 3) (lv' := [(3, .long (((31 : Int64) * (((31 : Int64) * x3) + a4.toInt64)) + a5.toInt64)), (0, .ref (K.1 v)), (5, .int x5)]) dX8_mix_73 rfl (by decide) rfl ?_
  refine ap_sub [1, 0, 2] rfl ?_
  exact AX8_mix_L74 hk5 hv  h
def fX8_mix_L5 (N : Nat) (v : Nat) (w : Mm) : Nat → Int64 → Int32 → Option Int64
  | 0, _, _ => none
  | n0 + 1, x3, x5 => if (w.1 v 1) ≤ x5 then (
fX8_mix_L98 N v w N x3 (0 : Int32))
else (
Option.bind (rdA w (v + 1) 7 x5) fun a2 =>
Option.bind (rdA w (v + 2) 7 x5) fun a3 =>
fX8_mix_L44 N (fX8_mix_L5 N v w n0) v w (((31 : Int64) * (((31 : Int64) * x3) + a2.toInt64)) + a3.toInt64) x5)
set_option maxRecDepth 100000 in
set_option maxHeartbeats 4000000 in
theorem AX8_mix_L5 {l : Launch} {K : Kt} {N : Nat} {v : Nat} {w : Mm}  (hv : isV v) : ∀ (n0 : Nat) (x3 : Int64) (x5 : Int32) {zx : Int64}, fX8_mix_L5 N v w n0 x3 x5 = some zx → AW l K cX8_mix RX8 6 (some .long) rmX8_mix 0 0 ap_E (ap_F K (some (.long zx)) w) w 5 [(0, .ref (K.1 v)), (3, .long x3), (5, .int x5)] [] := by
  intro n0
  induction n0 with
  | zero =>
    intro x3 x5 zx h
    cases h
  | succ n0 ih =>
    intro x3 x5 zx h
    rw [fX8_mix_L5] at h
    refine ap_iload dX8_mix_5 2 rfl ?_
    refine ap_aload_n dX8_mix_7 0 rfl rfl ?_
    refine ap_get (v := .int (w.1 v 1)) fl_X8_15 (lyv_0 hv) rfl rfl dX8_mix_8 ?_
    refine ap_icmp_ge (tgt := 95) dX8_mix_11 (by decide) (fun hc1 => ?_) (fun hc1 => ?_)
    · rw [if_pos hc1] at h
      refine ap_iconst (v := 0) dX8_mix_95 (by decide) ?_
      refine ap_istore (i := 5) (lv' := [(5, .int (0 : Int32)), (0, .ref (K.1 v)), (3, .long x3)]) dX8_mix_96 (by decide) rfl ?_
      refine ap_sub [1, 2, 0] rfl ?_
      exact AX8_mix_L98 hv N _ _ h
    · rw [if_neg hc1] at h
      refine ap_ldc2 (v := 31) wd_901 dX8_mix_14 ?_
      refine ap_lload_n dX8_mix_17 1 rfl rfl ?_
      refine ap_lmul dX8_mix_18 ?_
      refine ap_aload_n dX8_mix_19 0 rfl rfl ?_
      refine ap_get (v := .ref (K.1 (v + 1))) fl_X8_21 (lyv_0 hv) rfl rfl dX8_mix_20 ?_
      refine ap_iload dX8_mix_23 2 rfl ?_
      obtain ⟨a2, ha2, h⟩ := Option.bind_eq_some_iff.mp h
      refine ap_iald (lyv_1 hv) ha2 dX8_mix_25 ?_
      refine ap_i2l (v := a2.toInt64) dX8_mix_26 rfl ?_
      refine ap_ladd dX8_mix_27 ?_
      refine ap_lstore_n (i := 3) (lv' := [(3, .long (((31 : Int64) * x3) + a2.toInt64)), (0, .ref (K.1 v)), (5, .int x5)]) dX8_mix_28 rfl (by decide) rfl ?_
      refine ap_ldc2 (v := 31) wd_901 dX8_mix_29 ?_
      refine ap_lload_n dX8_mix_32 0 rfl rfl ?_
      refine ap_lmul dX8_mix_33 ?_
      refine ap_aload_n dX8_mix_34 1 rfl rfl ?_
      refine ap_get (v := .ref (K.1 (v + 2))) fl_X8_25 (lyv_0 hv) rfl rfl dX8_mix_35 ?_
      refine ap_iload dX8_mix_38 2 rfl ?_
      obtain ⟨a3, ha3, h⟩ := Option.bind_eq_some_iff.mp h
      refine ap_iald (lyv_2 hv) ha3 dX8_mix_40 ?_
      refine ap_i2l (v := a3.toInt64) dX8_mix_41 rfl ?_
      refine ap_ladd dX8_mix_42 ?_
      refine ap_lstore_n (i := 3) (lv' := [(3, .long (((31 : Int64) * (((31 : Int64) * x3) + a2.toInt64)) + a3.toInt64)), (0, .ref (K.1 v)), (5, .int x5)]) dX8_mix_43 rfl (by decide) rfl ?_
      refine ap_sub [1, 0, 2] rfl ?_
      exact AX8_mix_L44 (fun q0 q1 q2 hq => ih q0 q1 hq) hv  h
def fX8_mix (N : Nat) (v : Nat) (w : Mm) (x1 : Int64) : Option Int64 :=
fX8_mix_L5 N v w N x1 (0 : Int32)
set_option maxRecDepth 100000 in
set_option maxHeartbeats 4000000 in
theorem AX8_mix {l : Launch} {K : Kt} {N : Nat} {v : Nat} {w : Mm} (hv : isV v) {x1 : Int64} {zx : Int64} (h : fX8_mix N v w x1 = some zx) : AW l K cX8_mix RX8 6 (some .long) rmX8_mix 0 0 ap_E (ap_F K (some (.long zx)) w) w 0 [(0, .ref (K.1 v)), (1, .long x1)] [] := by
  unfold fX8_mix at h
  refine ap_lload_n dX8_mix_0 1 rfl rfl ?_
  refine ap_lstore_n (i := 3) (lv' := [(3, .long x1), (0, .ref (K.1 v)), (1, .long x1)]) dX8_mix_1 rfl (by decide) rfl ?_
  refine ap_iconst (v := 0) dX8_mix_2 (by decide) ?_
  refine ap_istore (i := 5) (lv' := [(5, .int (0 : Int32)), (3, .long x1), (0, .ref (K.1 v)), (1, .long x1)]) dX8_mix_3 (by decide) rfl ?_
  refine ap_sub [2, 1, 0] rfl ?_
  exact AX8_mix_L5 hv N _ _ h
theorem mcX8_mix {l : Launch} {K : Kt} {N : Nat} {v : Nat} {w : Mm} (hv : isV v) {x1 : Int64} {zx : Int64} (h : fX8_mix N v w x1 = some zx) : MC l K yX8_mix cX8_mix 6 (some .long) rmX8_mix w [.ref (K.1 v), .long x1] (some (.long zx)) w :=
  MC.of (by decide) (Nat.le_of_ble_eq_true rfl) rfl (AX8_mix hv h)
def fX9_beside (x0 : Int32) (x1 : Int32) : Int32 :=
if x1 = (0 : Int32) then (
if x0 < (8 : Int32) then (
(-1 : Int32))
else (
(x0 - (8 : Int32))))
else if x1 = (1 : Int32) then (
if (x0 - x0 / (8 : Int32) * (8 : Int32)) ≤ (0 : Int32) then (
(-1 : Int32))
else (
(x0 - (1 : Int32))))
else if x1 = (2 : Int32) then (
if (7 : Int32) ≤ (x0 - x0 / (8 : Int32) * (8 : Int32)) then (
(-1 : Int32))
else (
(x0 + (1 : Int32))))
else (
if (56 : Int32) ≤ x0 then (
(-1 : Int32))
else (
(x0 + (8 : Int32))))
set_option maxRecDepth 100000 in
set_option maxHeartbeats 4000000 in
theorem AX9_beside {l : Launch} {K : Kt} {w : Mm}  {x0 : Int32} {x1 : Int32} {zx : Int32} (h : fX9_beside x0 x1 = zx) : AW l K cX9_beside RX9 2 (some .int) rmX9_beside 0 0 ap_E (ap_F K (some (.int zx)) w) w 0 [(0, .int x0), (1, .int x1)] [] := by
  unfold fX9_beside at h
  refine ap_iload_n dX9_beside_0 1 rfl rfl ?_
  by_cases hc1 : x1 = (0 : Int32)
  · rw [if_pos hc1] at h
    refine ap_tabIn (off := 27) (tgt := 28) dX9_beside_1 (by rw [hc1]; decide) (by rw [hc1]; decide) (by rw [hc1]; rfl) (by decide) ?_
    refine ap_iload_n dX9_beside_28 0 rfl rfl ?_
    refine ap_bipush (v := 8) dX9_beside_29 (by decide) ?_
    refine ap_icmp_lt (tgt := 41) dX9_beside_31 (by decide) (fun hc2 => ?_) (fun hc2 => ?_)
    · rw [if_pos hc2] at h
      refine ap_iconst (v := -1) dX9_beside_41 (by decide) ?_
      subst h
      exact ap_iret rfl dX9_beside_42
    · rw [if_neg hc2] at h
      refine ap_iload_n dX9_beside_34 0 rfl rfl ?_
      refine ap_bipush (v := 8) dX9_beside_35 (by decide) ?_
      refine ap_isub dX9_beside_37 ?_
      refine ap_goto (tgt := 42) dX9_beside_38 (by decide) ?_
      subst h
      exact ap_iret rfl dX9_beside_42
  rw [if_neg hc1] at h
  by_cases hc3 : x1 = (1 : Int32)
  · rw [if_pos hc3] at h
    refine ap_tabIn (off := 42) (tgt := 43) dX9_beside_1 (by rw [hc3]; decide) (by rw [hc3]; decide) (by rw [hc3]; rfl) (by decide) ?_
    refine ap_iload_n dX9_beside_43 0 rfl rfl ?_
    refine ap_bipush (v := 8) dX9_beside_44 (by decide) ?_
    refine ap_irem dX9_beside_46 (by decide) ?_
    refine ap_if_le (tgt := 56) dX9_beside_47 (by decide) (fun hc4 => ?_) (fun hc4 => ?_)
    · rw [if_pos hc4] at h
      refine ap_iconst (v := -1) dX9_beside_56 (by decide) ?_
      subst h
      exact ap_iret rfl dX9_beside_57
    · rw [if_neg hc4] at h
      refine ap_iload_n dX9_beside_50 0 rfl rfl ?_
      refine ap_iconst (v := 1) dX9_beside_51 (by decide) ?_
      refine ap_isub dX9_beside_52 ?_
      refine ap_goto (tgt := 57) dX9_beside_53 (by decide) ?_
      subst h
      exact ap_iret rfl dX9_beside_57
  rw [if_neg hc3] at h
  by_cases hc5 : x1 = (2 : Int32)
  · rw [if_pos hc5] at h
    refine ap_tabIn (off := 57) (tgt := 58) dX9_beside_1 (by rw [hc5]; decide) (by rw [hc5]; decide) (by rw [hc5]; rfl) (by decide) ?_
    refine ap_iload_n dX9_beside_58 0 rfl rfl ?_
    refine ap_bipush (v := 8) dX9_beside_59 (by decide) ?_
    refine ap_irem dX9_beside_61 (by decide) ?_
    refine ap_bipush (v := 7) dX9_beside_62 (by decide) ?_
    refine ap_icmp_ge (tgt := 73) dX9_beside_64 (by decide) (fun hc6 => ?_) (fun hc6 => ?_)
    · rw [if_pos hc6] at h
      refine ap_iconst (v := -1) dX9_beside_73 (by decide) ?_
      subst h
      exact ap_iret rfl dX9_beside_74
    · rw [if_neg hc6] at h
      refine ap_iload_n dX9_beside_67 0 rfl rfl ?_
      refine ap_iconst (v := 1) dX9_beside_68 (by decide) ?_
      refine ap_iadd dX9_beside_69 ?_
      refine ap_goto (tgt := 74) dX9_beside_70 (by decide) ?_
      subst h
      exact ap_iret rfl dX9_beside_74
  rw [if_neg hc5] at h
  refine ap_tabOut (tgt := 75) dX9_beside_1 (ap_out (fun z h1 h2 => by
    have h3 : z = 0 ∨ z = 1 ∨ z = 2 := by omega
    rcases h3 with rfl | rfl | rfl
    · exact fun e => hc1 (e.trans (by decide))
    · exact fun e => hc3 (e.trans (by decide))
    · exact fun e => hc5 (e.trans (by decide)))) (by decide) ?_
  refine ap_iload_n dX9_beside_75 0 rfl rfl ?_
  refine ap_bipush (v := 56) dX9_beside_76 (by decide) ?_
  refine ap_icmp_ge (tgt := 88) dX9_beside_78 (by decide) (fun hc7 => ?_) (fun hc7 => ?_)
  · rw [if_pos hc7] at h
    refine ap_iconst (v := -1) dX9_beside_88 (by decide) ?_
    subst h
    exact ap_iret rfl dX9_beside_89
  · rw [if_neg hc7] at h
    refine ap_iload_n dX9_beside_81 0 rfl rfl ?_
    refine ap_bipush (v := 8) dX9_beside_82 (by decide) ?_
    refine ap_iadd dX9_beside_84 ?_
    refine ap_goto (tgt := 89) dX9_beside_85 (by decide) ?_
    subst h
    exact ap_iret rfl dX9_beside_89
theorem mcX9_beside {l : Launch} {K : Kt} {w : Mm}  {x0 : Int32} {x1 : Int32} {zx : Int32} (h : fX9_beside x0 x1 = zx) : MC l K yX9_beside cX9_beside 2 (some .int) rmX9_beside w [.int x0, .int x1] (some (.int zx)) w :=
  MC.of (by decide) (Nat.le_of_ble_eq_true rfl) rfl (AX9_beside  h)
def fX9_spreadFrom_L5 (N : Nat) : Nat → Mm → Int32 → Int32 → Int32 → Option (Int32 × Mm)
  | 0, _, _, _, _ => none
  | n0 + 1, w, x1, x3, x4 => if (4 : Int32) ≤ x4 then (
some (x3, w))
else (
if (fX9_beside x1 x4) = (-1 : Int32) then (
(fX9_spreadFrom_L5 N n0) w x1 x3 (x4 + 1))
else (
if (64 : Int32) ≤ x3 then (
(fX9_spreadFrom_L5 N n0) w x1 x3 (x4 + 1))
else (
Option.bind (rdA w 75 64 (fX9_beside x1 x4)) fun a4 =>
if a4 = (0 : Int32) then (
(fX9_spreadFrom_L5 N n0) w x1 x3 (x4 + 1))
else (
Option.bind (rdA w 74 64 (fX9_beside x1 x4)) fun a6 =>
if a6 = (-1 : Int32) then (
Option.bind (rdA w 74 64 x1) fun a8 =>
Option.bind (wrA w 74 64 (fX9_beside x1 x4) (a8 + (1 : Int32))) fun m9 =>
Option.bind (wrA m9 76 64 x3 (fX9_beside x1 x4)) fun m10 =>
(fX9_spreadFrom_L5 N n0) m10 x1 (x3 + 1) (x4 + 1))
else (
(fX9_spreadFrom_L5 N n0) w x1 x3 (x4 + 1))))))
set_option maxRecDepth 100000 in
set_option maxHeartbeats 4000000 in
theorem AX9_spreadFrom_L5 {l : Launch} {K : Kt} {N : Nat}   : ∀ (n0 : Nat) (w : Mm) (x1 : Int32) (x3 : Int32) (x4 : Int32) {zx : Int32} {zw : Mm}, fX9_spreadFrom_L5 N n0 w x1 x3 x4 = some (zx, zw) → AW l K cX9_spreadFrom RX9 6 (some .int) rmX9_spreadFrom 0 0 ap_E (ap_F K (some (.int zx)) zw) w 5 [(0, .ref (K.1 73)), (1, .int x1), (3, .int x3), (4, .int x4)] [] := by
  intro n0
  induction n0 with
  | zero =>
    intro w x1 x3 x4 zx zw h
    cases h
  | succ n0 ih =>
    intro w x1 x3 x4 zx zw h
    rw [fX9_spreadFrom_L5] at h
    refine ap_iload dX9_spreadFrom_5 3 rfl ?_
    refine ap_iconst (v := 4) dX9_spreadFrom_7 (by decide) ?_
    refine ap_icmp_ge (tgt := 84) dX9_spreadFrom_8 (by decide) (fun hc1 => ?_) (fun hc1 => ?_)
    · rw [if_pos hc1] at h
      refine ap_iload_n dX9_spreadFrom_84 2 rfl rfl ?_
      obtain ⟨rfl, rfl⟩ := Prod.mk.inj (Option.some.inj h)
      exact ap_iret rfl dX9_spreadFrom_85
    · rw [if_neg hc1] at h
      refine ap_iload_n dX9_spreadFrom_11 1 rfl rfl ?_
      refine ap_iload dX9_spreadFrom_12 3 rfl ?_
      refine ap_callS (As := [.int x1, .int x4]) (st := []) (st1 := [.int (fX9_beside x1 x4)]) (mcX9_beside  (w := w) (zx := fX9_beside x1 x4) rfl) cs_X9_45 ⟨rfl, rfl, by decide, by decide⟩ rfl (Nat.le_of_ble_eq_true rfl) ⟨Nat.zero_le _, Nat.zero_le _⟩ dX9_spreadFrom_14 rfl rfl ?_
      refine ap_istore (i := 5) (lv' := [(5, .int (fX9_beside x1 x4)), (0, .ref (K.1 73)), (1, .int x1), (3, .int x3), (4, .int x4)]) dX9_spreadFrom_17 (by decide) rfl ?_
      refine ap_iload dX9_spreadFrom_19 0 rfl ?_
      refine ap_iconst (v := -1) dX9_spreadFrom_21 (by decide) ?_
      refine ap_icmp_eq (tgt := 78) dX9_spreadFrom_22 (by decide) (fun hc2 => ?_) (fun hc2 => ?_)
      · rw [if_pos hc2] at h
        refine ap_iinc (v := x4 + 1) (lv' := [(4, .int (x4 + 1)), (5, .int (fX9_beside x1 x4)), (0, .ref (K.1 73)), (1, .int x1), (3, .int x3)]) dX9_spreadFrom_78 4 rfl rfl (by decide) rfl ?_
        refine ap_goto (tgt := 5) dX9_spreadFrom_81 (by decide) ?_
        refine ap_sub [2, 3, 4, 0] rfl ?_
        exact ih _ _ _ _ h
      · rw [if_neg hc2] at h
        refine ap_iload_n dX9_spreadFrom_25 3 rfl rfl ?_
        refine ap_bipush (v := 64) dX9_spreadFrom_26 (by decide) ?_
        refine ap_icmp_ge (tgt := 78) dX9_spreadFrom_28 (by decide) (fun hc3 => ?_) (fun hc3 => ?_)
        · rw [if_pos hc3] at h
          refine ap_iinc (v := x4 + 1) (lv' := [(4, .int (x4 + 1)), (5, .int (fX9_beside x1 x4)), (0, .ref (K.1 73)), (1, .int x1), (3, .int x3)]) dX9_spreadFrom_78 4 rfl rfl (by decide) rfl ?_
          refine ap_goto (tgt := 5) dX9_spreadFrom_81 (by decide) ?_
          refine ap_sub [2, 3, 4, 0] rfl ?_
          exact ih _ _ _ _ h
        · rw [if_neg hc3] at h
          refine ap_aload_n dX9_spreadFrom_31 1 rfl rfl ?_
          refine ap_get (v := .ref (K.1 75)) fl_X9_15 ly_73 rfl rfl dX9_spreadFrom_32 ?_
          refine ap_iload dX9_spreadFrom_35 0 rfl ?_
          obtain ⟨a4, ha4, h⟩ := Option.bind_eq_some_iff.mp h
          refine ap_zald ly_75 ha4 dX9_spreadFrom_37 ?_
          refine ap_if_eq (tgt := 78) dX9_spreadFrom_38 (by decide) (fun hc5 => ?_) (fun hc5 => ?_)
          · rw [if_pos hc5] at h
            refine ap_iinc (v := x4 + 1) (lv' := [(4, .int (x4 + 1)), (5, .int (fX9_beside x1 x4)), (0, .ref (K.1 73)), (1, .int x1), (3, .int x3)]) dX9_spreadFrom_78 4 rfl rfl (by decide) rfl ?_
            refine ap_goto (tgt := 5) dX9_spreadFrom_81 (by decide) ?_
            refine ap_sub [2, 3, 4, 0] rfl ?_
            exact ih _ _ _ _ h
          · rw [if_neg hc5] at h
            refine ap_aload_n dX9_spreadFrom_41 1 rfl rfl ?_
            refine ap_get (v := .ref (K.1 74)) fl_X9_9 ly_73 rfl rfl dX9_spreadFrom_42 ?_
            refine ap_iload dX9_spreadFrom_45 0 rfl ?_
            obtain ⟨a6, ha6, h⟩ := Option.bind_eq_some_iff.mp h
            refine ap_iald ly_74 ha6 dX9_spreadFrom_47 ?_
            refine ap_iconst (v := -1) dX9_spreadFrom_48 (by decide) ?_
            refine ap_icmp_ne (tgt := 78) dX9_spreadFrom_49 (by decide) (fun hc7 => ?_) (fun hc7 => ?_)
            · rw [if_neg hc7] at h
              refine ap_iinc (v := x4 + 1) (lv' := [(4, .int (x4 + 1)), (5, .int (fX9_beside x1 x4)), (0, .ref (K.1 73)), (1, .int x1), (3, .int x3)]) dX9_spreadFrom_78 4 rfl rfl (by decide) rfl ?_
              refine ap_goto (tgt := 5) dX9_spreadFrom_81 (by decide) ?_
              refine ap_sub [2, 3, 4, 0] rfl ?_
              exact ih _ _ _ _ h
            · rw [if_pos hc7] at h
              refine ap_aload_n dX9_spreadFrom_52 1 rfl rfl ?_
              refine ap_get (v := .ref (K.1 74)) fl_X9_9 ly_73 rfl rfl dX9_spreadFrom_53 ?_
              refine ap_iload dX9_spreadFrom_56 0 rfl ?_
              refine ap_aload_n dX9_spreadFrom_58 1 rfl rfl ?_
              refine ap_get (v := .ref (K.1 74)) fl_X9_9 ly_73 rfl rfl dX9_spreadFrom_59 ?_
              refine ap_iload_n dX9_spreadFrom_62 2 rfl rfl ?_
              obtain ⟨a8, ha8, h⟩ := Option.bind_eq_some_iff.mp h
              refine ap_iald ly_74 ha8 dX9_spreadFrom_63 ?_
              refine ap_iconst (v := 1) dX9_spreadFrom_64 (by decide) ?_
              refine ap_iadd dX9_spreadFrom_65 ?_
              obtain ⟨m9, hm9, h⟩ := Option.bind_eq_some_iff.mp h
              refine ap_iast ly_74 hm9 dX9_spreadFrom_66 ?_
              refine ap_aload_n dX9_spreadFrom_67 1 rfl rfl ?_
              refine ap_get (v := .ref (K.1 76)) fl_X9_19 ly_73 rfl rfl dX9_spreadFrom_68 ?_
              refine ap_iload_n dX9_spreadFrom_71 3 rfl rfl ?_
              refine ap_iload dX9_spreadFrom_72 0 rfl ?_
              obtain ⟨m10, hm10, h⟩ := Option.bind_eq_some_iff.mp h
              refine ap_iast ly_76 hm10 dX9_spreadFrom_74 ?_
              refine ap_iinc (v := x3 + 1) (lv' := [(3, .int (x3 + 1)), (5, .int (fX9_beside x1 x4)), (0, .ref (K.1 73)), (1, .int x1), (4, .int x4)]) dX9_spreadFrom_75 3 rfl rfl (by decide) rfl ?_
              refine ap_iinc (v := x4 + 1) (lv' := [(4, .int (x4 + 1)), (3, .int (x3 + 1)), (5, .int (fX9_beside x1 x4)), (0, .ref (K.1 73)), (1, .int x1)]) dX9_spreadFrom_78 4 rfl rfl (by decide) rfl ?_
              refine ap_goto (tgt := 5) dX9_spreadFrom_81 (by decide) ?_
              refine ap_sub [3, 4, 1, 0] rfl ?_
              exact ih _ _ _ _ h
def fX9_spreadFrom (N : Nat) (w : Mm) (x1 : Int32) (x2 : Int32) : Option (Int32 × Mm) :=
fX9_spreadFrom_L5 N N w x1 x2 (0 : Int32)
set_option maxRecDepth 100000 in
set_option maxHeartbeats 4000000 in
theorem AX9_spreadFrom {l : Launch} {K : Kt} {N : Nat}  {w : Mm} {x1 : Int32} {x2 : Int32} {zx : Int32} {zw : Mm} (h : fX9_spreadFrom N w x1 x2 = some (zx, zw)) : AW l K cX9_spreadFrom RX9 6 (some .int) rmX9_spreadFrom 0 0 ap_E (ap_F K (some (.int zx)) zw) w 0 [(0, .ref (K.1 73)), (1, .int x1), (2, .int x2)] [] := by
  unfold fX9_spreadFrom at h
  refine ap_iload_n dX9_spreadFrom_0 2 rfl rfl ?_
  refine ap_istore_n (i := 3) (lv' := [(3, .int x2), (0, .ref (K.1 73)), (1, .int x1), (2, .int x2)]) dX9_spreadFrom_1 rfl (by decide) rfl ?_
  refine ap_iconst (v := 0) dX9_spreadFrom_2 (by decide) ?_
  refine ap_istore (i := 4) (lv' := [(4, .int (0 : Int32)), (3, .int x2), (0, .ref (K.1 73)), (1, .int x1), (2, .int x2)]) dX9_spreadFrom_3 (by decide) rfl ?_
  refine ap_sub [2, 3, 1, 0] rfl ?_
  exact AX9_spreadFrom_L5  N _ _ _ _ h
theorem mcX9_spreadFrom {l : Launch} {K : Kt} {N : Nat}  {w : Mm} {x1 : Int32} {x2 : Int32} {zx : Int32} {zw : Mm} (h : fX9_spreadFrom N w x1 x2 = some (zx, zw)) : MC l K yX9_spreadFrom cX9_spreadFrom 6 (some .int) rmX9_spreadFrom w [.ref (K.1 73), .int x1, .int x2] (some (.int zx)) zw :=
  MC.of (by decide) (Nat.le_of_ble_eq_true rfl) rfl (AX9_spreadFrom  h)
def fX9_spread_L81 (N : Nat) : Nat → Mm → Int32 → Int32 → Option Mm
  | 0, _, _, _ => none
  | n0 + 1, w, x3, x4 => if x3 ≤ x4 then (
some w)
else (
if (64 : Int32) ≤ x4 then (
some w)
else (
Option.bind (rdA w 76 64 x4) fun a12 =>
ob2 (fX9_spreadFrom N w a12 x3) fun a13 m14 =>
(fX9_spread_L81 N n0) m14 a13 (x4 + 1)))
set_option maxRecDepth 100000 in
set_option maxHeartbeats 4000000 in
theorem AX9_spread_L81 {l : Launch} {K : Kt} {N : Nat}   : ∀ (n0 : Nat) (w : Mm) (x3 : Int32) (x4 : Int32) {zw : Mm}, fX9_spread_L81 N n0 w x3 x4 = some zw → AW l K cX9_spread RX9 5 none rmX9_spread 0 0 ap_E (ap_F K none zw) w 81 [(0, .ref (K.1 73)), (3, .int x3), (4, .int x4)] [] := by
  intro n0
  induction n0 with
  | zero =>
    intro w x3 x4 zw h
    cases h
  | succ n0 ih =>
    intro w x3 x4 zw h
    rw [fX9_spread_L81] at h
    refine ap_iload dX9_spread_81 2 rfl ?_
    refine ap_iload_n dX9_spread_83 1 rfl rfl ?_
    refine ap_icmp_ge (tgt := 113) dX9_spread_84 (by decide) (fun hc10 => ?_) (fun hc10 => ?_)
    · rw [if_pos hc10] at h
      obtain rfl := Option.some.inj h
      exact ap_vret rfl dX9_spread_113
    · rw [if_neg hc10] at h
      refine ap_iload dX9_spread_87 2 rfl ?_
      refine ap_bipush (v := 64) dX9_spread_89 (by decide) ?_
      refine ap_icmp_ge (tgt := 113) dX9_spread_91 (by decide) (fun hc11 => ?_) (fun hc11 => ?_)
      · rw [if_pos hc11] at h
        obtain rfl := Option.some.inj h
        exact ap_vret rfl dX9_spread_113
      · rw [if_neg hc11] at h
        refine ap_aload_n dX9_spread_94 0 rfl rfl ?_
        refine ap_aload_n dX9_spread_95 0 rfl rfl ?_
        refine ap_get (v := .ref (K.1 76)) fl_X9_19 ly_73 rfl rfl dX9_spread_96 ?_
        refine ap_iload dX9_spread_99 2 rfl ?_
        obtain ⟨a12, ha12, h⟩ := Option.bind_eq_some_iff.mp h
        refine ap_iald ly_76 ha12 dX9_spread_101 ?_
        refine ap_iload_n dX9_spread_102 1 rfl rfl ?_
        obtain ⟨a13, m14, ha13, h⟩ := ob2_iff h
        refine ap_callV (k := 73) (As := [.int a12, .int x3]) (st := []) (st1 := [.int a13]) (mcX9_spreadFrom  ha13) cv_X9_42 rfl ly_73 ⟨rfl, rfl, by decide, by decide⟩ rfl (Nat.le_of_ble_eq_true rfl) ⟨Nat.zero_le _, Nat.zero_le _⟩ dX9_spread_103 rfl rfl ?_
        refine ap_istore_n (i := 3) (lv' := [(3, .int a13), (0, .ref (K.1 73)), (4, .int x4)]) dX9_spread_106 rfl (by decide) rfl ?_
        refine ap_iinc (v := x4 + 1) (lv' := [(4, .int (x4 + 1)), (3, .int a13), (0, .ref (K.1 73))]) dX9_spread_107 2 rfl rfl (by decide) rfl ?_
        refine ap_goto (tgt := 81) dX9_spread_110 (by decide) ?_
        refine ap_sub [2, 1, 0] rfl ?_
        exact ih _ _ _ h
def fX9_spread_L78 (N : Nat) (w : Mm) (x3 : Int32) : Option Mm :=
fX9_spread_L81 N N w x3 (0 : Int32)
set_option maxRecDepth 100000 in
set_option maxHeartbeats 4000000 in
theorem AX9_spread_L78 {l : Launch} {K : Kt} {N : Nat}   {w : Mm} {x3 : Int32} {zw : Mm} (h : fX9_spread_L78 N w x3 = some zw) : AW l K cX9_spread RX9 5 none rmX9_spread 0 0 ap_E (ap_F K none zw) w 78 [(0, .ref (K.1 73)), (3, .int x3)] [] := by
  unfold fX9_spread_L78 at h
  refine ap_iconst (v := 0) dX9_spread_78 (by decide) ?_
  refine ap_istore (i := 4) (lv' := [(4, .int (0 : Int32)), (0, .ref (K.1 73)), (3, .int x3)]) dX9_spread_79 (by decide) rfl ?_
  refine ap_sub [1, 2, 0] rfl ?_
  exact AX9_spread_L81  N _ _ _ h
def fX9_spread_L44 (N : Nat) (k2 : Mm → Int32 → Int32 → Int32 → Option Mm) (w : Mm) (x1 : Int32) (x2 : Int32) (x3 : Int32) (t0 : Int32) (t1 : Int32) : Option Mm :=
Option.bind (wrA w 75 64 t1 (vp_nar .boolean t0)) fun m9 =>
k2 m9 x1 x2 (x3 + 1)
set_option maxRecDepth 100000 in
set_option maxHeartbeats 4000000 in
theorem AX9_spread_L44 {l : Launch} {K : Kt} {N : Nat} {k2 : Mm → Int32 → Int32 → Int32 → Option Mm} (hk2 : ∀ (w : Mm) (x1 : Int32) (x2 : Int32) (x3 : Int32) (zw : Mm), k2 w x1 x2 x3 = some zw → AW l K cX9_spread RX9 5 none rmX9_spread 0 0 ap_E (ap_F K none zw) w 2 [(0, .ref (K.1 73)), (1, .int x1), (2, .int x2), (3, .int x3)] [])  {w : Mm} {x1 : Int32} {x2 : Int32} {x3 : Int32} {t0 : Int32} {t1 : Int32} {zw : Mm} (h : fX9_spread_L44 N k2 w x1 x2 x3 t0 t1 = some zw) : AW l K cX9_spread RX9 5 none rmX9_spread 0 0 ap_E (ap_F K none zw) w 44 [(0, .ref (K.1 73)), (1, .int x1), (2, .int x2), (3, .int x3)] [.int t0, .int t1, .ref (K.1 75)] := by
  unfold fX9_spread_L44 at h
  obtain ⟨m9, hm9, h⟩ := Option.bind_eq_some_iff.mp h
  refine ap_zast ly_75 hm9 dX9_spread_44 ?_
  refine ap_iinc (v := x3 + 1) (lv' := [(3, .int (x3 + 1)), (0, .ref (K.1 73)), (1, .int x1), (2, .int x2)]) dX9_spread_45 3 rfl rfl (by decide) rfl ?_
  refine ap_goto (tgt := 2) dX9_spread_48 (by decide) ?_
  refine ap_sub [1, 2, 3, 0] rfl ?_
  exact hk2 _ _ _ _ _ h
def fX9_spread_L2 (N : Nat) : Nat → Mm → Int32 → Int32 → Int32 → Option Mm
  | 0, _, _, _, _ => none
  | n0 + 1, w, x1, x2, x3 => if (64 : Int32) ≤ x3 then (
Option.bind (rdA w 75 64 x1) fun a2 =>
if a2 = (0 : Int32) then (
fX9_spread_L78 N w (0 : Int32))
else (
Option.bind (wrA w 74 64 x1 (0 : Int32)) fun m4 =>
Option.bind (some (sI m4 76 0 x1)) fun m5 =>
fX9_spread_L78 N m5 (1 : Int32)))
else (
Option.bind (wrA w 74 64 x3 (-1 : Int32)) fun m6 =>
Option.bind (fX3_strongest N m6 x3 (m6.1 1 2)) fun a7 =>
if x2 ≤ a7 then (
fX9_spread_L44 N (fX9_spread_L2 N n0) m6 x1 x2 x3 (0 : Int32) x3)
else (
fX9_spread_L44 N (fX9_spread_L2 N n0) m6 x1 x2 x3 (1 : Int32) x3))
set_option maxRecDepth 100000 in
set_option maxHeartbeats 4000000 in
theorem AX9_spread_L2 {l : Launch} {K : Kt} {N : Nat}   : ∀ (n0 : Nat) (w : Mm) (x1 : Int32) (x2 : Int32) (x3 : Int32) {zw : Mm}, fX9_spread_L2 N n0 w x1 x2 x3 = some zw → AW l K cX9_spread RX9 5 none rmX9_spread 0 0 ap_E (ap_F K none zw) w 2 [(0, .ref (K.1 73)), (1, .int x1), (2, .int x2), (3, .int x3)] [] := by
  intro n0
  induction n0 with
  | zero =>
    intro w x1 x2 x3 zw h
    cases h
  | succ n0 ih =>
    intro w x1 x2 x3 zw h
    rw [fX9_spread_L2] at h
    refine ap_iload_n dX9_spread_2 3 rfl rfl ?_
    refine ap_bipush (v := 64) dX9_spread_3 (by decide) ?_
    refine ap_icmp_ge (tgt := 51) dX9_spread_5 (by decide) (fun hc1 => ?_) (fun hc1 => ?_)
    · rw [if_pos hc1] at h
      refine ap_iconst (v := 0) dX9_spread_51 (by decide) ?_
      refine ap_istore_n (i := 3) (lv' := [(3, .int (0 : Int32)), (0, .ref (K.1 73)), (1, .int x1), (2, .int x2)]) dX9_spread_52 rfl (by decide) rfl ?_
      refine ap_aload_n dX9_spread_53 1 rfl rfl ?_
      refine ap_get (v := .ref (K.1 75)) fl_X9_15 ly_73 rfl rfl dX9_spread_54 ?_
      refine ap_iload_n dX9_spread_57 2 rfl rfl ?_
      obtain ⟨a2, ha2, h⟩ := Option.bind_eq_some_iff.mp h
      refine ap_zald ly_75 ha2 dX9_spread_58 ?_
      refine ap_if_eq (tgt := 78) dX9_spread_59 (by decide) (fun hc3 => ?_) (fun hc3 => ?_)
      · rw [if_pos hc3] at h
        refine ap_sub [1, 0] rfl ?_
        exact AX9_spread_L78   h
      · rw [if_neg hc3] at h
        refine ap_aload_n dX9_spread_62 1 rfl rfl ?_
        refine ap_get (v := .ref (K.1 74)) fl_X9_9 ly_73 rfl rfl dX9_spread_63 ?_
        refine ap_iload_n dX9_spread_66 2 rfl rfl ?_
        refine ap_iconst (v := 0) dX9_spread_67 (by decide) ?_
        obtain ⟨m4, hm4, h⟩ := Option.bind_eq_some_iff.mp h
        refine ap_iast ly_74 hm4 dX9_spread_68 ?_
        refine ap_aload_n dX9_spread_69 1 rfl rfl ?_
        refine ap_get (v := .ref (K.1 76)) fl_X9_19 ly_73 rfl rfl dX9_spread_70 ?_
        refine ap_iconst (v := 0) dX9_spread_73 (by decide) ?_
        refine ap_iload_n dX9_spread_74 2 rfl rfl ?_
        obtain ⟨m5, hm5, h⟩ := Option.bind_eq_some_iff.mp h
        refine ap_iast ly_76 ((wrA_c (by decide) (by decide)).trans hm5) dX9_spread_75 ?_
        refine ap_iconst (v := 1) dX9_spread_76 (by decide) ?_
        refine ap_istore_n (i := 3) (lv' := [(3, .int (1 : Int32)), (0, .ref (K.1 73)), (1, .int x1), (2, .int x2)]) dX9_spread_77 rfl (by decide) rfl ?_
        refine ap_sub [1, 0] rfl ?_
        exact AX9_spread_L78   h
    · rw [if_neg hc1] at h
      refine ap_aload_n dX9_spread_8 0 rfl rfl ?_
      refine ap_get (v := .ref (K.1 74)) fl_X9_9 ly_73 rfl rfl dX9_spread_9 ?_
      refine ap_iload_n dX9_spread_12 3 rfl rfl ?_
      refine ap_iconst (v := -1) dX9_spread_13 (by decide) ?_
      obtain ⟨m6, hm6, h⟩ := Option.bind_eq_some_iff.mp h
      refine ap_iast ly_74 hm6 dX9_spread_14 ?_
      refine ap_aload_n dX9_spread_15 0 rfl rfl ?_
      refine ap_get (v := .ref (K.1 75)) fl_X9_15 ly_73 rfl rfl dX9_spread_16 ?_
      refine ap_iload_n dX9_spread_19 3 rfl rfl ?_
      refine ap_aload_n dX9_spread_20 0 rfl rfl ?_
      refine ap_get (v := .ref (K.1 53)) fl_X9_26 ly_73 rfl rfl dX9_spread_21 ?_
      refine ap_iload_n dX9_spread_24 3 rfl rfl ?_
      refine ap_aload_n dX9_spread_25 0 rfl rfl ?_
      refine ap_get (v := .ref (K.1 1)) fl_X9_22 ly_73 rfl rfl dX9_spread_26 ?_
      refine ap_get (v := .int (m6.1 1 2)) fl_X9_30 ly_1 rfl rfl dX9_spread_29 ?_
      obtain ⟨a7, ha7, h⟩ := Option.bind_eq_some_iff.mp h
      refine ap_callV (k := 53) (As := [.int x3, .int (m6.1 1 2)]) (st := [.int x3, .ref (K.1 75)]) (st1 := [.int a7, .int x3, .ref (K.1 75)]) (mcX3_strongest  (w := m6) ha7) cv_X9_36 rfl ly_53 ⟨rfl, rfl, by decide, by decide⟩ rfl (Nat.le_of_ble_eq_true rfl) ⟨Nat.zero_le _, Nat.zero_le _⟩ dX9_spread_32 rfl rfl ?_
      refine ap_iload_n dX9_spread_35 2 rfl rfl ?_
      refine ap_icmp_ge (tgt := 43) dX9_spread_36 (by decide) (fun hc8 => ?_) (fun hc8 => ?_)
      · rw [if_pos hc8] at h
        refine ap_iconst (v := 0) dX9_spread_43 (by decide) ?_
        exact AX9_spread_L44 (fun q0 q1 q2 q3 q4 hq => ih q0 q1 q2 q3 hq)  h
      · rw [if_neg hc8] at h
        refine ap_iconst (v := 1) dX9_spread_39 (by decide) ?_
        refine ap_goto (tgt := 44) dX9_spread_40 (by decide) ?_
        exact AX9_spread_L44 (fun q0 q1 q2 q3 q4 hq => ih q0 q1 q2 q3 hq)  h
def fX9_spread (N : Nat) (w : Mm) (x1 : Int32) (x2 : Int32) : Option Mm :=
fX9_spread_L2 N N w x1 x2 (0 : Int32)
set_option maxRecDepth 100000 in
set_option maxHeartbeats 4000000 in
theorem AX9_spread {l : Launch} {K : Kt} {N : Nat}  {w : Mm} {x1 : Int32} {x2 : Int32} {zw : Mm} (h : fX9_spread N w x1 x2 = some zw) : AW l K cX9_spread RX9 5 none rmX9_spread 0 0 ap_E (ap_F K none zw) w 0 [(0, .ref (K.1 73)), (1, .int x1), (2, .int x2)] [] := by
  unfold fX9_spread at h
  refine ap_iconst (v := 0) dX9_spread_0 (by decide) ?_
  refine ap_istore_n (i := 3) (lv' := [(3, .int (0 : Int32)), (0, .ref (K.1 73)), (1, .int x1), (2, .int x2)]) dX9_spread_1 rfl (by decide) rfl ?_
  refine ap_sub [1, 2, 3, 0] rfl ?_
  exact AX9_spread_L2  N _ _ _ _ h
theorem mcX9_spread {l : Launch} {K : Kt} {N : Nat}  {w : Mm} {x1 : Int32} {x2 : Int32} {zw : Mm} (h : fX9_spread N w x1 x2 = some zw) : MC l K yX9_spread cX9_spread 5 none rmX9_spread w [.ref (K.1 73), .int x1, .int x2] none zw :=
  MC.of (by decide) (Nat.le_of_ble_eq_true rfl) rfl (AX9_spread  h)
def fX9_stepsFrom (w : Mm) (x1 : Int32) : Option Int32 :=
Option.bind (rdA w 74 64 x1) fun a1 =>
some a1
set_option maxRecDepth 100000 in
set_option maxHeartbeats 4000000 in
theorem AX9_stepsFrom {l : Launch} {K : Kt} {w : Mm}  {x1 : Int32} {zx : Int32} (h : fX9_stepsFrom w x1 = some zx) : AW l K cX9_stepsFrom RX9 2 (some .int) rmX9_stepsFrom 0 0 ap_E (ap_F K (some (.int zx)) w) w 0 [(0, .ref (K.1 73)), (1, .int x1)] [] := by
  unfold fX9_stepsFrom at h
  refine ap_aload_n dX9_stepsFrom_0 0 rfl rfl ?_
  refine ap_get (v := .ref (K.1 74)) fl_X9_9 ly_73 rfl rfl dX9_stepsFrom_1 ?_
  refine ap_iload_n dX9_stepsFrom_4 1 rfl rfl ?_
  obtain ⟨a1, ha1, h⟩ := Option.bind_eq_some_iff.mp h
  refine ap_iald ly_74 ha1 dX9_stepsFrom_5 ?_
  obtain rfl := Option.some.inj h
  exact ap_iret rfl dX9_stepsFrom_6
theorem mcX9_stepsFrom {l : Launch} {K : Kt} {w : Mm}  {x1 : Int32} {zx : Int32} (h : fX9_stepsFrom w x1 = some zx) : MC l K yX9_stepsFrom cX9_stepsFrom 2 (some .int) rmX9_stepsFrom w [.ref (K.1 73), .int x1] (some (.int zx)) w :=
  MC.of (by decide) (Nat.le_of_ble_eq_true rfl) rfl (AX9_stepsFrom  h)
def fX9_firstBehind_L26 (N : Nat) (w : Mm) : Nat → Int32 → Int32 → Option Int32
  | 0, _, _ => none
  | n0 + 1, x1, x2 => if (4 : Int32) ≤ x2 then (
some (-1 : Int32))
else (
if (fX9_beside x1 x2) = (-1 : Int32) then (
(fX9_firstBehind_L26 N w n0) x1 (x2 + 1))
else (
Option.bind (rdA w 74 64 (fX9_beside x1 x2)) fun a7 =>
Option.bind (rdA w 74 64 x1) fun a8 =>
if a7 = (a8 - (1 : Int32)) then (
some (fX9_beside x1 x2))
else (
(fX9_firstBehind_L26 N w n0) x1 (x2 + 1))))
set_option maxRecDepth 100000 in
set_option maxHeartbeats 4000000 in
theorem AX9_firstBehind_L26 {l : Launch} {K : Kt} {N : Nat} {w : Mm}   : ∀ (n0 : Nat) (x1 : Int32) (x2 : Int32) {zx : Int32}, fX9_firstBehind_L26 N w n0 x1 x2 = some zx → AW l K cX9_firstBehind RX9 4 (some .int) rmX9_firstBehind 0 0 ap_E (ap_F K (some (.int zx)) w) w 26 [(0, .ref (K.1 73)), (1, .int x1), (2, .int x2)] [] := by
  intro n0
  induction n0 with
  | zero =>
    intro x1 x2 zx h
    cases h
  | succ n0 ih =>
    intro x1 x2 zx h
    rw [fX9_firstBehind_L26] at h
    refine ap_iload_n dX9_firstBehind_26 2 rfl rfl ?_
    refine ap_iconst (v := 4) dX9_firstBehind_27 (by decide) ?_
    refine ap_icmp_ge (tgt := 67) dX9_firstBehind_28 (by decide) (fun hc5 => ?_) (fun hc5 => ?_)
    · rw [if_pos hc5] at h
      refine ap_iconst (v := -1) dX9_firstBehind_67 (by decide) ?_
      obtain rfl := Option.some.inj h
      exact ap_iret rfl dX9_firstBehind_68
    · rw [if_neg hc5] at h
      refine ap_iload_n dX9_firstBehind_31 1 rfl rfl ?_
      refine ap_iload_n dX9_firstBehind_32 2 rfl rfl ?_
      refine ap_callS (As := [.int x1, .int x2]) (st := []) (st1 := [.int (fX9_beside x1 x2)]) (mcX9_beside  (w := w) (zx := fX9_beside x1 x2) rfl) cs_X9_45 ⟨rfl, rfl, by decide, by decide⟩ rfl (Nat.le_of_ble_eq_true rfl) ⟨Nat.zero_le _, Nat.zero_le _⟩ dX9_firstBehind_33 rfl rfl ?_
      refine ap_istore_n (i := 3) (lv' := [(3, .int (fX9_beside x1 x2)), (0, .ref (K.1 73)), (1, .int x1), (2, .int x2)]) dX9_firstBehind_36 rfl (by decide) rfl ?_
      refine ap_iload_n dX9_firstBehind_37 0 rfl rfl ?_
      refine ap_iconst (v := -1) dX9_firstBehind_38 (by decide) ?_
      refine ap_icmp_eq (tgt := 61) dX9_firstBehind_39 (by decide) (fun hc6 => ?_) (fun hc6 => ?_)
      · rw [if_pos hc6] at h
        refine ap_iinc (v := x2 + 1) (lv' := [(2, .int (x2 + 1)), (3, .int (fX9_beside x1 x2)), (0, .ref (K.1 73)), (1, .int x1)]) dX9_firstBehind_61 3 rfl rfl (by decide) rfl ?_
        refine ap_goto (tgt := 26) dX9_firstBehind_64 (by decide) ?_
        refine ap_sub [2, 3, 0] rfl ?_
        exact ih _ _ h
      · rw [if_neg hc6] at h
        refine ap_aload_n dX9_firstBehind_42 1 rfl rfl ?_
        refine ap_get (v := .ref (K.1 74)) fl_X9_9 ly_73 rfl rfl dX9_firstBehind_43 ?_
        refine ap_iload_n dX9_firstBehind_46 0 rfl rfl ?_
        obtain ⟨a7, ha7, h⟩ := Option.bind_eq_some_iff.mp h
        refine ap_iald ly_74 ha7 dX9_firstBehind_47 ?_
        refine ap_aload_n dX9_firstBehind_48 1 rfl rfl ?_
        refine ap_get (v := .ref (K.1 74)) fl_X9_9 ly_73 rfl rfl dX9_firstBehind_49 ?_
        refine ap_iload_n dX9_firstBehind_52 2 rfl rfl ?_
        obtain ⟨a8, ha8, h⟩ := Option.bind_eq_some_iff.mp h
        refine ap_iald ly_74 ha8 dX9_firstBehind_53 ?_
        refine ap_iconst (v := 1) dX9_firstBehind_54 (by decide) ?_
        refine ap_isub dX9_firstBehind_55 ?_
        refine ap_icmp_ne (tgt := 61) dX9_firstBehind_56 (by decide) (fun hc9 => ?_) (fun hc9 => ?_)
        · rw [if_neg hc9] at h
          refine ap_iinc (v := x2 + 1) (lv' := [(2, .int (x2 + 1)), (3, .int (fX9_beside x1 x2)), (0, .ref (K.1 73)), (1, .int x1)]) dX9_firstBehind_61 3 rfl rfl (by decide) rfl ?_
          refine ap_goto (tgt := 26) dX9_firstBehind_64 (by decide) ?_
          refine ap_sub [2, 3, 0] rfl ?_
          exact ih _ _ h
        · rw [if_pos hc9] at h
          refine ap_iload_n dX9_firstBehind_59 0 rfl rfl ?_
          obtain rfl := Option.some.inj h
          exact ap_iret rfl dX9_firstBehind_60
def fX9_firstBehind (N : Nat) (w : Mm) (x1 : Int32) : Option Int32 :=
Option.bind (rdA w 74 64 x1) fun a1 =>
if (0 : Int32) < a1 then (
fX9_firstBehind_L26 N w N x1 (0 : Int32))
else (
Option.bind (rdA w 74 64 x1) fun a3 =>
if a3 = (0 : Int32) then (
some x1)
else (
some (-1 : Int32)))
set_option maxRecDepth 100000 in
set_option maxHeartbeats 4000000 in
theorem AX9_firstBehind {l : Launch} {K : Kt} {N : Nat} {w : Mm}  {x1 : Int32} {zx : Int32} (h : fX9_firstBehind N w x1 = some zx) : AW l K cX9_firstBehind RX9 4 (some .int) rmX9_firstBehind 0 0 ap_E (ap_F K (some (.int zx)) w) w 0 [(0, .ref (K.1 73)), (1, .int x1)] [] := by
  unfold fX9_firstBehind at h
  refine ap_aload_n dX9_firstBehind_0 0 rfl rfl ?_
  refine ap_get (v := .ref (K.1 74)) fl_X9_9 ly_73 rfl rfl dX9_firstBehind_1 ?_
  refine ap_iload_n dX9_firstBehind_4 1 rfl rfl ?_
  obtain ⟨a1, ha1, h⟩ := Option.bind_eq_some_iff.mp h
  refine ap_iald ly_74 ha1 dX9_firstBehind_5 ?_
  refine ap_if_gt (tgt := 24) dX9_firstBehind_6 (by decide) (fun hc2 => ?_) (fun hc2 => ?_)
  · rw [if_pos hc2] at h
    refine ap_iconst (v := 0) dX9_firstBehind_24 (by decide) ?_
    refine ap_istore_n (i := 2) (lv' := [(2, .int (0 : Int32)), (0, .ref (K.1 73)), (1, .int x1)]) dX9_firstBehind_25 rfl (by decide) rfl ?_
    refine ap_sub [1, 2, 0] rfl ?_
    exact AX9_firstBehind_L26  N _ _ h
  · rw [if_neg hc2] at h
    refine ap_aload_n dX9_firstBehind_9 0 rfl rfl ?_
    refine ap_get (v := .ref (K.1 74)) fl_X9_9 ly_73 rfl rfl dX9_firstBehind_10 ?_
    refine ap_iload_n dX9_firstBehind_13 1 rfl rfl ?_
    obtain ⟨a3, ha3, h⟩ := Option.bind_eq_some_iff.mp h
    refine ap_iald ly_74 ha3 dX9_firstBehind_14 ?_
    refine ap_if_ne (tgt := 22) dX9_firstBehind_15 (by decide) (fun hc4 => ?_) (fun hc4 => ?_)
    · rw [if_neg hc4] at h
      refine ap_iconst (v := -1) dX9_firstBehind_22 (by decide) ?_
      obtain rfl := Option.some.inj h
      exact ap_iret rfl dX9_firstBehind_23
    · rw [if_pos hc4] at h
      refine ap_iload_n dX9_firstBehind_18 1 rfl rfl ?_
      refine ap_goto (tgt := 23) dX9_firstBehind_19 (by decide) ?_
      obtain rfl := Option.some.inj h
      exact ap_iret rfl dX9_firstBehind_23
theorem mcX9_firstBehind {l : Launch} {K : Kt} {N : Nat} {w : Mm}  {x1 : Int32} {zx : Int32} (h : fX9_firstBehind N w x1 = some zx) : MC l K yX9_firstBehind cX9_firstBehind 4 (some .int) rmX9_firstBehind w [.ref (K.1 73), .int x1] (some (.int zx)) w :=
  MC.of (by decide) (Nat.le_of_ble_eq_true rfl) rfl (AX9_firstBehind  h)
def fX11_bad (w : Mm) (x1 : Int32) : (Int32 × Mm) :=
(x1, (sI w 0 9 ((w.1 0 9) + (1 : Int32))))
set_option maxRecDepth 100000 in
set_option maxHeartbeats 4000000 in
theorem AX11_bad {l : Launch} {K : Kt}  {w : Mm} {x1 : Int32} {zx : Int32} {zw : Mm} (h : fX11_bad w x1 = (zx, zw)) : AW l K cX11_bad RX11 2 (some .int) rmX11_bad 0 0 ap_E (ap_F K (some (.int zx)) zw) w 0 [(0, .ref (K.1 0)), (1, .int x1)] [] := by
  unfold fX11_bad at h
  refine ap_aload_n dX11_bad_0 0 rfl rfl ?_
  refine ap_dup dX11_bad_1 rfl ?_
  refine ap_get (v := .int (w.1 0 9)) fl_X11_63 ly_0 rfl rfl dX11_bad_2 ?_
  refine ap_iconst (v := 1) dX11_bad_5 (by decide) ?_
  refine ap_iadd dX11_bad_6 ?_
  refine ap_putI (w1 := sI w 0 9 ((w.1 0 9) + (1 : Int32))) fp_X11_63 ly_0 rfl rfl dX11_bad_7 ?_
  refine ap_iload_n dX11_bad_10 1 rfl rfl ?_
  obtain ⟨rfl, rfl⟩ := Prod.mk.inj h
  exact ap_iret rfl dX11_bad_11
theorem mcX11_bad {l : Launch} {K : Kt}  {w : Mm} {x1 : Int32} {zx : Int32} {zw : Mm} (h : fX11_bad w x1 = (zx, zw)) : MC l K yX11_bad cX11_bad 2 (some .int) rmX11_bad w [.ref (K.1 0), .int x1] (some (.int zx)) zw :=
  MC.of (by decide) (Nat.le_of_ble_eq_true rfl) rfl (AX11_bad  h)
def fX11_valley (w : Mm) (x1 : Int32) : (Int32 × Mm) :=
if (fX11_within x1 (0 : Int32) (9 : Int32)) = (0 : Int32) then (
((fX11_bad w (-2 : Int32)).1, (fX11_bad w (-2 : Int32)).2))
else (
((w.1 1 1), (fX8_startAnew 1 w x1)))
set_option maxRecDepth 100000 in
set_option maxHeartbeats 4000000 in
theorem AX11_valley {l : Launch} {K : Kt}  {w : Mm} {x1 : Int32} {zx : Int32} {zw : Mm} (h : fX11_valley w x1 = (zx, zw)) : AW l K cX11_valley RX11 3 (some .int) rmX11_valley 0 0 ap_E (ap_F K (some (.int zx)) zw) w 0 [(0, .ref (K.1 0)), (1, .int x1)] [] := by
  unfold fX11_valley at h
  refine ap_iload_n dX11_valley_0 1 rfl rfl ?_
  refine ap_iconst (v := 0) dX11_valley_1 (by decide) ?_
  refine ap_bipush (v := 9) dX11_valley_2 (by decide) ?_
  refine ap_callS (As := [.int x1, .int (0 : Int32), .int (9 : Int32)]) (st := []) (st1 := [.int (fX11_within x1 (0 : Int32) (9 : Int32))]) (mcX11_within  (w := w) (zx := fX11_within x1 (0 : Int32) (9 : Int32)) rfl) cs_X11_73 ⟨rfl, rfl, by decide, by decide⟩ rfl (Nat.le_of_ble_eq_true rfl) ⟨Nat.zero_le _, Nat.zero_le _⟩ dX11_valley_4 rfl rfl ?_
  refine ap_if_ne (tgt := 17) dX11_valley_7 (by decide) (fun hc1 => ?_) (fun hc1 => ?_)
  · rw [if_neg hc1] at h
    refine ap_aload_n dX11_valley_17 0 rfl rfl ?_
    refine ap_get (v := .ref (K.1 1)) fl_X11_12 ly_0 rfl rfl dX11_valley_18 ?_
    refine ap_get (v := .int (w.1 1 1)) fl_X11_81 ly_1 rfl rfl dX11_valley_21 ?_
    refine ap_istore_n (i := 2) (lv' := [(2, .int (w.1 1 1)), (0, .ref (K.1 0)), (1, .int x1)]) dX11_valley_24 rfl (by decide) rfl ?_
    refine ap_aload_n dX11_valley_25 1 rfl rfl ?_
    refine ap_get (v := .ref (K.1 1)) fl_X11_12 ly_0 rfl rfl dX11_valley_26 ?_
    refine ap_iload_n dX11_valley_29 2 rfl rfl ?_
    refine ap_callV (k := 1) (As := [.int x1]) (st := []) (st1 := []) (mcX8_startAnew isV_1 (zw := fX8_startAnew 1 w x1) rfl) cv_X11_84 rfl ly_1 ⟨rfl, rfl, by decide, by decide⟩ rfl (Nat.le_of_ble_eq_true rfl) ⟨Nat.zero_le _, Nat.zero_le _⟩ dX11_valley_30 rfl rfl ?_
    refine ap_iload_n dX11_valley_33 0 rfl rfl ?_
    obtain ⟨rfl, rfl⟩ := Prod.mk.inj h
    exact ap_iret rfl dX11_valley_34
  · rw [if_pos hc1] at h
    refine ap_aload_n dX11_valley_10 0 rfl rfl ?_
    refine ap_bipush (v := -2) dX11_valley_11 (by decide) ?_
    refine ap_callV (k := 0) (As := [.int (-2 : Int32)]) (st := []) (st1 := [.int ((fX11_bad w (-2 : Int32)).1)]) (mcX11_bad  (zx := (fX11_bad w (-2 : Int32)).1) (zw := (fX11_bad w (-2 : Int32)).2) rfl) cv_X11_77 rfl ly_0 ⟨rfl, rfl, by decide, by decide⟩ rfl (Nat.le_of_ble_eq_true rfl) ⟨Nat.zero_le _, Nat.zero_le _⟩ dX11_valley_13 rfl rfl ?_
    obtain ⟨rfl, rfl⟩ := Prod.mk.inj h
    exact ap_iret rfl dX11_valley_16
theorem mcX11_valley {l : Launch} {K : Kt}  {w : Mm} {x1 : Int32} {zx : Int32} {zw : Mm} (h : fX11_valley w x1 = (zx, zw)) : MC l K yX11_valley cX11_valley 3 (some .int) rmX11_valley w [.ref (K.1 0), .int x1] (some (.int zx)) zw :=
  MC.of (by decide) (Nat.le_of_ble_eq_true rfl) rfl (AX11_valley  h)
def fX11_fog (w : Mm) (x1 : Int32) : (Int32 × Mm) :=
if (fX11_within x1 (0 : Int32) (9 : Int32)) = (0 : Int32) then (
((fX11_bad w (-2 : Int32)).1, (fX11_bad w (-2 : Int32)).2))
else (
((w.1 1 0), (sI w 1 0 x1)))
set_option maxRecDepth 100000 in
set_option maxHeartbeats 4000000 in
theorem AX11_fog {l : Launch} {K : Kt}  {w : Mm} {x1 : Int32} {zx : Int32} {zw : Mm} (h : fX11_fog w x1 = (zx, zw)) : AW l K cX11_fog RX11 3 (some .int) rmX11_fog 0 0 ap_E (ap_F K (some (.int zx)) zw) w 0 [(0, .ref (K.1 0)), (1, .int x1)] [] := by
  unfold fX11_fog at h
  refine ap_iload_n dX11_fog_0 1 rfl rfl ?_
  refine ap_iconst (v := 0) dX11_fog_1 (by decide) ?_
  refine ap_bipush (v := 9) dX11_fog_2 (by decide) ?_
  refine ap_callS (As := [.int x1, .int (0 : Int32), .int (9 : Int32)]) (st := []) (st1 := [.int (fX11_within x1 (0 : Int32) (9 : Int32))]) (mcX11_within  (w := w) (zx := fX11_within x1 (0 : Int32) (9 : Int32)) rfl) cs_X11_73 ⟨rfl, rfl, by decide, by decide⟩ rfl (Nat.le_of_ble_eq_true rfl) ⟨Nat.zero_le _, Nat.zero_le _⟩ dX11_fog_4 rfl rfl ?_
  refine ap_if_ne (tgt := 17) dX11_fog_7 (by decide) (fun hc1 => ?_) (fun hc1 => ?_)
  · rw [if_neg hc1] at h
    refine ap_aload_n dX11_fog_17 0 rfl rfl ?_
    refine ap_get (v := .ref (K.1 1)) fl_X11_12 ly_0 rfl rfl dX11_fog_18 ?_
    refine ap_get (v := .int (w.1 1 0)) fl_X11_88 ly_1 rfl rfl dX11_fog_21 ?_
    refine ap_istore_n (i := 2) (lv' := [(2, .int (w.1 1 0)), (0, .ref (K.1 0)), (1, .int x1)]) dX11_fog_24 rfl (by decide) rfl ?_
    refine ap_aload_n dX11_fog_25 1 rfl rfl ?_
    refine ap_get (v := .ref (K.1 1)) fl_X11_12 ly_0 rfl rfl dX11_fog_26 ?_
    refine ap_iload_n dX11_fog_29 2 rfl rfl ?_
    refine ap_putI (w1 := sI w 1 0 x1) fp_X11_88 ly_1 rfl rfl dX11_fog_30 ?_
    refine ap_iload_n dX11_fog_33 0 rfl rfl ?_
    obtain ⟨rfl, rfl⟩ := Prod.mk.inj h
    exact ap_iret rfl dX11_fog_34
  · rw [if_pos hc1] at h
    refine ap_aload_n dX11_fog_10 0 rfl rfl ?_
    refine ap_bipush (v := -2) dX11_fog_11 (by decide) ?_
    refine ap_callV (k := 0) (As := [.int (-2 : Int32)]) (st := []) (st1 := [.int ((fX11_bad w (-2 : Int32)).1)]) (mcX11_bad  (zx := (fX11_bad w (-2 : Int32)).1) (zw := (fX11_bad w (-2 : Int32)).2) rfl) cv_X11_77 rfl ly_0 ⟨rfl, rfl, by decide, by decide⟩ rfl (Nat.le_of_ble_eq_true rfl) ⟨Nat.zero_le _, Nat.zero_le _⟩ dX11_fog_13 rfl rfl ?_
    obtain ⟨rfl, rfl⟩ := Prod.mk.inj h
    exact ap_iret rfl dX11_fog_16
theorem mcX11_fog {l : Launch} {K : Kt}  {w : Mm} {x1 : Int32} {zx : Int32} {zw : Mm} (h : fX11_fog w x1 = (zx, zw)) : MC l K yX11_fog cX11_fog 3 (some .int) rmX11_fog w [.ref (K.1 0), .int x1] (some (.int zx)) zw :=
  MC.of (by decide) (Nat.le_of_ble_eq_true rfl) rfl (AX11_fog  h)
def fX11_full (w : Mm) : (Int32 × Mm) :=
((-4 : Int32), (sI w 0 11 ((w.1 0 11) + (1 : Int32))))
set_option maxRecDepth 100000 in
set_option maxHeartbeats 4000000 in
theorem AX11_full {l : Launch} {K : Kt}  {w : Mm} {zx : Int32} {zw : Mm} (h : fX11_full w = (zx, zw)) : AW l K cX11_full RX11 1 (some .int) rmX11_full 0 0 ap_E (ap_F K (some (.int zx)) zw) w 0 [(0, .ref (K.1 0))] [] := by
  unfold fX11_full at h
  refine ap_aload_n dX11_full_0 0 rfl rfl ?_
  refine ap_dup dX11_full_1 rfl ?_
  refine ap_get (v := .int (w.1 0 11)) fl_X11_70 ly_0 rfl rfl dX11_full_2 ?_
  refine ap_iconst (v := 1) dX11_full_5 (by decide) ?_
  refine ap_iadd dX11_full_6 ?_
  refine ap_putI (w1 := sI w 0 11 ((w.1 0 11) + (1 : Int32))) fp_X11_70 ly_0 rfl rfl dX11_full_7 ?_
  refine ap_bipush (v := -4) dX11_full_10 (by decide) ?_
  obtain ⟨rfl, rfl⟩ := Prod.mk.inj h
  exact ap_iret rfl dX11_full_12
theorem mcX11_full {l : Launch} {K : Kt}  {w : Mm} {zx : Int32} {zw : Mm} (h : fX11_full w = (zx, zw)) : MC l K yX11_full cX11_full 1 (some .int) rmX11_full w [.ref (K.1 0)] (some (.int zx)) zw :=
  MC.of (by decide) (Nat.le_of_ble_eq_true rfl) rfl (AX11_full  h)
def fX11_isCell (x0 : Int32) : Int32 :=
(fX11_within x0 (0 : Int32) (63 : Int32))
set_option maxRecDepth 100000 in
set_option maxHeartbeats 4000000 in
theorem AX11_isCell {l : Launch} {K : Kt} {w : Mm}  {x0 : Int32} {zx : Int32} (h : fX11_isCell x0 = zx) : AW l K cX11_isCell RX11 1 (some .boolean) rmX11_isCell 0 0 ap_E (ap_F K (some (.int zx)) w) w 0 [(0, .int x0)] [] := by
  unfold fX11_isCell at h
  refine ap_iload_n dX11_isCell_0 0 rfl rfl ?_
  refine ap_iconst (v := 0) dX11_isCell_1 (by decide) ?_
  refine ap_bipush (v := 63) dX11_isCell_2 (by decide) ?_
  refine ap_callS (As := [.int x0, .int (0 : Int32), .int (63 : Int32)]) (st := []) (st1 := [.int (fX11_within x0 (0 : Int32) (63 : Int32))]) (mcX11_within  (w := w) (zx := fX11_within x0 (0 : Int32) (63 : Int32)) rfl) cs_X11_73 ⟨rfl, rfl, by decide, by decide⟩ rfl (Nat.le_of_ble_eq_true rfl) ⟨Nat.zero_le _, Nat.zero_le _⟩ dX11_isCell_4 rfl rfl ?_
  subst h
  exact ap_zret rfl zX11_within dX11_isCell_7
theorem mcX11_isCell {l : Launch} {K : Kt} {w : Mm}  {x0 : Int32} {zx : Int32} (h : fX11_isCell x0 = zx) : MC l K yX11_isCell cX11_isCell 1 (some .boolean) rmX11_isCell w [.int x0] (some (.int zx)) w :=
  MC.of (by decide) (Nat.le_of_ble_eq_true rfl) rfl (AX11_isCell  h)
def fX11_isOwner (x0 : Int32) : Int32 :=
(fX11_within x0 (0 : Int32) (3 : Int32))
set_option maxRecDepth 100000 in
set_option maxHeartbeats 4000000 in
theorem AX11_isOwner {l : Launch} {K : Kt} {w : Mm}  {x0 : Int32} {zx : Int32} (h : fX11_isOwner x0 = zx) : AW l K cX11_isOwner RX11 1 (some .boolean) rmX11_isOwner 0 0 ap_E (ap_F K (some (.int zx)) w) w 0 [(0, .int x0)] [] := by
  unfold fX11_isOwner at h
  refine ap_iload_n dX11_isOwner_0 0 rfl rfl ?_
  refine ap_iconst (v := 0) dX11_isOwner_1 (by decide) ?_
  refine ap_iconst (v := 3) dX11_isOwner_2 (by decide) ?_
  refine ap_callS (As := [.int x0, .int (0 : Int32), .int (3 : Int32)]) (st := []) (st1 := [.int (fX11_within x0 (0 : Int32) (3 : Int32))]) (mcX11_within  (w := w) (zx := fX11_within x0 (0 : Int32) (3 : Int32)) rfl) cs_X11_73 ⟨rfl, rfl, by decide, by decide⟩ rfl (Nat.le_of_ble_eq_true rfl) ⟨Nat.zero_le _, Nat.zero_le _⟩ dX11_isOwner_3 rfl rfl ?_
  subst h
  exact ap_zret rfl zX11_within dX11_isOwner_6
theorem mcX11_isOwner {l : Launch} {K : Kt} {w : Mm}  {x0 : Int32} {zx : Int32} (h : fX11_isOwner x0 = zx) : MC l K yX11_isOwner cX11_isOwner 1 (some .boolean) rmX11_isOwner w [.int x0] (some (.int zx)) w :=
  MC.of (by decide) (Nat.le_of_ble_eq_true rfl) rfl (AX11_isOwner  h)
def fX11_candle_L45 (w : Mm) : Option (Int32 × Mm) :=
ob2 (some (fX11_bad w (-2 : Int32))) fun a11 m12 =>
some (a11, m12)
set_option maxRecDepth 100000 in
set_option maxHeartbeats 4000000 in
theorem AX11_candle_L45 {l : Launch} {K : Kt}   {w : Mm} {zx : Int32} {zw : Mm} (h : fX11_candle_L45 w = some (zx, zw)) : AW l K cX11_candle RX11 6 (some .int) rmX11_candle 0 0 ap_E (ap_F K (some (.int zx)) zw) w 45 [(0, .ref (K.1 0))] [] := by
  unfold fX11_candle_L45 at h
  refine ap_aload_n dX11_candle_45 0 rfl rfl ?_
  refine ap_bipush (v := -2) dX11_candle_46 (by decide) ?_
  obtain ⟨a11, m12, ha11, h⟩ := ob2_iff h
  refine ap_callV (k := 0) (As := [.int (-2 : Int32)]) (st := []) (st1 := [.int a11]) (mcX11_bad  (Option.some.inj ha11)) cv_X11_77 rfl ly_0 ⟨rfl, rfl, by decide, by decide⟩ rfl (Nat.le_of_ble_eq_true rfl) ⟨Nat.zero_le _, Nat.zero_le _⟩ dX11_candle_48 rfl rfl ?_
  obtain ⟨rfl, rfl⟩ := Prod.mk.inj (Option.some.inj h)
  exact ap_iret rfl dX11_candle_51
def fX11_candle (w : Mm) (x1 : Int32) (x2 : Int32) (x3 : Int32) (x4 : Int32) (x5 : Int32) : Option (Int32 × Mm) :=
if (fX11_within x1 (0 : Int32) (5 : Int32)) = (0 : Int32) then (
fX11_candle_L45 w)
else (
if (fX11_isCell x2) = (0 : Int32) then (
fX11_candle_L45 w)
else (
if (fX11_within x3 (1 : Int32) (20 : Int32)) = (0 : Int32) then (
fX11_candle_L45 w)
else (
if (fX11_isOwner x4) = (0 : Int32) then (
fX11_candle_L45 w)
else (
if (fX11_within x5 (0 : Int32) (12 : Int32)) = (0 : Int32) then (
fX11_candle_L45 w)
else (
if (w.1 1 1) < (7 : Int32) then (
ob2 (fX8_add 1 w x1 x2 x3 x4 x5) fun a7 m8 =>
some (a7, m8))
else (
ob2 (some (fX11_full w)) fun a9 m10 =>
some (a9, m10)))))))
set_option maxRecDepth 100000 in
set_option maxHeartbeats 4000000 in
theorem AX11_candle {l : Launch} {K : Kt}  {w : Mm} {x1 : Int32} {x2 : Int32} {x3 : Int32} {x4 : Int32} {x5 : Int32} {zx : Int32} {zw : Mm} (h : fX11_candle w x1 x2 x3 x4 x5 = some (zx, zw)) : AW l K cX11_candle RX11 6 (some .int) rmX11_candle 0 0 ap_E (ap_F K (some (.int zx)) zw) w 0 [(0, .ref (K.1 0)), (1, .int x1), (2, .int x2), (3, .int x3), (4, .int x4), (5, .int x5)] [] := by
  unfold fX11_candle at h
  refine ap_iload_n dX11_candle_0 1 rfl rfl ?_
  refine ap_iconst (v := 0) dX11_candle_1 (by decide) ?_
  refine ap_iconst (v := 5) dX11_candle_2 (by decide) ?_
  refine ap_callS (As := [.int x1, .int (0 : Int32), .int (5 : Int32)]) (st := []) (st1 := [.int (fX11_within x1 (0 : Int32) (5 : Int32))]) (mcX11_within  (w := w) (zx := fX11_within x1 (0 : Int32) (5 : Int32)) rfl) cs_X11_73 ⟨rfl, rfl, by decide, by decide⟩ rfl (Nat.le_of_ble_eq_true rfl) ⟨Nat.zero_le _, Nat.zero_le _⟩ dX11_candle_3 rfl rfl ?_
  refine ap_if_eq (tgt := 45) dX11_candle_6 (by decide) (fun hc1 => ?_) (fun hc1 => ?_)
  · rw [if_pos hc1] at h
    refine ap_sub [0] rfl ?_
    exact AX11_candle_L45   h
  · rw [if_neg hc1] at h
    refine ap_iload_n dX11_candle_9 2 rfl rfl ?_
    refine ap_callS (As := [.int x2]) (st := []) (st1 := [.int (fX11_isCell x2)]) (mcX11_isCell  (w := w) (zx := fX11_isCell x2) rfl) cs_X11_91 ⟨rfl, rfl, by decide, by decide⟩ rfl (Nat.le_of_ble_eq_true rfl) ⟨Nat.zero_le _, Nat.zero_le _⟩ dX11_candle_10 rfl rfl ?_
    refine ap_if_eq (tgt := 45) dX11_candle_13 (by decide) (fun hc2 => ?_) (fun hc2 => ?_)
    · rw [if_pos hc2] at h
      refine ap_sub [0] rfl ?_
      exact AX11_candle_L45   h
    · rw [if_neg hc2] at h
      refine ap_iload_n dX11_candle_16 3 rfl rfl ?_
      refine ap_iconst (v := 1) dX11_candle_17 (by decide) ?_
      refine ap_bipush (v := 20) dX11_candle_18 (by decide) ?_
      refine ap_callS (As := [.int x3, .int (1 : Int32), .int (20 : Int32)]) (st := []) (st1 := [.int (fX11_within x3 (1 : Int32) (20 : Int32))]) (mcX11_within  (w := w) (zx := fX11_within x3 (1 : Int32) (20 : Int32)) rfl) cs_X11_73 ⟨rfl, rfl, by decide, by decide⟩ rfl (Nat.le_of_ble_eq_true rfl) ⟨Nat.zero_le _, Nat.zero_le _⟩ dX11_candle_20 rfl rfl ?_
      refine ap_if_eq (tgt := 45) dX11_candle_23 (by decide) (fun hc3 => ?_) (fun hc3 => ?_)
      · rw [if_pos hc3] at h
        refine ap_sub [0] rfl ?_
        exact AX11_candle_L45   h
      · rw [if_neg hc3] at h
        refine ap_iload dX11_candle_26 4 rfl ?_
        refine ap_callS (As := [.int x4]) (st := []) (st1 := [.int (fX11_isOwner x4)]) (mcX11_isOwner  (w := w) (zx := fX11_isOwner x4) rfl) cs_X11_95 ⟨rfl, rfl, by decide, by decide⟩ rfl (Nat.le_of_ble_eq_true rfl) ⟨Nat.zero_le _, Nat.zero_le _⟩ dX11_candle_28 rfl rfl ?_
        refine ap_if_eq (tgt := 45) dX11_candle_31 (by decide) (fun hc4 => ?_) (fun hc4 => ?_)
        · rw [if_pos hc4] at h
          refine ap_sub [0] rfl ?_
          exact AX11_candle_L45   h
        · rw [if_neg hc4] at h
          refine ap_iload dX11_candle_34 5 rfl ?_
          refine ap_iconst (v := 0) dX11_candle_36 (by decide) ?_
          refine ap_bipush (v := 12) dX11_candle_37 (by decide) ?_
          refine ap_callS (As := [.int x5, .int (0 : Int32), .int (12 : Int32)]) (st := []) (st1 := [.int (fX11_within x5 (0 : Int32) (12 : Int32))]) (mcX11_within  (w := w) (zx := fX11_within x5 (0 : Int32) (12 : Int32)) rfl) cs_X11_73 ⟨rfl, rfl, by decide, by decide⟩ rfl (Nat.le_of_ble_eq_true rfl) ⟨Nat.zero_le _, Nat.zero_le _⟩ dX11_candle_39 rfl rfl ?_
          refine ap_if_ne (tgt := 52) dX11_candle_42 (by decide) (fun hc5 => ?_) (fun hc5 => ?_)
          · rw [if_neg hc5] at h
            refine ap_aload_n dX11_candle_52 0 rfl rfl ?_
            refine ap_get (v := .ref (K.1 1)) fl_X11_12 ly_0 rfl rfl dX11_candle_53 ?_
            refine ap_get (v := .int (w.1 1 1)) fl_X11_81 ly_1 rfl rfl dX11_candle_56 ?_
            refine ap_bipush (v := 7) dX11_candle_59 (by decide) ?_
            refine ap_icmp_lt (tgt := 69) dX11_candle_61 (by decide) (fun hc6 => ?_) (fun hc6 => ?_)
            · rw [if_pos hc6] at h
              refine ap_aload_n dX11_candle_69 0 rfl rfl ?_
              refine ap_get (v := .ref (K.1 1)) fl_X11_12 ly_0 rfl rfl dX11_candle_70 ?_
              refine ap_iload_n dX11_candle_73 1 rfl rfl ?_
              refine ap_iload_n dX11_candle_74 2 rfl rfl ?_
              refine ap_iload_n dX11_candle_75 3 rfl rfl ?_
              refine ap_iload dX11_candle_76 4 rfl ?_
              refine ap_iload dX11_candle_78 5 rfl ?_
              obtain ⟨a7, m8, ha7, h⟩ := ob2_iff h
              refine ap_callV (k := 1) (As := [.int x1, .int x2, .int x3, .int x4, .int x5]) (st := []) (st1 := [.int a7]) (mcX8_add isV_1 ha7) cv_X11_102 rfl ly_1 ⟨rfl, rfl, by decide, by decide⟩ rfl (Nat.le_of_ble_eq_true rfl) ⟨Nat.zero_le _, Nat.zero_le _⟩ dX11_candle_80 rfl rfl ?_
              obtain ⟨rfl, rfl⟩ := Prod.mk.inj (Option.some.inj h)
              exact ap_iret rfl dX11_candle_83
            · rw [if_neg hc6] at h
              refine ap_aload_n dX11_candle_64 0 rfl rfl ?_
              obtain ⟨a9, m10, ha9, h⟩ := ob2_iff h
              refine ap_callV (k := 0) (As := []) (st := []) (st1 := [.int a9]) (mcX11_full  (Option.some.inj ha9)) cv_X11_98 rfl ly_0 ⟨rfl, rfl, by decide, by decide⟩ rfl (Nat.le_of_ble_eq_true rfl) ⟨Nat.zero_le _, Nat.zero_le _⟩ dX11_candle_65 rfl rfl ?_
              obtain ⟨rfl, rfl⟩ := Prod.mk.inj (Option.some.inj h)
              exact ap_iret rfl dX11_candle_68
          · rw [if_pos hc5] at h
            refine ap_sub [0] rfl ?_
            exact AX11_candle_L45   h
theorem mcX11_candle {l : Launch} {K : Kt}  {w : Mm} {x1 : Int32} {x2 : Int32} {x3 : Int32} {x4 : Int32} {x5 : Int32} {zx : Int32} {zw : Mm} (h : fX11_candle w x1 x2 x3 x4 x5 = some (zx, zw)) : MC l K yX11_candle cX11_candle 6 (some .int) rmX11_candle w [.ref (K.1 0), .int x1, .int x2, .int x3, .int x4, .int x5] (some (.int zx)) zw :=
  MC.of (by decide) (Nat.le_of_ble_eq_true rfl) rfl (AX11_candle  h)
def fX11_move_L18 (w : Mm) : Option (Int32 × Mm) :=
ob2 (some (fX11_bad w (-2 : Int32))) fun a6 m7 =>
some (a6, m7)
set_option maxRecDepth 100000 in
set_option maxHeartbeats 4000000 in
theorem AX11_move_L18 {l : Launch} {K : Kt}   {w : Mm} {zx : Int32} {zw : Mm} (h : fX11_move_L18 w = some (zx, zw)) : AW l K cX11_move RX11 4 (some .int) rmX11_move 0 0 ap_E (ap_F K (some (.int zx)) zw) w 18 [(0, .ref (K.1 0))] [] := by
  unfold fX11_move_L18 at h
  refine ap_aload_n dX11_move_18 0 rfl rfl ?_
  refine ap_bipush (v := -2) dX11_move_19 (by decide) ?_
  obtain ⟨a6, m7, ha6, h⟩ := ob2_iff h
  refine ap_callV (k := 0) (As := [.int (-2 : Int32)]) (st := []) (st1 := [.int a6]) (mcX11_bad  (Option.some.inj ha6)) cv_X11_77 rfl ly_0 ⟨rfl, rfl, by decide, by decide⟩ rfl (Nat.le_of_ble_eq_true rfl) ⟨Nat.zero_le _, Nat.zero_le _⟩ dX11_move_21 rfl rfl ?_
  obtain ⟨rfl, rfl⟩ := Prod.mk.inj (Option.some.inj h)
  exact ap_iret rfl dX11_move_24
def fX11_move (w : Mm) (x1 : Int32) (x2 : Int32) : Option (Int32 × Mm) :=
if (fX8_has 1 w x1) = (0 : Int32) then (
fX11_move_L18 w)
else (
if (fX11_isCell x2) = (0 : Int32) then (
fX11_move_L18 w)
else (
Option.bind (fX8_remember 1 w) fun m3 =>
Option.bind (rdA m3 3 7 x1) fun a4 =>
Option.bind (wrA m3 3 7 x1 x2) fun m5 =>
some (a4, m5)))
set_option maxRecDepth 100000 in
set_option maxHeartbeats 4000000 in
theorem AX11_move {l : Launch} {K : Kt}  {w : Mm} {x1 : Int32} {x2 : Int32} {zx : Int32} {zw : Mm} (h : fX11_move w x1 x2 = some (zx, zw)) : AW l K cX11_move RX11 4 (some .int) rmX11_move 0 0 ap_E (ap_F K (some (.int zx)) zw) w 0 [(0, .ref (K.1 0)), (1, .int x1), (2, .int x2)] [] := by
  unfold fX11_move at h
  refine ap_aload_n dX11_move_0 0 rfl rfl ?_
  refine ap_get (v := .ref (K.1 1)) fl_X11_12 ly_0 rfl rfl dX11_move_1 ?_
  refine ap_iload_n dX11_move_4 1 rfl rfl ?_
  refine ap_callV (k := 1) (As := [.int x1]) (st := []) (st1 := [.int (fX8_has 1 w x1)]) (mcX8_has isV_1 (w := w) (zx := fX8_has 1 w x1) rfl) cv_X11_106 rfl ly_1 ⟨rfl, rfl, by decide, by decide⟩ rfl (Nat.le_of_ble_eq_true rfl) ⟨Nat.zero_le _, Nat.zero_le _⟩ dX11_move_5 rfl rfl ?_
  refine ap_if_eq (tgt := 18) dX11_move_8 (by decide) (fun hc1 => ?_) (fun hc1 => ?_)
  · rw [if_pos hc1] at h
    refine ap_sub [0] rfl ?_
    exact AX11_move_L18   h
  · rw [if_neg hc1] at h
    refine ap_iload_n dX11_move_11 2 rfl rfl ?_
    refine ap_callS (As := [.int x2]) (st := []) (st1 := [.int (fX11_isCell x2)]) (mcX11_isCell  (w := w) (zx := fX11_isCell x2) rfl) cs_X11_91 ⟨rfl, rfl, by decide, by decide⟩ rfl (Nat.le_of_ble_eq_true rfl) ⟨Nat.zero_le _, Nat.zero_le _⟩ dX11_move_12 rfl rfl ?_
    refine ap_if_ne (tgt := 25) dX11_move_15 (by decide) (fun hc2 => ?_) (fun hc2 => ?_)
    · rw [if_neg hc2] at h
      refine ap_aload_n dX11_move_25 0 rfl rfl ?_
      refine ap_get (v := .ref (K.1 1)) fl_X11_12 ly_0 rfl rfl dX11_move_26 ?_
      obtain ⟨m3, hm3, h⟩ := Option.bind_eq_some_iff.mp h
      refine ap_callV (k := 1) (As := []) (st := []) (st1 := []) (mcX8_remember isV_1 hm3) cv_X11_109 rfl ly_1 ⟨rfl, rfl, by decide, by decide⟩ rfl (Nat.le_of_ble_eq_true rfl) ⟨Nat.zero_le _, Nat.zero_le _⟩ dX11_move_29 rfl rfl ?_
      refine ap_aload_n dX11_move_32 0 rfl rfl ?_
      refine ap_get (v := .ref (K.1 1)) fl_X11_12 ly_0 rfl rfl dX11_move_33 ?_
      refine ap_get (v := .ref (K.1 3)) fl_X11_112 ly_1 rfl rfl dX11_move_36 ?_
      refine ap_iload_n dX11_move_39 1 rfl rfl ?_
      obtain ⟨a4, ha4, h⟩ := Option.bind_eq_some_iff.mp h
      refine ap_iald ly_3 ha4 dX11_move_40 ?_
      refine ap_istore_n (i := 3) (lv' := [(3, .int a4), (0, .ref (K.1 0)), (1, .int x1), (2, .int x2)]) dX11_move_41 rfl (by decide) rfl ?_
      refine ap_aload_n dX11_move_42 1 rfl rfl ?_
      refine ap_get (v := .ref (K.1 1)) fl_X11_12 ly_0 rfl rfl dX11_move_43 ?_
      refine ap_get (v := .ref (K.1 3)) fl_X11_112 ly_1 rfl rfl dX11_move_46 ?_
      refine ap_iload_n dX11_move_49 2 rfl rfl ?_
      refine ap_iload_n dX11_move_50 3 rfl rfl ?_
      obtain ⟨m5, hm5, h⟩ := Option.bind_eq_some_iff.mp h
      refine ap_iast ly_3 hm5 dX11_move_51 ?_
      refine ap_iload_n dX11_move_52 0 rfl rfl ?_
      obtain ⟨rfl, rfl⟩ := Prod.mk.inj (Option.some.inj h)
      exact ap_iret rfl dX11_move_53
    · rw [if_pos hc2] at h
      refine ap_sub [0] rfl ?_
      exact AX11_move_L18   h
theorem mcX11_move {l : Launch} {K : Kt}  {w : Mm} {x1 : Int32} {x2 : Int32} {zx : Int32} {zw : Mm} (h : fX11_move w x1 x2 = some (zx, zw)) : MC l K yX11_move cX11_move 4 (some .int) rmX11_move w [.ref (K.1 0), .int x1, .int x2] (some (.int zx)) zw :=
  MC.of (by decide) (Nat.le_of_ble_eq_true rfl) rfl (AX11_move  h)
def fX11_no (w : Mm) : (Int32 × Mm) :=
((-3 : Int32), (sI w 0 10 ((w.1 0 10) + (1 : Int32))))
set_option maxRecDepth 100000 in
set_option maxHeartbeats 4000000 in
theorem AX11_no {l : Launch} {K : Kt}  {w : Mm} {zx : Int32} {zw : Mm} (h : fX11_no w = (zx, zw)) : AW l K cX11_no RX11 1 (some .int) rmX11_no 0 0 ap_E (ap_F K (some (.int zx)) zw) w 0 [(0, .ref (K.1 0))] [] := by
  unfold fX11_no at h
  refine ap_aload_n dX11_no_0 0 rfl rfl ?_
  refine ap_dup dX11_no_1 rfl ?_
  refine ap_get (v := .int (w.1 0 10)) fl_X11_67 ly_0 rfl rfl dX11_no_2 ?_
  refine ap_iconst (v := 1) dX11_no_5 (by decide) ?_
  refine ap_iadd dX11_no_6 ?_
  refine ap_putI (w1 := sI w 0 10 ((w.1 0 10) + (1 : Int32))) fp_X11_67 ly_0 rfl rfl dX11_no_7 ?_
  refine ap_bipush (v := -3) dX11_no_10 (by decide) ?_
  obtain ⟨rfl, rfl⟩ := Prod.mk.inj h
  exact ap_iret rfl dX11_no_12
theorem mcX11_no {l : Launch} {K : Kt}  {w : Mm} {zx : Int32} {zw : Mm} (h : fX11_no w = (zx, zw)) : MC l K yX11_no cX11_no 1 (some .int) rmX11_no w [.ref (K.1 0)] (some (.int zx)) zw :=
  MC.of (by decide) (Nat.le_of_ble_eq_true rfl) rfl (AX11_no  h)
def fX11_light_L20 (w : Mm) : Option (Int32 × Mm) :=
ob2 (some (fX11_bad w (-2 : Int32))) fun a8 m9 =>
some (a8, m9)
set_option maxRecDepth 100000 in
set_option maxHeartbeats 4000000 in
theorem AX11_light_L20 {l : Launch} {K : Kt}   {w : Mm} {zx : Int32} {zw : Mm} (h : fX11_light_L20 w = some (zx, zw)) : AW l K cX11_light RX11 3 (some .int) rmX11_light 0 0 ap_E (ap_F K (some (.int zx)) zw) w 20 [(0, .ref (K.1 0))] [] := by
  unfold fX11_light_L20 at h
  refine ap_aload_n dX11_light_20 0 rfl rfl ?_
  refine ap_bipush (v := -2) dX11_light_21 (by decide) ?_
  obtain ⟨a8, m9, ha8, h⟩ := ob2_iff h
  refine ap_callV (k := 0) (As := [.int (-2 : Int32)]) (st := []) (st1 := [.int a8]) (mcX11_bad  (Option.some.inj ha8)) cv_X11_77 rfl ly_0 ⟨rfl, rfl, by decide, by decide⟩ rfl (Nat.le_of_ble_eq_true rfl) ⟨Nat.zero_le _, Nat.zero_le _⟩ dX11_light_23 rfl rfl ?_
  obtain ⟨rfl, rfl⟩ := Prod.mk.inj (Option.some.inj h)
  exact ap_iret rfl dX11_light_26
def fX11_light (w : Mm) (x1 : Int32) (x2 : Int32) : Option (Int32 × Mm) :=
if (fX8_has 1 w x1) = (0 : Int32) then (
fX11_light_L20 w)
else (
if (fX11_within x2 (0 : Int32) (1 : Int32)) = (0 : Int32) then (
fX11_light_L20 w)
else (
if (fX8_litAt 1 w x1) = x2 then (
ob2 (some (fX11_no w)) fun a6 m7 =>
some (a6, m7))
else (
Option.bind (fX8_remember 1 w) fun m4 =>
Option.bind (some (sI m4 1 2 ((m4.1 1 2) ^^^ ((1 : Int32) <<< (x1 &&& 31))))) fun m5 =>
some ((1 : Int32), m5))))
set_option maxRecDepth 100000 in
set_option maxHeartbeats 4000000 in
theorem AX11_light {l : Launch} {K : Kt}  {w : Mm} {x1 : Int32} {x2 : Int32} {zx : Int32} {zw : Mm} (h : fX11_light w x1 x2 = some (zx, zw)) : AW l K cX11_light RX11 3 (some .int) rmX11_light 0 0 ap_E (ap_F K (some (.int zx)) zw) w 0 [(0, .ref (K.1 0)), (1, .int x1), (2, .int x2)] [] := by
  unfold fX11_light at h
  refine ap_aload_n dX11_light_0 0 rfl rfl ?_
  refine ap_get (v := .ref (K.1 1)) fl_X11_12 ly_0 rfl rfl dX11_light_1 ?_
  refine ap_iload_n dX11_light_4 1 rfl rfl ?_
  refine ap_callV (k := 1) (As := [.int x1]) (st := []) (st1 := [.int (fX8_has 1 w x1)]) (mcX8_has isV_1 (w := w) (zx := fX8_has 1 w x1) rfl) cv_X11_106 rfl ly_1 ⟨rfl, rfl, by decide, by decide⟩ rfl (Nat.le_of_ble_eq_true rfl) ⟨Nat.zero_le _, Nat.zero_le _⟩ dX11_light_5 rfl rfl ?_
  refine ap_if_eq (tgt := 20) dX11_light_8 (by decide) (fun hc1 => ?_) (fun hc1 => ?_)
  · rw [if_pos hc1] at h
    refine ap_sub [0] rfl ?_
    exact AX11_light_L20   h
  · rw [if_neg hc1] at h
    refine ap_iload_n dX11_light_11 2 rfl rfl ?_
    refine ap_iconst (v := 0) dX11_light_12 (by decide) ?_
    refine ap_iconst (v := 1) dX11_light_13 (by decide) ?_
    refine ap_callS (As := [.int x2, .int (0 : Int32), .int (1 : Int32)]) (st := []) (st1 := [.int (fX11_within x2 (0 : Int32) (1 : Int32))]) (mcX11_within  (w := w) (zx := fX11_within x2 (0 : Int32) (1 : Int32)) rfl) cs_X11_73 ⟨rfl, rfl, by decide, by decide⟩ rfl (Nat.le_of_ble_eq_true rfl) ⟨Nat.zero_le _, Nat.zero_le _⟩ dX11_light_14 rfl rfl ?_
    refine ap_if_ne (tgt := 27) dX11_light_17 (by decide) (fun hc2 => ?_) (fun hc2 => ?_)
    · rw [if_neg hc2] at h
      refine ap_aload_n dX11_light_27 0 rfl rfl ?_
      refine ap_get (v := .ref (K.1 1)) fl_X11_12 ly_0 rfl rfl dX11_light_28 ?_
      refine ap_iload_n dX11_light_31 1 rfl rfl ?_
      refine ap_callV (k := 1) (As := [.int x1]) (st := []) (st1 := [.int (fX8_litAt 1 w x1)]) (mcX8_litAt isV_1 (w := w) (zx := fX8_litAt 1 w x1) rfl) cv_X11_116 rfl ly_1 ⟨rfl, rfl, by decide, by decide⟩ rfl (Nat.le_of_ble_eq_true rfl) ⟨Nat.zero_le _, Nat.zero_le _⟩ dX11_light_32 rfl rfl ?_
      refine ap_iload_n dX11_light_35 2 rfl rfl ?_
      refine ap_icmp_ne (tgt := 44) dX11_light_36 (by decide) (fun hc3 => ?_) (fun hc3 => ?_)
      · rw [if_neg hc3] at h
        refine ap_aload_n dX11_light_44 0 rfl rfl ?_
        refine ap_get (v := .ref (K.1 1)) fl_X11_12 ly_0 rfl rfl dX11_light_45 ?_
        obtain ⟨m4, hm4, h⟩ := Option.bind_eq_some_iff.mp h
        refine ap_callV (k := 1) (As := []) (st := []) (st1 := []) (mcX8_remember isV_1 hm4) cv_X11_109 rfl ly_1 ⟨rfl, rfl, by decide, by decide⟩ rfl (Nat.le_of_ble_eq_true rfl) ⟨Nat.zero_le _, Nat.zero_le _⟩ dX11_light_48 rfl rfl ?_
        refine ap_aload_n dX11_light_51 0 rfl rfl ?_
        refine ap_get (v := .ref (K.1 1)) fl_X11_12 ly_0 rfl rfl dX11_light_52 ?_
        refine ap_aload_n dX11_light_55 0 rfl rfl ?_
        refine ap_get (v := .ref (K.1 1)) fl_X11_12 ly_0 rfl rfl dX11_light_56 ?_
        refine ap_get (v := .int (m4.1 1 2)) fl_X11_122 ly_1 rfl rfl dX11_light_59 ?_
        refine ap_iconst (v := 1) dX11_light_62 (by decide) ?_
        refine ap_iload_n dX11_light_63 1 rfl rfl ?_
        refine ap_ishl dX11_light_64 ?_
        refine ap_ixor dX11_light_65 ?_
        obtain ⟨m5, hm5, h⟩ := Option.bind_eq_some_iff.mp h
        refine ap_putI fp_X11_122 ly_1 rfl (Option.some.inj hm5) dX11_light_66 ?_
        refine ap_iconst (v := 1) dX11_light_69 (by decide) ?_
        obtain ⟨rfl, rfl⟩ := Prod.mk.inj (Option.some.inj h)
        exact ap_iret rfl dX11_light_70
      · rw [if_pos hc3] at h
        refine ap_aload_n dX11_light_39 0 rfl rfl ?_
        obtain ⟨a6, m7, ha6, h⟩ := ob2_iff h
        refine ap_callV (k := 0) (As := []) (st := []) (st1 := [.int a6]) (mcX11_no  (Option.some.inj ha6)) cv_X11_119 rfl ly_0 ⟨rfl, rfl, by decide, by decide⟩ rfl (Nat.le_of_ble_eq_true rfl) ⟨Nat.zero_le _, Nat.zero_le _⟩ dX11_light_40 rfl rfl ?_
        obtain ⟨rfl, rfl⟩ := Prod.mk.inj (Option.some.inj h)
        exact ap_iret rfl dX11_light_43
    · rw [if_pos hc2] at h
      refine ap_sub [0] rfl ?_
      exact AX11_light_L20   h
theorem mcX11_light {l : Launch} {K : Kt}  {w : Mm} {x1 : Int32} {x2 : Int32} {zx : Int32} {zw : Mm} (h : fX11_light w x1 x2 = some (zx, zw)) : MC l K yX11_light cX11_light 3 (some .int) rmX11_light w [.ref (K.1 0), .int x1, .int x2] (some (.int zx)) zw :=
  MC.of (by decide) (Nat.le_of_ble_eq_true rfl) rfl (AX11_light  h)
def fX11_undo (w : Mm) : Option (Int32 × Mm) :=
if (0 : Int32) < (w.1 1 14) then (
Option.bind (fX8_goBack 1 w) fun m2 =>
some ((m2.1 1 2), m2))
else (
ob2 (some (fX11_no w)) fun a3 m4 =>
some (a3, m4))
set_option maxRecDepth 100000 in
set_option maxHeartbeats 4000000 in
theorem AX11_undo {l : Launch} {K : Kt}  {w : Mm} {zx : Int32} {zw : Mm} (h : fX11_undo w = some (zx, zw)) : AW l K cX11_undo RX11 1 (some .int) rmX11_undo 0 0 ap_E (ap_F K (some (.int zx)) zw) w 0 [(0, .ref (K.1 0))] [] := by
  unfold fX11_undo at h
  refine ap_aload_n dX11_undo_0 0 rfl rfl ?_
  refine ap_get (v := .ref (K.1 1)) fl_X11_12 ly_0 rfl rfl dX11_undo_1 ?_
  refine ap_get (v := .int (w.1 1 14)) fl_X11_125 ly_1 rfl rfl dX11_undo_4 ?_
  refine ap_if_gt (tgt := 15) dX11_undo_7 (by decide) (fun hc1 => ?_) (fun hc1 => ?_)
  · rw [if_pos hc1] at h
    refine ap_aload_n dX11_undo_15 0 rfl rfl ?_
    refine ap_get (v := .ref (K.1 1)) fl_X11_12 ly_0 rfl rfl dX11_undo_16 ?_
    obtain ⟨m2, hm2, h⟩ := Option.bind_eq_some_iff.mp h
    refine ap_callV (k := 1) (As := []) (st := []) (st1 := []) (mcX8_goBack isV_1 hm2) cv_X11_128 rfl ly_1 ⟨rfl, rfl, by decide, by decide⟩ rfl (Nat.le_of_ble_eq_true rfl) ⟨Nat.zero_le _, Nat.zero_le _⟩ dX11_undo_19 rfl rfl ?_
    refine ap_aload_n dX11_undo_22 0 rfl rfl ?_
    refine ap_get (v := .ref (K.1 1)) fl_X11_12 ly_0 rfl rfl dX11_undo_23 ?_
    refine ap_get (v := .int (m2.1 1 2)) fl_X11_122 ly_1 rfl rfl dX11_undo_26 ?_
    obtain ⟨rfl, rfl⟩ := Prod.mk.inj (Option.some.inj h)
    exact ap_iret rfl dX11_undo_29
  · rw [if_neg hc1] at h
    refine ap_aload_n dX11_undo_10 0 rfl rfl ?_
    obtain ⟨a3, m4, ha3, h⟩ := ob2_iff h
    refine ap_callV (k := 0) (As := []) (st := []) (st1 := [.int a3]) (mcX11_no  (Option.some.inj ha3)) cv_X11_119 rfl ly_0 ⟨rfl, rfl, by decide, by decide⟩ rfl (Nat.le_of_ble_eq_true rfl) ⟨Nat.zero_le _, Nat.zero_le _⟩ dX11_undo_11 rfl rfl ?_
    obtain ⟨rfl, rfl⟩ := Prod.mk.inj (Option.some.inj h)
    exact ap_iret rfl dX11_undo_14
theorem mcX11_undo {l : Launch} {K : Kt}  {w : Mm} {zx : Int32} {zw : Mm} (h : fX11_undo w = some (zx, zw)) : MC l K yX11_undo cX11_undo 1 (some .int) rmX11_undo w [.ref (K.1 0)] (some (.int zx)) zw :=
  MC.of (by decide) (Nat.le_of_ble_eq_true rfl) rfl (AX11_undo  h)
def fX11_type (w : Mm) (x1 : Int32) : Option (Int32 × Mm) :=
if (fX11_within x1 (0 : Int32) (127 : Int32)) = (0 : Int32) then (
ob2 (some (fX11_bad w (-2 : Int32))) fun a7 m8 =>
some (a7, m8))
else (
if (w.1 51 1) < (150 : Int32) then (
ob2 (fX5_append w x1) fun a3 m4 =>
some (a3, m4))
else (
ob2 (some (fX11_full w)) fun a5 m6 =>
some (a5, m6)))
set_option maxRecDepth 100000 in
set_option maxHeartbeats 4000000 in
theorem AX11_type {l : Launch} {K : Kt}  {w : Mm} {x1 : Int32} {zx : Int32} {zw : Mm} (h : fX11_type w x1 = some (zx, zw)) : AW l K cX11_type RX11 2 (some .int) rmX11_type 0 0 ap_E (ap_F K (some (.int zx)) zw) w 0 [(0, .ref (K.1 0)), (1, .int x1)] [] := by
  unfold fX11_type at h
  refine ap_iload_n dX11_type_0 1 rfl rfl ?_
  refine ap_iconst (v := 0) dX11_type_1 (by decide) ?_
  refine ap_bipush (v := 127) dX11_type_2 (by decide) ?_
  refine ap_callS (As := [.int x1, .int (0 : Int32), .int (127 : Int32)]) (st := []) (st1 := [.int (fX11_within x1 (0 : Int32) (127 : Int32))]) (mcX11_within  (w := w) (zx := fX11_within x1 (0 : Int32) (127 : Int32)) rfl) cs_X11_73 ⟨rfl, rfl, by decide, by decide⟩ rfl (Nat.le_of_ble_eq_true rfl) ⟨Nat.zero_le _, Nat.zero_le _⟩ dX11_type_4 rfl rfl ?_
  refine ap_if_ne (tgt := 17) dX11_type_7 (by decide) (fun hc1 => ?_) (fun hc1 => ?_)
  · rw [if_neg hc1] at h
    refine ap_aload_n dX11_type_17 0 rfl rfl ?_
    refine ap_get (v := .ref (K.1 51)) fl_X11_27 ly_0 rfl rfl dX11_type_18 ?_
    refine ap_get (v := .int (w.1 51 1)) fl_X11_131 ly_51 rfl rfl dX11_type_21 ?_
    refine ap_sipush (v := 150) dX11_type_24 (by decide) ?_
    refine ap_icmp_lt (tgt := 35) dX11_type_27 (by decide) (fun hc2 => ?_) (fun hc2 => ?_)
    · rw [if_pos hc2] at h
      refine ap_aload_n dX11_type_35 0 rfl rfl ?_
      refine ap_get (v := .ref (K.1 51)) fl_X11_27 ly_0 rfl rfl dX11_type_36 ?_
      refine ap_iload_n dX11_type_39 1 rfl rfl ?_
      obtain ⟨a3, m4, ha3, h⟩ := ob2_iff h
      refine ap_callV (k := 51) (As := [.int x1]) (st := []) (st1 := [.int a3]) (mcX5_append  ha3) cv_X11_134 rfl ly_51 ⟨rfl, rfl, by decide, by decide⟩ rfl (Nat.le_of_ble_eq_true rfl) ⟨Nat.zero_le _, Nat.zero_le _⟩ dX11_type_40 rfl rfl ?_
      obtain ⟨rfl, rfl⟩ := Prod.mk.inj (Option.some.inj h)
      exact ap_iret rfl dX11_type_43
    · rw [if_neg hc2] at h
      refine ap_aload_n dX11_type_30 0 rfl rfl ?_
      obtain ⟨a5, m6, ha5, h⟩ := ob2_iff h
      refine ap_callV (k := 0) (As := []) (st := []) (st1 := [.int a5]) (mcX11_full  (Option.some.inj ha5)) cv_X11_98 rfl ly_0 ⟨rfl, rfl, by decide, by decide⟩ rfl (Nat.le_of_ble_eq_true rfl) ⟨Nat.zero_le _, Nat.zero_le _⟩ dX11_type_31 rfl rfl ?_
      obtain ⟨rfl, rfl⟩ := Prod.mk.inj (Option.some.inj h)
      exact ap_iret rfl dX11_type_34
  · rw [if_pos hc1] at h
    refine ap_aload_n dX11_type_10 0 rfl rfl ?_
    refine ap_bipush (v := -2) dX11_type_11 (by decide) ?_
    obtain ⟨a7, m8, ha7, h⟩ := ob2_iff h
    refine ap_callV (k := 0) (As := [.int (-2 : Int32)]) (st := []) (st1 := [.int a7]) (mcX11_bad  (Option.some.inj ha7)) cv_X11_77 rfl ly_0 ⟨rfl, rfl, by decide, by decide⟩ rfl (Nat.le_of_ble_eq_true rfl) ⟨Nat.zero_le _, Nat.zero_le _⟩ dX11_type_13 rfl rfl ?_
    obtain ⟨rfl, rfl⟩ := Prod.mk.inj (Option.some.inj h)
    exact ap_iret rfl dX11_type_16
theorem mcX11_type {l : Launch} {K : Kt}  {w : Mm} {x1 : Int32} {zx : Int32} {zw : Mm} (h : fX11_type w x1 = some (zx, zw)) : MC l K yX11_type cX11_type 2 (some .int) rmX11_type w [.ref (K.1 0), .int x1] (some (.int zx)) zw :=
  MC.of (by decide) (Nat.le_of_ble_eq_true rfl) rfl (AX11_type  h)
def fX11_clear (w : Mm) : (Int32 × Mm) :=
((w.1 51 1), (sI w 51 1 (0 : Int32)))
set_option maxRecDepth 100000 in
set_option maxHeartbeats 4000000 in
theorem AX11_clear {l : Launch} {K : Kt}  {w : Mm} {zx : Int32} {zw : Mm} (h : fX11_clear w = (zx, zw)) : AW l K cX11_clear RX11 2 (some .int) rmX11_clear 0 0 ap_E (ap_F K (some (.int zx)) zw) w 0 [(0, .ref (K.1 0))] [] := by
  unfold fX11_clear at h
  refine ap_aload_n dX11_clear_0 0 rfl rfl ?_
  refine ap_get (v := .ref (K.1 51)) fl_X11_27 ly_0 rfl rfl dX11_clear_1 ?_
  refine ap_get (v := .int (w.1 51 1)) fl_X11_131 ly_51 rfl rfl dX11_clear_4 ?_
  refine ap_istore_n (i := 1) (lv' := [(1, .int (w.1 51 1)), (0, .ref (K.1 0))]) dX11_clear_7 rfl (by decide) rfl ?_
  refine ap_aload_n dX11_clear_8 1 rfl rfl ?_
  refine ap_get (v := .ref (K.1 51)) fl_X11_27 ly_0 rfl rfl dX11_clear_9 ?_
  refine ap_iconst (v := 0) dX11_clear_12 (by decide) ?_
  refine ap_putI (w1 := sI w 51 1 (0 : Int32)) fp_X11_131 ly_51 rfl rfl dX11_clear_13 ?_
  refine ap_iload_n dX11_clear_16 0 rfl rfl ?_
  obtain ⟨rfl, rfl⟩ := Prod.mk.inj h
  exact ap_iret rfl dX11_clear_17
theorem mcX11_clear {l : Launch} {K : Kt}  {w : Mm} {zx : Int32} {zw : Mm} (h : fX11_clear w = (zx, zw)) : MC l K yX11_clear cX11_clear 2 (some .int) rmX11_clear w [.ref (K.1 0)] (some (.int zx)) zw :=
  MC.of (by decide) (Nat.le_of_ble_eq_true rfl) rfl (AX11_clear  h)
def fX11_read (N : Nat) (w : Mm) : Option (Int32 × Mm) :=
ob2 (fX5_parse N w) fun a1 m2 =>
if a1 < (0 : Int32) then (
some (a1, m2))
else (
Option.bind (fX8_takeFrom 1 37 m2) fun m4 =>
some (a1, m4))
set_option maxRecDepth 100000 in
set_option maxHeartbeats 4000000 in
theorem AX11_read {l : Launch} {K : Kt} {N : Nat}  {w : Mm} {zx : Int32} {zw : Mm} (h : fX11_read N w = some (zx, zw)) : AW l K cX11_read RX11 2 (some .int) rmX11_read 0 0 ap_E (ap_F K (some (.int zx)) zw) w 0 [(0, .ref (K.1 0))] [] := by
  unfold fX11_read at h
  refine ap_aload_n dX11_read_0 0 rfl rfl ?_
  refine ap_get (v := .ref (K.1 51)) fl_X11_27 ly_0 rfl rfl dX11_read_1 ?_
  obtain ⟨a1, m2, ha1, h⟩ := ob2_iff h
  refine ap_callV (k := 51) (As := []) (st := []) (st1 := [.int a1]) (mcX5_parse  ha1) cv_X11_137 rfl ly_51 ⟨rfl, rfl, by decide, by decide⟩ rfl (Nat.le_of_ble_eq_true rfl) ⟨Nat.zero_le _, Nat.zero_le _⟩ dX11_read_4 rfl rfl ?_
  refine ap_istore_n (i := 1) (lv' := [(1, .int a1), (0, .ref (K.1 0))]) dX11_read_7 rfl (by decide) rfl ?_
  refine ap_iload_n dX11_read_8 0 rfl rfl ?_
  refine ap_if_lt (tgt := 26) dX11_read_9 (by decide) (fun hc3 => ?_) (fun hc3 => ?_)
  · rw [if_pos hc3] at h
    refine ap_iload_n dX11_read_26 0 rfl rfl ?_
    obtain ⟨rfl, rfl⟩ := Prod.mk.inj (Option.some.inj h)
    exact ap_iret rfl dX11_read_27
  · rw [if_neg hc3] at h
    refine ap_aload_n dX11_read_12 1 rfl rfl ?_
    refine ap_get (v := .ref (K.1 1)) fl_X11_12 ly_0 rfl rfl dX11_read_13 ?_
    refine ap_aload_n dX11_read_16 1 rfl rfl ?_
    refine ap_get (v := .ref (K.1 51)) fl_X11_27 ly_0 rfl rfl dX11_read_17 ?_
    refine ap_get (v := .ref (K.1 37)) fl_X11_140 ly_51 rfl rfl dX11_read_20 ?_
    obtain ⟨m4, hm4, h⟩ := Option.bind_eq_some_iff.mp h
    refine ap_callV (k := 1) (As := [.ref (K.1 37)]) (st := []) (st1 := []) (mcX8_takeFrom isV_1 isV_37 hm4) cv_X11_143 rfl ly_1 ⟨rfl, rfl, by decide, by decide⟩ rfl (Nat.le_of_ble_eq_true rfl) ⟨Nat.zero_le _, Nat.zero_le _⟩ dX11_read_23 rfl rfl ?_
    refine ap_iload_n dX11_read_26 0 rfl rfl ?_
    obtain ⟨rfl, rfl⟩ := Prod.mk.inj (Option.some.inj h)
    exact ap_iret rfl dX11_read_27
theorem mcX11_read {l : Launch} {K : Kt} {N : Nat}  {w : Mm} {zx : Int32} {zw : Mm} (h : fX11_read N w = some (zx, zw)) : MC l K yX11_read cX11_read 2 (some .int) rmX11_read w [.ref (K.1 0)] (some (.int zx)) zw :=
  MC.of (by decide) (Nat.le_of_ble_eq_true rfl) rfl (AX11_read  h)

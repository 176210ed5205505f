def fX6_layFitting_L214 (N : Nat) (k187 : Mm → Int32 → Option Mm) (w : Mm) (x1 : Int32) (t0 : Int32) (t1 : Int32) : Option Mm :=
Option.bind (some (sI w 68 4 (t1 + t0))) fun m23 =>
k187 m23 (x1 + 1)
set_option maxRecDepth 100000 in
set_option maxHeartbeats 4000000 in
theorem AX6_layFitting_L214 {l : Launch} {K : Kt} {N : Nat} {k187 : Mm → Int32 → Option Mm} (hk187 : ∀ (w : Mm) (x1 : Int32) (zw : Mm), k187 w x1 = some zw → AW l K cX6_layFitting RX6 7 none rmX6_layFitting 0 0 ap_E (ap_F K none zw) w 187 [(0, .ref (K.1 68)), (1, .int x1)] [])  {w : Mm} {x1 : Int32} {t0 : Int32} {t1 : Int32} {zw : Mm} (h : fX6_layFitting_L214 N k187 w x1 t0 t1 = some zw) : AW l K cX6_layFitting RX6 7 none rmX6_layFitting 0 0 ap_E (ap_F K none zw) w 214 [(0, .ref (K.1 68)), (1, .int x1)] [.int t0, .int t1, .ref (K.1 68)] := by
  unfold fX6_layFitting_L214 at h
  refine ap_iadd dX6_layFitting_214 ?_
  obtain ⟨m23, hm23, h⟩ := Option.bind_eq_some_iff.mp h
  refine ap_putI fp_X6_19 ly_68 rfl (Option.some.inj hm23) dX6_layFitting_215 ?_
  refine ap_iinc (v := x1 + 1) (lv' := [(1, .int (x1 + 1)), (0, .ref (K.1 68))]) dX6_layFitting_218 1 rfl rfl (by decide) rfl ?_
  refine ap_goto (tgt := 187) dX6_layFitting_221 (by decide) ?_
  refine ap_sub [1, 0] rfl ?_
  exact hk187 _ _ _ h
def fX6_layFitting_L187 (N : Nat) : Nat → Mm → Int32 → Option Mm
  | 0, _, _ => none
  | n0 + 1, w, x1 => if (fX6_howManySets w) ≤ x1 then (
some w)
else (
Option.bind (rdA w 70 128 x1) fun a21 =>
if a21 = (0 : Int32) then (
fX6_layFitting_L214 N (fX6_layFitting_L187 N n0) w x1 (0 : Int32) (w.1 68 4))
else (
fX6_layFitting_L214 N (fX6_layFitting_L187 N n0) w x1 (1 : Int32) (w.1 68 4)))
set_option maxRecDepth 100000 in
set_option maxHeartbeats 4000000 in
theorem AX6_layFitting_L187 {l : Launch} {K : Kt} {N : Nat}   : ∀ (n0 : Nat) (w : Mm) (x1 : Int32) {zw : Mm}, fX6_layFitting_L187 N n0 w x1 = some zw → AW l K cX6_layFitting RX6 7 none rmX6_layFitting 0 0 ap_E (ap_F K none zw) w 187 [(0, .ref (K.1 68)), (1, .int x1)] [] := by
  intro n0
  induction n0 with
  | zero =>
    intro w x1 zw h
    cases h
  | succ n0 ih =>
    intro w x1 zw h
    rw [fX6_layFitting_L187] at h
    refine ap_iload_n dX6_layFitting_187 1 rfl rfl ?_
    refine ap_aload_n dX6_layFitting_188 0 rfl rfl ?_
    refine ap_callV (k := 68) (As := []) (st := [.int x1]) (st1 := [.int (fX6_howManySets w), .int x1]) (mcX6_howManySets  (w := w) (zx := fX6_howManySets w) rfl) cv_X6_54 rfl ly_68 ⟨rfl, rfl, by decide, by decide⟩ rfl (Nat.le_of_ble_eq_true rfl) ⟨Nat.zero_le _, Nat.zero_le _⟩ dX6_layFitting_189 rfl rfl ?_
    refine ap_icmp_ge (tgt := 224) dX6_layFitting_192 (by decide) (fun hc20 => ?_) (fun hc20 => ?_)
    · rw [if_pos hc20] at h
      obtain rfl := Option.some.inj h
      exact ap_vret rfl dX6_layFitting_224
    · rw [if_neg hc20] at h
      refine ap_aload_n dX6_layFitting_195 0 rfl rfl ?_
      refine ap_dup dX6_layFitting_196 rfl ?_
      refine ap_get (v := .int (w.1 68 4)) fl_X6_19 ly_68 rfl rfl dX6_layFitting_197 ?_
      refine ap_aload_n dX6_layFitting_200 0 rfl rfl ?_
      refine ap_get (v := .ref (K.1 70)) fl_X6_15 ly_68 rfl rfl dX6_layFitting_201 ?_
      refine ap_iload_n dX6_layFitting_204 1 rfl rfl ?_
      obtain ⟨a21, ha21, h⟩ := Option.bind_eq_some_iff.mp h
      refine ap_zald ly_70 ha21 dX6_layFitting_205 ?_
      refine ap_if_eq (tgt := 213) dX6_layFitting_206 (by decide) (fun hc22 => ?_) (fun hc22 => ?_)
      · rw [if_pos hc22] at h
        refine ap_iconst (v := 0) dX6_layFitting_213 (by decide) ?_
        exact AX6_layFitting_L214 (fun q0 q1 q2 hq => ih q0 q1 hq)  h
      · rw [if_neg hc22] at h
        refine ap_iconst (v := 1) dX6_layFitting_209 (by decide) ?_
        refine ap_goto (tgt := 214) dX6_layFitting_210 (by decide) ?_
        exact AX6_layFitting_L214 (fun q0 q1 q2 hq => ih q0 q1 hq)  h
def fX6_layFitting_L167 (N : Nat) (k25 : Mm → Int32 → Option Mm) (k106 : Mm → Int32 → Int32 → Int32 → Int32 → Int32 → Option Mm) (w : Mm) (x1 : Int32) (x2 : Int32) (x3 : Int32) (x4 : Int32) (x5 : Int32) (t0 : Int32) (t1 : Int32) : Option Mm :=
Option.bind (wrA w 70 128 t1 (vp_nar .boolean t0)) fun m19 =>
k106 m19 x1 x2 x3 x4 (x5 + 1)
set_option maxRecDepth 100000 in
set_option maxHeartbeats 4000000 in
theorem AX6_layFitting_L167 {l : Launch} {K : Kt} {N : Nat} {k25 : Mm → Int32 → Option Mm} {k106 : Mm → Int32 → Int32 → Int32 → Int32 → Int32 → Option Mm} (hk25 : ∀ (w : Mm) (x1 : Int32) (zw : Mm), k25 w x1 = some zw → AW l K cX6_layFitting RX6 7 none rmX6_layFitting 0 0 ap_E (ap_F K none zw) w 25 [(0, .ref (K.1 68)), (1, .int x1)] []) (hk106 : ∀ (w : Mm) (x1 : Int32) (x2 : Int32) (x3 : Int32) (x4 : Int32) (x5 : Int32) (zw : Mm), k106 w x1 x2 x3 x4 x5 = some zw → AW l K cX6_layFitting RX6 7 none rmX6_layFitting 0 0 ap_E (ap_F K none zw) w 106 [(0, .ref (K.1 68)), (1, .int x1), (2, .int x2), (3, .int x3), (4, .int x4), (5, .int x5)] [])  {w : Mm} {x1 : Int32} {x2 : Int32} {x3 : Int32} {x4 : Int32} {x5 : Int32} {t0 : Int32} {t1 : Int32} {zw : Mm} (h : fX6_layFitting_L167 N k25 k106 w x1 x2 x3 x4 x5 t0 t1 = some zw) : AW l K cX6_layFitting RX6 7 none rmX6_layFitting 0 0 ap_E (ap_F K none zw) w 167 [(0, .ref (K.1 68)), (1, .int x1), (2, .int x2), (3, .int x3), (4, .int x4), (5, .int x5)] [.int t0, .int t1, .ref (K.1 70)] := by
  unfold fX6_layFitting_L167 at h
  obtain ⟨m19, hm19, h⟩ := Option.bind_eq_some_iff.mp h
  refine ap_zast ly_70 hm19 dX6_layFitting_167 ?_
  refine ap_iinc (v := x5 + 1) (lv' := [(5, .int (x5 + 1)), (0, .ref (K.1 68)), (1, .int x1), (2, .int x2), (3, .int x3), (4, .int x4)]) dX6_layFitting_168 5 rfl rfl (by decide) rfl ?_
  refine ap_goto (tgt := 106) dX6_layFitting_171 (by decide) ?_
  refine ap_sub [1, 2, 3, 4, 5, 0] rfl ?_
  exact hk106 _ _ _ _ _ _ _ h
def fX6_layFitting_L166 (N : Nat) (k25 : Mm → Int32 → Option Mm) (k106 : Mm → Int32 → Int32 → Int32 → Int32 → Int32 → Option Mm) (w : Mm) (x1 : Int32) (x2 : Int32) (x3 : Int32) (x4 : Int32) (x5 : Int32) (t0 : Int32) : Option Mm :=
fX6_layFitting_L167 N k25 k106 w x1 x2 x3 x4 x5 (0 : Int32) t0
set_option maxRecDepth 100000 in
set_option maxHeartbeats 4000000 in
theorem AX6_layFitting_L166 {l : Launch} {K : Kt} {N : Nat} {k25 : Mm → Int32 → Option Mm} {k106 : Mm → Int32 → Int32 → Int32 → Int32 → Int32 → Option Mm} (hk25 : ∀ (w : Mm) (x1 : Int32) (zw : Mm), k25 w x1 = some zw → AW l K cX6_layFitting RX6 7 none rmX6_layFitting 0 0 ap_E (ap_F K none zw) w 25 [(0, .ref (K.1 68)), (1, .int x1)] []) (hk106 : ∀ (w : Mm) (x1 : Int32) (x2 : Int32) (x3 : Int32) (x4 : Int32) (x5 : Int32) (zw : Mm), k106 w x1 x2 x3 x4 x5 = some zw → AW l K cX6_layFitting RX6 7 none rmX6_layFitting 0 0 ap_E (ap_F K none zw) w 106 [(0, .ref (K.1 68)), (1, .int x1), (2, .int x2), (3, .int x3), (4, .int x4), (5, .int x5)] [])  {w : Mm} {x1 : Int32} {x2 : Int32} {x3 : Int32} {x4 : Int32} {x5 : Int32} {t0 : Int32} {zw : Mm} (h : fX6_layFitting_L166 N k25 k106 w x1 x2 x3 x4 x5 t0 = some zw) : AW l K cX6_layFitting RX6 7 none rmX6_layFitting 0 0 ap_E (ap_F K none zw) w 166 [(0, .ref (K.1 68)), (1, .int x1), (2, .int x2), (3, .int x3), (4, .int x4), (5, .int x5)] [.int t0, .ref (K.1 70)] := by
  unfold fX6_layFitting_L166 at h
  refine ap_iconst (v := 0) dX6_layFitting_166 (by decide) ?_
  exact AX6_layFitting_L167 hk25 hk106  h
def fX6_layFitting_L131 (N : Nat) (k25 : Mm → Int32 → Option Mm) (k106 : Mm → Int32 → Int32 → Int32 → Int32 → Int32 → Option Mm) (w : Mm) (x1 : Int32) (x2 : Int32) (x3 : Int32) (x4 : Int32) (x5 : Int32) (t0 : Int32) : Option Mm :=
Option.bind (rdA w 70 128 x5) fun a15 =>
if a15 = (0 : Int32) then (
fX6_layFitting_L166 N k25 k106 w x1 x2 x3 x4 x5 x5)
else (
if t0 = (0 : Int32) then (
fX6_layFitting_L166 N k25 k106 w x1 x2 x3 x4 x5 x5)
else (
if (x5 &&& x4) = (0 : Int32) then (
fX6_layFitting_L167 N k25 k106 w x1 x2 x3 x4 x5 (1 : Int32) x5)
else (
fX6_layFitting_L166 N k25 k106 w x1 x2 x3 x4 x5 x5)))
set_option maxRecDepth 100000 in
set_option maxHeartbeats 4000000 in
theorem AX6_layFitting_L131 {l : Launch} {K : Kt} {N : Nat} {k25 : Mm → Int32 → Option Mm} {k106 : Mm → Int32 → Int32 → Int32 → Int32 → Int32 → Option Mm} (hk25 : ∀ (w : Mm) (x1 : Int32) (zw : Mm), k25 w x1 = some zw → AW l K cX6_layFitting RX6 7 none rmX6_layFitting 0 0 ap_E (ap_F K none zw) w 25 [(0, .ref (K.1 68)), (1, .int x1)] []) (hk106 : ∀ (w : Mm) (x1 : Int32) (x2 : Int32) (x3 : Int32) (x4 : Int32) (x5 : Int32) (zw : Mm), k106 w x1 x2 x3 x4 x5 = some zw → AW l K cX6_layFitting RX6 7 none rmX6_layFitting 0 0 ap_E (ap_F K none zw) w 106 [(0, .ref (K.1 68)), (1, .int x1), (2, .int x2), (3, .int x3), (4, .int x4), (5, .int x5)] [])  {w : Mm} {x1 : Int32} {x2 : Int32} {x3 : Int32} {x4 : Int32} {x5 : Int32} {t0 : Int32} {zw : Mm} (h : fX6_layFitting_L131 N k25 k106 w x1 x2 x3 x4 x5 t0 = some zw) : AW l K cX6_layFitting RX6 7 none rmX6_layFitting 0 0 ap_E (ap_F K none zw) w 131 [(0, .ref (K.1 68)), (1, .int x1), (2, .int x2), (3, .int x3), (4, .int x4), (5, .int x5)] [.int t0] := by
  unfold fX6_layFitting_L131 at h
  refine ap_istore (i := 6) (lv' := [(6, .int t0), (0, .ref (K.1 68)), (1, .int x1), (2, .int x2), (3, .int x3), (4, .int x4), (5, .int x5)]) dX6_layFitting_131 (by decide) rfl ?_
  refine ap_aload_n dX6_layFitting_133 1 rfl rfl ?_
  refine ap_get (v := .ref (K.1 70)) fl_X6_15 ly_68 rfl rfl dX6_layFitting_134 ?_
  refine ap_iload dX6_layFitting_137 6 rfl ?_
  refine ap_aload_n dX6_layFitting_139 1 rfl rfl ?_
  refine ap_get (v := .ref (K.1 70)) fl_X6_15 ly_68 rfl rfl dX6_layFitting_140 ?_
  refine ap_iload dX6_layFitting_143 6 rfl ?_
  obtain ⟨a15, ha15, h⟩ := Option.bind_eq_some_iff.mp h
  refine ap_zald ly_70 ha15 dX6_layFitting_145 ?_
  refine ap_if_eq (tgt := 166) dX6_layFitting_146 (by decide) (fun hc16 => ?_) (fun hc16 => ?_)
  · rw [if_pos hc16] at h
    refine ap_sub [1, 2, 3, 4, 5, 6] rfl ?_
    exact AX6_layFitting_L166 hk25 hk106  h
  · rw [if_neg hc16] at h
    refine ap_iload dX6_layFitting_149 0 rfl ?_
    refine ap_if_eq (tgt := 166) dX6_layFitting_151 (by decide) (fun hc17 => ?_) (fun hc17 => ?_)
    · rw [if_pos hc17] at h
      refine ap_sub [1, 2, 3, 4, 5, 6] rfl ?_
      exact AX6_layFitting_L166 hk25 hk106  h
    · rw [if_neg hc17] at h
      refine ap_iload dX6_layFitting_154 6 rfl ?_
      refine ap_iload dX6_layFitting_156 5 rfl ?_
      refine ap_iand dX6_layFitting_158 ?_
      refine ap_if_ne (tgt := 166) dX6_layFitting_159 (by decide) (fun hc18 => ?_) (fun hc18 => ?_)
      · rw [if_neg hc18] at h
        refine ap_sub [1, 2, 3, 4, 5, 6] rfl ?_
        exact AX6_layFitting_L166 hk25 hk106  h
      · rw [if_pos hc18] at h
        refine ap_iconst (v := 1) dX6_layFitting_162 (by decide) ?_
        refine ap_goto (tgt := 167) dX6_layFitting_163 (by decide) ?_
        refine ap_sub [1, 2, 3, 4, 5, 6] rfl ?_
        exact AX6_layFitting_L167 hk25 hk106  h
def fX6_layFitting_L106 (N : Nat) (k25 : Mm → Int32 → Option Mm) : Nat → Mm → Int32 → Int32 → Int32 → Int32 → Int32 → Option Mm
  | 0, _, _, _, _, _, _ => none
  | n0 + 1, w, x1, x2, x3, x4, x5 => if (fX6_howManySets w) ≤ x5 then (
k25 w (x1 + 1))
else (
if x2 = (0 : Int32) then (
fX6_layFitting_L131 N k25 (fX6_layFitting_L106 N k25 n0) w x1 x2 x3 x4 x5 (1 : Int32))
else (
if (x5 &&& x3) = (0 : Int32) then (
fX6_layFitting_L131 N k25 (fX6_layFitting_L106 N k25 n0) w x1 x2 x3 x4 x5 (0 : Int32))
else (
fX6_layFitting_L131 N k25 (fX6_layFitting_L106 N k25 n0) w x1 x2 x3 x4 x5 (1 : Int32))))
set_option maxRecDepth 100000 in
set_option maxHeartbeats 4000000 in
theorem AX6_layFitting_L106 {l : Launch} {K : Kt} {N : Nat} {k25 : Mm → Int32 → Option Mm} (hk25 : ∀ (w : Mm) (x1 : Int32) (zw : Mm), k25 w x1 = some zw → AW l K cX6_layFitting RX6 7 none rmX6_layFitting 0 0 ap_E (ap_F K none zw) w 25 [(0, .ref (K.1 68)), (1, .int x1)] [])  : ∀ (n0 : Nat) (w : Mm) (x1 : Int32) (x2 : Int32) (x3 : Int32) (x4 : Int32) (x5 : Int32) {zw : Mm}, fX6_layFitting_L106 N k25 n0 w x1 x2 x3 x4 x5 = some zw → AW l K cX6_layFitting RX6 7 none rmX6_layFitting 0 0 ap_E (ap_F K none zw) w 106 [(0, .ref (K.1 68)), (1, .int x1), (2, .int x2), (3, .int x3), (4, .int x4), (5, .int x5)] [] := by
  intro n0
  induction n0 with
  | zero =>
    intro w x1 x2 x3 x4 x5 zw h
    cases h
  | succ n0 ih =>
    intro w x1 x2 x3 x4 x5 zw h
    rw [fX6_layFitting_L106] at h
    refine ap_iload dX6_layFitting_106 5 rfl ?_
    refine ap_aload_n dX6_layFitting_108 0 rfl rfl ?_
    refine ap_callV (k := 68) (As := []) (st := [.int x5]) (st1 := [.int (fX6_howManySets w), .int x5]) (mcX6_howManySets  (w := w) (zx := fX6_howManySets w) rfl) cv_X6_54 rfl ly_68 ⟨rfl, rfl, by decide, by decide⟩ rfl (Nat.le_of_ble_eq_true rfl) ⟨Nat.zero_le _, Nat.zero_le _⟩ dX6_layFitting_109 rfl rfl ?_
    refine ap_icmp_ge (tgt := 174) dX6_layFitting_112 (by decide) (fun hc12 => ?_) (fun hc12 => ?_)
    · rw [if_pos hc12] at h
      refine ap_iinc (v := x1 + 1) (lv' := [(1, .int (x1 + 1)), (0, .ref (K.1 68)), (2, .int x2), (3, .int x3), (4, .int x4), (5, .int x5)]) dX6_layFitting_174 1 rfl rfl (by decide) rfl ?_
      refine ap_goto (tgt := 25) dX6_layFitting_177 (by decide) ?_
      refine ap_sub [1, 0] rfl ?_
      exact hk25 _ _ _ h
    · rw [if_neg hc12] at h
      refine ap_iload_n dX6_layFitting_115 2 rfl rfl ?_
      refine ap_if_eq (tgt := 126) dX6_layFitting_116 (by decide) (fun hc13 => ?_) (fun hc13 => ?_)
      · rw [if_pos hc13] at h
        refine ap_iconst (v := 1) dX6_layFitting_126 (by decide) ?_
        refine ap_goto (tgt := 131) dX6_layFitting_127 (by decide) ?_
        exact AX6_layFitting_L131 hk25 (fun q0 q1 q2 q3 q4 q5 q6 hq => ih q0 q1 q2 q3 q4 q5 hq)  h
      · rw [if_neg hc13] at h
        refine ap_iload dX6_layFitting_119 5 rfl ?_
        refine ap_iload_n dX6_layFitting_121 3 rfl rfl ?_
        refine ap_iand dX6_layFitting_122 ?_
        refine ap_if_eq (tgt := 130) dX6_layFitting_123 (by decide) (fun hc14 => ?_) (fun hc14 => ?_)
        · rw [if_pos hc14] at h
          refine ap_iconst (v := 0) dX6_layFitting_130 (by decide) ?_
          exact AX6_layFitting_L131 hk25 (fun q0 q1 q2 q3 q4 q5 q6 hq => ih q0 q1 q2 q3 q4 q5 hq)  h
        · rw [if_neg hc14] at h
          refine ap_iconst (v := 1) dX6_layFitting_126 (by decide) ?_
          refine ap_goto (tgt := 131) dX6_layFitting_127 (by decide) ?_
          exact AX6_layFitting_L131 hk25 (fun q0 q1 q2 q3 q4 q5 q6 hq => ih q0 q1 q2 q3 q4 q5 hq)  h
def fX6_layFitting_L25 (N : Nat) : Nat → Mm → Int32 → Option Mm
  | 0, _, _ => none
  | n0 + 1, w, x1 => if (w.1 1 10) ≤ x1 then (
Option.bind (some (sI w 68 4 (0 : Int32))) fun m4 =>
fX6_layFitting_L187 N N m4 (0 : Int32))
else (
Option.bind (rdA w 10 6 x1) fun a5 =>
Option.bind (rdA w 8 6 x1) fun a6 =>
Option.bind (rdA w 9 6 x1) fun a7 =>
Option.bind (fX3_reaching N w a6 a7 a5) fun a8 =>
Option.bind (rdA w 8 6 x1) fun a9 =>
Option.bind (rdA w 9 6 x1) fun a10 =>
Option.bind (fX3_reaching N w a9 a10 (a5 + (1 : Int32))) fun a11 =>
fX6_layFitting_L106 N (fX6_layFitting_L25 N n0) N w x1 a5 a8 a11 (0 : Int32))
set_option maxRecDepth 100000 in
set_option maxHeartbeats 4000000 in
theorem AX6_layFitting_L25 {l : Launch} {K : Kt} {N : Nat}   : ∀ (n0 : Nat) (w : Mm) (x1 : Int32) {zw : Mm}, fX6_layFitting_L25 N n0 w x1 = some zw → AW l K cX6_layFitting RX6 7 none rmX6_layFitting 0 0 ap_E (ap_F K none zw) w 25 [(0, .ref (K.1 68)), (1, .int x1)] [] := by
  intro n0
  induction n0 with
  | zero =>
    intro w x1 zw h
    cases h
  | succ n0 ih =>
    intro w x1 zw h
    rw [fX6_layFitting_L25] at h
    refine ap_iload_n dX6_layFitting_25 1 rfl rfl ?_
    refine ap_aload_n dX6_layFitting_26 0 rfl rfl ?_
    refine ap_get (v := .ref (K.1 1)) fl_X6_29 ly_68 rfl rfl dX6_layFitting_27 ?_
    refine ap_get (v := .int (w.1 1 10)) fl_X6_74 ly_1 rfl rfl dX6_layFitting_30 ?_
    refine ap_icmp_ge (tgt := 180) dX6_layFitting_33 (by decide) (fun hc3 => ?_) (fun hc3 => ?_)
    · rw [if_pos hc3] at h
      refine ap_aload_n dX6_layFitting_180 0 rfl rfl ?_
      refine ap_iconst (v := 0) dX6_layFitting_181 (by decide) ?_
      obtain ⟨m4, hm4, h⟩ := Option.bind_eq_some_iff.mp h
      refine ap_putI fp_X6_19 ly_68 rfl (Option.some.inj hm4) dX6_layFitting_182 ?_
      refine ap_iconst (v := 0) dX6_layFitting_185 (by decide) ?_
      refine ap_istore_n (i := 1) (lv' := [(1, .int (0 : Int32)), (0, .ref (K.1 68))]) dX6_layFitting_186 rfl (by decide) rfl ?_
      refine ap_sub [1, 0] rfl ?_
      exact AX6_layFitting_L187  N _ _ h
    · rw [if_neg hc3] at h
      refine ap_aload_n dX6_layFitting_36 0 rfl rfl ?_
      refine ap_get (v := .ref (K.1 1)) fl_X6_29 ly_68 rfl rfl dX6_layFitting_37 ?_
      refine ap_get (v := .ref (K.1 10)) fl_X6_77 ly_1 rfl rfl dX6_layFitting_40 ?_
      refine ap_iload_n dX6_layFitting_43 1 rfl rfl ?_
      obtain ⟨a5, ha5, h⟩ := Option.bind_eq_some_iff.mp h
      refine ap_iald ly_10 ha5 dX6_layFitting_44 ?_
      refine ap_istore_n (i := 2) (lv' := [(2, .int a5), (0, .ref (K.1 68)), (1, .int x1)]) dX6_layFitting_45 rfl (by decide) rfl ?_
      refine ap_aload_n dX6_layFitting_46 1 rfl rfl ?_
      refine ap_get (v := .ref (K.1 53)) fl_X6_33 ly_68 rfl rfl dX6_layFitting_47 ?_
      refine ap_aload_n dX6_layFitting_50 1 rfl rfl ?_
      refine ap_get (v := .ref (K.1 1)) fl_X6_29 ly_68 rfl rfl dX6_layFitting_51 ?_
      refine ap_get (v := .ref (K.1 8)) fl_X6_80 ly_1 rfl rfl dX6_layFitting_54 ?_
      refine ap_iload_n dX6_layFitting_57 2 rfl rfl ?_
      obtain ⟨a6, ha6, h⟩ := Option.bind_eq_some_iff.mp h
      refine ap_iald ly_8 ha6 dX6_layFitting_58 ?_
      refine ap_aload_n dX6_layFitting_59 1 rfl rfl ?_
      refine ap_get (v := .ref (K.1 1)) fl_X6_29 ly_68 rfl rfl dX6_layFitting_60 ?_
      refine ap_get (v := .ref (K.1 9)) fl_X6_83 ly_1 rfl rfl dX6_layFitting_63 ?_
      refine ap_iload_n dX6_layFitting_66 2 rfl rfl ?_
      obtain ⟨a7, ha7, h⟩ := Option.bind_eq_some_iff.mp h
      refine ap_iald ly_9 ha7 dX6_layFitting_67 ?_
      refine ap_iload_n dX6_layFitting_68 0 rfl rfl ?_
      obtain ⟨a8, ha8, h⟩ := Option.bind_eq_some_iff.mp h
      refine ap_callV (k := 53) (As := [.int a6, .int a7, .int a5]) (st := []) (st1 := [.int a8]) (mcX3_reaching  (w := w) ha8) cv_X6_48 rfl ly_53 ⟨rfl, rfl, by decide, by decide⟩ rfl (Nat.le_of_ble_eq_true rfl) ⟨Nat.zero_le _, Nat.zero_le _⟩ dX6_layFitting_69 rfl rfl ?_
      refine ap_istore_n (i := 3) (lv' := [(3, .int a8), (2, .int a5), (0, .ref (K.1 68)), (1, .int x1)]) dX6_layFitting_72 rfl (by decide) rfl ?_
      refine ap_aload_n dX6_layFitting_73 2 rfl rfl ?_
      refine ap_get (v := .ref (K.1 53)) fl_X6_33 ly_68 rfl rfl dX6_layFitting_74 ?_
      refine ap_aload_n dX6_layFitting_77 2 rfl rfl ?_
      refine ap_get (v := .ref (K.1 1)) fl_X6_29 ly_68 rfl rfl dX6_layFitting_78 ?_
      refine ap_get (v := .ref (K.1 8)) fl_X6_80 ly_1 rfl rfl dX6_layFitting_81 ?_
      refine ap_iload_n dX6_layFitting_84 3 rfl rfl ?_
      obtain ⟨a9, ha9, h⟩ := Option.bind_eq_some_iff.mp h
      refine ap_iald ly_8 ha9 dX6_layFitting_85 ?_
      refine ap_aload_n dX6_layFitting_86 2 rfl rfl ?_
      refine ap_get (v := .ref (K.1 1)) fl_X6_29 ly_68 rfl rfl dX6_layFitting_87 ?_
      refine ap_get (v := .ref (K.1 9)) fl_X6_83 ly_1 rfl rfl dX6_layFitting_90 ?_
      refine ap_iload_n dX6_layFitting_93 3 rfl rfl ?_
      obtain ⟨a10, ha10, h⟩ := Option.bind_eq_some_iff.mp h
      refine ap_iald ly_9 ha10 dX6_layFitting_94 ?_
      refine ap_iload_n dX6_layFitting_95 1 rfl rfl ?_
      refine ap_iconst (v := 1) dX6_layFitting_96 (by decide) ?_
      refine ap_iadd dX6_layFitting_97 ?_
      obtain ⟨a11, ha11, h⟩ := Option.bind_eq_some_iff.mp h
      refine ap_callV (k := 53) (As := [.int a9, .int a10, .int (a5 + (1 : Int32))]) (st := []) (st1 := [.int a11]) (mcX3_reaching  (w := w) ha11) cv_X6_48 rfl ly_53 ⟨rfl, rfl, by decide, by decide⟩ rfl (Nat.le_of_ble_eq_true rfl) ⟨Nat.zero_le _, Nat.zero_le _⟩ dX6_layFitting_98 rfl rfl ?_
      refine ap_istore (i := 4) (lv' := [(4, .int a11), (3, .int a8), (2, .int a5), (0, .ref (K.1 68)), (1, .int x1)]) dX6_layFitting_101 (by decide) rfl ?_
      refine ap_iconst (v := 0) dX6_layFitting_103 (by decide) ?_
      refine ap_istore (i := 5) (lv' := [(5, .int (0 : Int32)), (4, .int a11), (3, .int a8), (2, .int a5), (0, .ref (K.1 68)), (1, .int x1)]) dX6_layFitting_104 (by decide) rfl ?_
      refine ap_sub [4, 5, 3, 2, 1, 0] rfl ?_
      exact AX6_layFitting_L106 (fun q0 q1 q2 hq => ih q0 q1 hq)  N _ _ _ _ _ _ h
def fX6_layFitting_L2 (N : Nat) : Nat → Mm → Int32 → Option Mm
  | 0, _, _ => none
  | n0 + 1, w, x1 => if (fX6_howManySets w) ≤ x1 then (
fX6_layFitting_L25 N N w (0 : Int32))
else (
Option.bind (wrA w 70 128 x1 (vp_nar .boolean (1 : Int32))) fun m2 =>
(fX6_layFitting_L2 N n0) m2 (x1 + 1))
set_option maxRecDepth 100000 in
set_option maxHeartbeats 4000000 in
theorem AX6_layFitting_L2 {l : Launch} {K : Kt} {N : Nat}   : ∀ (n0 : Nat) (w : Mm) (x1 : Int32) {zw : Mm}, fX6_layFitting_L2 N n0 w x1 = some zw → AW l K cX6_layFitting RX6 7 none rmX6_layFitting 0 0 ap_E (ap_F K none zw) w 2 [(0, .ref (K.1 68)), (1, .int x1)] [] := by
  intro n0
  induction n0 with
  | zero =>
    intro w x1 zw h
    cases h
  | succ n0 ih =>
    intro w x1 zw h
    rw [fX6_layFitting_L2] at h
    refine ap_iload_n dX6_layFitting_2 1 rfl rfl ?_
    refine ap_aload_n dX6_layFitting_3 0 rfl rfl ?_
    refine ap_callV (k := 68) (As := []) (st := [.int x1]) (st1 := [.int (fX6_howManySets w), .int x1]) (mcX6_howManySets  (w := w) (zx := fX6_howManySets w) rfl) cv_X6_54 rfl ly_68 ⟨rfl, rfl, by decide, by decide⟩ rfl (Nat.le_of_ble_eq_true rfl) ⟨Nat.zero_le _, Nat.zero_le _⟩ dX6_layFitting_4 rfl rfl ?_
    refine ap_icmp_ge (tgt := 23) dX6_layFitting_7 (by decide) (fun hc1 => ?_) (fun hc1 => ?_)
    · rw [if_pos hc1] at h
      refine ap_iconst (v := 0) dX6_layFitting_23 (by decide) ?_
      refine ap_istore_n (i := 1) (lv' := [(1, .int (0 : Int32)), (0, .ref (K.1 68))]) dX6_layFitting_24 rfl (by decide) rfl ?_
      refine ap_sub [1, 0] rfl ?_
      exact AX6_layFitting_L25  N _ _ h
    · rw [if_neg hc1] at h
      refine ap_aload_n dX6_layFitting_10 0 rfl rfl ?_
      refine ap_get (v := .ref (K.1 70)) fl_X6_15 ly_68 rfl rfl dX6_layFitting_11 ?_
      refine ap_iload_n dX6_layFitting_14 1 rfl rfl ?_
      refine ap_iconst (v := 1) dX6_layFitting_15 (by decide) ?_
      obtain ⟨m2, hm2, h⟩ := Option.bind_eq_some_iff.mp h
      refine ap_zast ly_70 hm2 dX6_layFitting_16 ?_
      refine ap_iinc (v := x1 + 1) (lv' := [(1, .int (x1 + 1)), (0, .ref (K.1 68))]) dX6_layFitting_17 1 rfl rfl (by decide) rfl ?_
      refine ap_goto (tgt := 2) dX6_layFitting_20 (by decide) ?_
      refine ap_sub [1, 0] rfl ?_
      exact ih _ _ h
def fX6_layFitting (N : Nat) (w : Mm) : Option Mm :=
fX6_layFitting_L2 N N w (0 : Int32)
set_option maxRecDepth 100000 in
set_option maxHeartbeats 4000000 in
theorem AX6_layFitting {l : Launch} {K : Kt} {N : Nat}  {w : Mm} {zw : Mm} (h : fX6_layFitting N w = some zw) : AW l K cX6_layFitting RX6 7 none rmX6_layFitting 0 0 ap_E (ap_F K none zw) w 0 [(0, .ref (K.1 68))] [] := by
  unfold fX6_layFitting at h
  refine ap_iconst (v := 0) dX6_layFitting_0 (by decide) ?_
  refine ap_istore_n (i := 1) (lv' := [(1, .int (0 : Int32)), (0, .ref (K.1 68))]) dX6_layFitting_1 rfl (by decide) rfl ?_
  refine ap_sub [1, 0] rfl ?_
  exact AX6_layFitting_L2  N _ _ h
theorem mcX6_layFitting {l : Launch} {K : Kt} {N : Nat}  {w : Mm} {zw : Mm} (h : fX6_layFitting N w = some zw) : MC l K yX6_layFitting cX6_layFitting 7 none rmX6_layFitting w [.ref (K.1 68)] none zw :=
  MC.of (by decide) (Nat.le_of_ble_eq_true rfl) rfl (AX6_layFitting  h)
def fX6_inAll_L18 (N : Nat) (w : Mm) : Nat → Int32 → Int32 → Option Int32
  | 0, _, _ => none
  | n0 + 1, x1, x2 => if (fX6_howManySets w) ≤ x2 then (
some x1)
else (
Option.bind (rdA w 70 128 x2) fun a3 =>
if a3 = (0 : Int32) then (
(fX6_inAll_L18 N w n0) x1 (x2 + 1))
else (
(fX6_inAll_L18 N w n0) (x1 &&& x2) (x2 + 1)))
set_option maxRecDepth 100000 in
set_option maxHeartbeats 4000000 in
theorem AX6_inAll_L18 {l : Launch} {K : Kt} {N : Nat} {w : Mm}   : ∀ (n0 : Nat) (x1 : Int32) (x2 : Int32) {zx : Int32}, fX6_inAll_L18 N w n0 x1 x2 = some zx → AW l K cX6_inAll RX6 3 (some .int) rmX6_inAll 0 0 ap_E (ap_F K (some (.int zx)) w) w 18 [(0, .ref (K.1 68)), (1, .int x1), (2, .int x2)] [] := by
  intro n0
  induction n0 with
  | zero =>
    intro x1 x2 zx h
    cases h
  | succ n0 ih =>
    intro x1 x2 zx h
    rw [fX6_inAll_L18] at h
    refine ap_iload_n dX6_inAll_18 2 rfl rfl ?_
    refine ap_aload_n dX6_inAll_19 0 rfl rfl ?_
    refine ap_callV (k := 68) (As := []) (st := [.int x2]) (st1 := [.int (fX6_howManySets w), .int x2]) (mcX6_howManySets  (w := w) (zx := fX6_howManySets w) rfl) cv_X6_54 rfl ly_68 ⟨rfl, rfl, by decide, by decide⟩ rfl (Nat.le_of_ble_eq_true rfl) ⟨Nat.zero_le _, Nat.zero_le _⟩ dX6_inAll_20 rfl rfl ?_
    refine ap_icmp_ge (tgt := 45) dX6_inAll_23 (by decide) (fun hc2 => ?_) (fun hc2 => ?_)
    · rw [if_pos hc2] at h
      refine ap_iload_n dX6_inAll_45 1 rfl rfl ?_
      obtain rfl := Option.some.inj h
      exact ap_iret rfl dX6_inAll_46
    · rw [if_neg hc2] at h
      refine ap_aload_n dX6_inAll_26 0 rfl rfl ?_
      refine ap_get (v := .ref (K.1 70)) fl_X6_15 ly_68 rfl rfl dX6_inAll_27 ?_
      refine ap_iload_n dX6_inAll_30 2 rfl rfl ?_
      obtain ⟨a3, ha3, h⟩ := Option.bind_eq_some_iff.mp h
      refine ap_zald ly_70 ha3 dX6_inAll_31 ?_
      refine ap_if_eq (tgt := 39) dX6_inAll_32 (by decide) (fun hc4 => ?_) (fun hc4 => ?_)
      · rw [if_pos hc4] at h
        refine ap_iinc (v := x2 + 1) (lv' := [(2, .int (x2 + 1)), (0, .ref (K.1 68)), (1, .int x1)]) dX6_inAll_39 2 rfl rfl (by decide) rfl ?_
        refine ap_goto (tgt := 18) dX6_inAll_42 (by decide) ?_
        refine ap_sub [1, 2, 0] rfl ?_
        exact ih _ _ h
      · rw [if_neg hc4] at h
        refine ap_iload_n dX6_inAll_35 1 rfl rfl ?_
        refine ap_iload_n dX6_inAll_36 2 rfl rfl ?_
        refine ap_iand dX6_inAll_37 ?_
        refine ap_istore_n (i := 1) (lv' := [(1, .int (x1 &&& x2)), (0, .ref (K.1 68)), (2, .int x2)]) dX6_inAll_38 rfl (by decide) rfl ?_
        refine ap_iinc (v := x2 + 1) (lv' := [(2, .int (x2 + 1)), (1, .int (x1 &&& x2)), (0, .ref (K.1 68))]) dX6_inAll_39 2 rfl rfl (by decide) rfl ?_
        refine ap_goto (tgt := 18) dX6_inAll_42 (by decide) ?_
        refine ap_sub [2, 1, 0] rfl ?_
        exact ih _ _ h
def fX6_inAll (N : Nat) (w : Mm) : Option Int32 :=
if (w.1 68 4) = (0 : Int32) then (
some (-1 : Int32))
else (
fX6_inAll_L18 N w N ((fX6_howManySets w) - (1 : Int32)) (0 : Int32))
set_option maxRecDepth 100000 in
set_option maxHeartbeats 4000000 in
theorem AX6_inAll {l : Launch} {K : Kt} {N : Nat} {w : Mm}  {zx : Int32} (h : fX6_inAll N w = some zx) : AW l K cX6_inAll RX6 3 (some .int) rmX6_inAll 0 0 ap_E (ap_F K (some (.int zx)) w) w 0 [(0, .ref (K.1 68))] [] := by
  unfold fX6_inAll at h
  refine ap_aload_n dX6_inAll_0 0 rfl rfl ?_
  refine ap_get (v := .int (w.1 68 4)) fl_X6_19 ly_68 rfl rfl dX6_inAll_1 ?_
  refine ap_if_ne (tgt := 9) dX6_inAll_4 (by decide) (fun hc1 => ?_) (fun hc1 => ?_)
  · rw [if_neg hc1] at h
    refine ap_aload_n dX6_inAll_9 0 rfl rfl ?_
    refine ap_callV (k := 68) (As := []) (st := []) (st1 := [.int (fX6_howManySets w)]) (mcX6_howManySets  (w := w) (zx := fX6_howManySets w) rfl) cv_X6_54 rfl ly_68 ⟨rfl, rfl, by decide, by decide⟩ rfl (Nat.le_of_ble_eq_true rfl) ⟨Nat.zero_le _, Nat.zero_le _⟩ dX6_inAll_10 rfl rfl ?_
    refine ap_iconst (v := 1) dX6_inAll_13 (by decide) ?_
    refine ap_isub dX6_inAll_14 ?_
    refine ap_istore_n (i := 1) (lv' := [(1, .int ((fX6_howManySets w) - (1 : Int32))), (0, .ref (K.1 68))]) dX6_inAll_15 rfl (by decide) rfl ?_
    refine ap_iconst (v := 0) dX6_inAll_16 (by decide) ?_
    refine ap_istore_n (i := 2) (lv' := [(2, .int (0 : Int32)), (1, .int ((fX6_howManySets w) - (1 : Int32))), (0, .ref (K.1 68))]) dX6_inAll_17 rfl (by decide) rfl ?_
    refine ap_sub [2, 1, 0] rfl ?_
    exact AX6_inAll_L18  N _ _ h
  · rw [if_pos hc1] at h
    refine ap_iconst (v := -1) dX6_inAll_7 (by decide) ?_
    obtain rfl := Option.some.inj h
    exact ap_iret rfl dX6_inAll_8
theorem mcX6_inAll {l : Launch} {K : Kt} {N : Nat} {w : Mm}  {zx : Int32} (h : fX6_inAll N w = some zx) : MC l K yX6_inAll cX6_inAll 3 (some .int) rmX6_inAll w [.ref (K.1 68)] (some (.int zx)) w :=
  MC.of (by decide) (Nat.le_of_ble_eq_true rfl) rfl (AX6_inAll  h)
def fX6_layLight_L43 (N : Nat) (k9 : Mm → Int32 → Int32 → Option Mm) : Nat → Mm → Int32 → Int32 → Int32 → Int32 → Int32 → Option Mm
  | 0, _, _, _, _, _, _ => none
  | n0 + 1, w, x1, x2, x3, x4, x5 => if ((2 : Int32) * x3) ≤ x5 then (
k9 w x1 (x2 + 1))
else (
Option.bind (rdA w 71 128 (x5 - x3)) fun a5 =>
Option.bind (wrA w 71 128 x5 (mxI a5 x4)) fun m6 =>
(fX6_layLight_L43 N k9 n0) m6 x1 x2 x3 x4 (x5 + 1))
set_option maxRecDepth 100000 in
set_option maxHeartbeats 4000000 in
theorem AX6_layLight_L43 {l : Launch} {K : Kt} {N : Nat} {k9 : Mm → Int32 → Int32 → Option Mm} (hk9 : ∀ (w : Mm) (x1 : Int32) (x2 : Int32) (zw : Mm), k9 w x1 x2 = some zw → AW l K cX6_layLight RX6 6 none rmX6_layLight 0 0 ap_E (ap_F K none zw) w 9 [(0, .ref (K.1 68)), (1, .int x1), (2, .int x2)] [])  : ∀ (n0 : Nat) (w : Mm) (x1 : Int32) (x2 : Int32) (x3 : Int32) (x4 : Int32) (x5 : Int32) {zw : Mm}, fX6_layLight_L43 N k9 n0 w x1 x2 x3 x4 x5 = some zw → AW l K cX6_layLight RX6 6 none rmX6_layLight 0 0 ap_E (ap_F K none zw) w 43 [(0, .ref (K.1 68)), (1, .int x1), (2, .int x2), (3, .int x3), (4, .int x4), (5, .int x5)] [] := by
  intro n0
  induction n0 with
  | zero =>
    intro w x1 x2 x3 x4 x5 zw h
    cases h
  | succ n0 ih =>
    intro w x1 x2 x3 x4 x5 zw h
    rw [fX6_layLight_L43] at h
    refine ap_iload dX6_layLight_43 5 rfl ?_
    refine ap_iconst (v := 2) dX6_layLight_45 (by decide) ?_
    refine ap_iload_n dX6_layLight_46 3 rfl rfl ?_
    refine ap_imul dX6_layLight_47 ?_
    refine ap_icmp_ge (tgt := 78) dX6_layLight_48 (by decide) (fun hc4 => ?_) (fun hc4 => ?_)
    · rw [if_pos hc4] at h
      refine ap_iinc (v := x2 + 1) (lv' := [(2, .int (x2 + 1)), (0, .ref (K.1 68)), (1, .int x1), (3, .int x3), (4, .int x4), (5, .int x5)]) dX6_layLight_78 2 rfl rfl (by decide) rfl ?_
      refine ap_goto (tgt := 9) dX6_layLight_81 (by decide) ?_
      refine ap_sub [1, 2, 0] rfl ?_
      exact hk9 _ _ _ _ h
    · rw [if_neg hc4] at h
      refine ap_aload_n dX6_layLight_51 0 rfl rfl ?_
      refine ap_get (v := .ref (K.1 71)) fl_X6_23 ly_68 rfl rfl dX6_layLight_52 ?_
      refine ap_iload dX6_layLight_55 5 rfl ?_
      refine ap_aload_n dX6_layLight_57 0 rfl rfl ?_
      refine ap_get (v := .ref (K.1 71)) fl_X6_23 ly_68 rfl rfl dX6_layLight_58 ?_
      refine ap_iload dX6_layLight_61 5 rfl ?_
      refine ap_iload_n dX6_layLight_63 3 rfl rfl ?_
      refine ap_isub dX6_layLight_64 ?_
      obtain ⟨a5, ha5, h⟩ := Option.bind_eq_some_iff.mp h
      refine ap_iald ly_71 ha5 dX6_layLight_65 ?_
      refine ap_iload dX6_layLight_66 4 rfl ?_
      refine ap_mmax wd_839 ⟨by decide, by decide⟩ (Nat.le_of_ble_eq_true rfl) ⟨Nat.zero_le _, Nat.zero_le _⟩ dX6_layLight_68 ?_
      obtain ⟨m6, hm6, h⟩ := Option.bind_eq_some_iff.mp h
      refine ap_iast ly_71 hm6 dX6_layLight_71 ?_
      refine ap_iinc (v := x5 + 1) (lv' := [(5, .int (x5 + 1)), (0, .ref (K.1 68)), (1, .int x1), (2, .int x2), (3, .int x3), (4, .int x4)]) dX6_layLight_72 5 rfl rfl (by decide) rfl ?_
      refine ap_goto (tgt := 43) dX6_layLight_75 (by decide) ?_
      refine ap_sub [1, 2, 3, 4, 5, 0] rfl ?_
      exact ih _ _ _ _ _ _ h
def fX6_layLight_L9 (N : Nat) : Nat → Mm → Int32 → Int32 → Option Mm
  | 0, _, _, _ => none
  | n0 + 1, w, x1, x2 => if (w.1 1 1) ≤ x2 then (
some w)
else (
Option.bind (rdA w 61 448 ((x1 * (7 : Int32)) + x2)) fun a3 =>
fX6_layLight_L43 N (fX6_layLight_L9 N n0) N w x1 x2 ((1 : Int32) <<< (x2 &&& 31)) a3 ((1 : Int32) <<< (x2 &&& 31)))
set_option maxRecDepth 100000 in
set_option maxHeartbeats 4000000 in
theorem AX6_layLight_L9 {l : Launch} {K : Kt} {N : Nat}   : ∀ (n0 : Nat) (w : Mm) (x1 : Int32) (x2 : Int32) {zw : Mm}, fX6_layLight_L9 N n0 w x1 x2 = some zw → AW l K cX6_layLight RX6 6 none rmX6_layLight 0 0 ap_E (ap_F K none zw) w 9 [(0, .ref (K.1 68)), (1, .int x1), (2, .int x2)] [] := by
  intro n0
  induction n0 with
  | zero =>
    intro w x1 x2 zw h
    cases h
  | succ n0 ih =>
    intro w x1 x2 zw h
    rw [fX6_layLight_L9] at h
    refine ap_iload_n dX6_layLight_9 2 rfl rfl ?_
    refine ap_aload_n dX6_layLight_10 0 rfl rfl ?_
    refine ap_get (v := .ref (K.1 1)) fl_X6_29 ly_68 rfl rfl dX6_layLight_11 ?_
    refine ap_get (v := .int (w.1 1 1)) fl_X6_37 ly_1 rfl rfl dX6_layLight_14 ?_
    refine ap_icmp_ge (tgt := 84) dX6_layLight_17 (by decide) (fun hc2 => ?_) (fun hc2 => ?_)
    · rw [if_pos hc2] at h
      obtain rfl := Option.some.inj h
      exact ap_vret rfl dX6_layLight_84
    · rw [if_neg hc2] at h
      refine ap_iconst (v := 1) dX6_layLight_20 (by decide) ?_
      refine ap_iload_n dX6_layLight_21 2 rfl rfl ?_
      refine ap_ishl dX6_layLight_22 ?_
      refine ap_istore_n (i := 3) (lv' := [(3, .int ((1 : Int32) <<< (x2 &&& 31))), (0, .ref (K.1 68)), (1, .int x1), (2, .int x2)]) dX6_layLight_23 rfl (by decide) rfl ?_
      refine ap_aload_n dX6_layLight_24 1 rfl rfl ?_
      refine ap_get (v := .ref (K.1 53)) fl_X6_33 ly_68 rfl rfl dX6_layLight_25 ?_
      refine ap_get (v := .ref (K.1 61)) fl_X6_99 ly_53 rfl rfl dX6_layLight_28 ?_
      refine ap_iload_n dX6_layLight_31 2 rfl rfl ?_
      refine ap_bipush (v := 7) dX6_layLight_32 (by decide) ?_
      refine ap_imul dX6_layLight_34 ?_
      refine ap_iload_n dX6_layLight_35 3 rfl rfl ?_
      refine ap_iadd dX6_layLight_36 ?_
      obtain ⟨a3, ha3, h⟩ := Option.bind_eq_some_iff.mp h
      refine ap_iald ly_61 ha3 dX6_layLight_37 ?_
      refine ap_istore (i := 4) (lv' := [(4, .int a3), (3, .int ((1 : Int32) <<< (x2 &&& 31))), (0, .ref (K.1 68)), (1, .int x1), (2, .int x2)]) dX6_layLight_38 (by decide) rfl ?_
      refine ap_iload_n dX6_layLight_40 1 rfl rfl ?_
      refine ap_istore (i := 5) (lv' := [(5, .int ((1 : Int32) <<< (x2 &&& 31))), (4, .int a3), (3, .int ((1 : Int32) <<< (x2 &&& 31))), (0, .ref (K.1 68)), (1, .int x1), (2, .int x2)]) dX6_layLight_41 (by decide) rfl ?_
      refine ap_sub [3, 4, 5, 2, 1, 0] rfl ?_
      exact AX6_layLight_L43 (fun q0 q1 q2 q3 hq => ih q0 q1 q2 hq)  N _ _ _ _ _ _ h
def fX6_layLight (N : Nat) (w : Mm) (x1 : Int32) : Option Mm :=
Option.bind (some (sI w 71 0 (0 : Int32))) fun m1 =>
fX6_layLight_L9 N N m1 x1 (0 : Int32)
set_option maxRecDepth 100000 in
set_option maxHeartbeats 4000000 in
theorem AX6_layLight {l : Launch} {K : Kt} {N : Nat}  {w : Mm} {x1 : Int32} {zw : Mm} (h : fX6_layLight N w x1 = some zw) : AW l K cX6_layLight RX6 6 none rmX6_layLight 0 0 ap_E (ap_F K none zw) w 0 [(0, .ref (K.1 68)), (1, .int x1)] [] := by
  unfold fX6_layLight at h
  refine ap_aload_n dX6_layLight_0 0 rfl rfl ?_
  refine ap_get (v := .ref (K.1 71)) fl_X6_23 ly_68 rfl rfl dX6_layLight_1 ?_
  refine ap_iconst (v := 0) dX6_layLight_4 (by decide) ?_
  refine ap_iconst (v := 0) dX6_layLight_5 (by decide) ?_
  obtain ⟨m1, hm1, h⟩ := Option.bind_eq_some_iff.mp h
  refine ap_iast ly_71 ((wrA_c (by decide) (by decide)).trans hm1) dX6_layLight_6 ?_
  refine ap_iconst (v := 0) dX6_layLight_7 (by decide) ?_
  refine ap_istore_n (i := 2) (lv' := [(2, .int (0 : Int32)), (0, .ref (K.1 68)), (1, .int x1)]) dX6_layLight_8 rfl (by decide) rfl ?_
  refine ap_sub [1, 2, 0] rfl ?_
  exact AX6_layLight_L9  N _ _ _ h
theorem mcX6_layLight {l : Launch} {K : Kt} {N : Nat}  {w : Mm} {x1 : Int32} {zw : Mm} (h : fX6_layLight N w x1 = some zw) : MC l K yX6_layLight cX6_layLight 6 none rmX6_layLight w [.ref (K.1 68), .int x1] none zw :=
  MC.of (by decide) (Nat.le_of_ble_eq_true rfl) rfl (AX6_layLight  h)
def fX6_mostAlike_L30 (N : Nat) : Nat → Mm → Int32 → Int32 → Option (Int32 × Mm)
  | 0, _, _, _ => none
  | n0 + 1, w, x2, x3 => if (fX6_howManySets w) ≤ x3 then (
some (x2, w))
else (
Option.bind (rdA w 71 128 x3) fun a5 =>
Option.bind (rdA w 70 128 x3) fun a6 =>
if a6 = (0 : Int32) then (
(fX6_mostAlike_L30 N n0) w x2 (x3 + 1))
else (
if a5 < (0 : Int32) then (
(fX6_mostAlike_L30 N n0) w x2 (x3 + 1))
else (
if (23 : Int32) < a5 then (
(fX6_mostAlike_L30 N n0) w x2 (x3 + 1))
else (
Option.bind (rdA w 72 24 a5) fun a10 =>
Option.bind (wrA w 72 24 a5 (a10 + (1 : Int32))) fun m11 =>
Option.bind (rdA m11 72 24 a5) fun a12 =>
(fX6_mostAlike_L30 N n0) m11 (mxI x2 a12) (x3 + 1)))))
set_option maxRecDepth 100000 in
set_option maxHeartbeats 4000000 in
theorem AX6_mostAlike_L30 {l : Launch} {K : Kt} {N : Nat}   : ∀ (n0 : Nat) (w : Mm) (x2 : Int32) (x3 : Int32) {zx : Int32} {zw : Mm}, fX6_mostAlike_L30 N n0 w x2 x3 = some (zx, zw) → AW l K cX6_mostAlike RX6 5 (some .int) rmX6_mostAlike 0 0 ap_E (ap_F K (some (.int zx)) zw) w 30 [(0, .ref (K.1 68)), (2, .int x2), (3, .int x3)] [] := by
  intro n0
  induction n0 with
  | zero =>
    intro w x2 x3 zx zw h
    cases h
  | succ n0 ih =>
    intro w x2 x3 zx zw h
    rw [fX6_mostAlike_L30] at h
    refine ap_iload_n dX6_mostAlike_30 2 rfl rfl ?_
    refine ap_aload_n dX6_mostAlike_31 0 rfl rfl ?_
    refine ap_callV (k := 68) (As := []) (st := [.int x3]) (st1 := [.int (fX6_howManySets w), .int x3]) (mcX6_howManySets  (w := w) (zx := fX6_howManySets w) rfl) cv_X6_54 rfl ly_68 ⟨rfl, rfl, by decide, by decide⟩ rfl (Nat.le_of_ble_eq_true rfl) ⟨Nat.zero_le _, Nat.zero_le _⟩ dX6_mostAlike_32 rfl rfl ?_
    refine ap_icmp_ge (tgt := 96) dX6_mostAlike_35 (by decide) (fun hc4 => ?_) (fun hc4 => ?_)
    · rw [if_pos hc4] at h
      refine ap_iload_n dX6_mostAlike_96 1 rfl rfl ?_
      obtain ⟨rfl, rfl⟩ := Prod.mk.inj (Option.some.inj h)
      exact ap_iret rfl dX6_mostAlike_97
    · rw [if_neg hc4] at h
      refine ap_aload_n dX6_mostAlike_38 0 rfl rfl ?_
      refine ap_get (v := .ref (K.1 71)) fl_X6_23 ly_68 rfl rfl dX6_mostAlike_39 ?_
      refine ap_iload_n dX6_mostAlike_42 2 rfl rfl ?_
      obtain ⟨a5, ha5, h⟩ := Option.bind_eq_some_iff.mp h
      refine ap_iald ly_71 ha5 dX6_mostAlike_43 ?_
      refine ap_istore (i := 4) (lv' := [(4, .int a5), (0, .ref (K.1 68)), (2, .int x2), (3, .int x3)]) dX6_mostAlike_44 (by decide) rfl ?_
      refine ap_aload_n dX6_mostAlike_46 1 rfl rfl ?_
      refine ap_get (v := .ref (K.1 70)) fl_X6_15 ly_68 rfl rfl dX6_mostAlike_47 ?_
      refine ap_iload_n dX6_mostAlike_50 3 rfl rfl ?_
      obtain ⟨a6, ha6, h⟩ := Option.bind_eq_some_iff.mp h
      refine ap_zald ly_70 ha6 dX6_mostAlike_51 ?_
      refine ap_if_eq (tgt := 90) dX6_mostAlike_52 (by decide) (fun hc7 => ?_) (fun hc7 => ?_)
      · rw [if_pos hc7] at h
        refine ap_iinc (v := x3 + 1) (lv' := [(3, .int (x3 + 1)), (4, .int a5), (0, .ref (K.1 68)), (2, .int x2)]) dX6_mostAlike_90 3 rfl rfl (by decide) rfl ?_
        refine ap_goto (tgt := 30) dX6_mostAlike_93 (by decide) ?_
        refine ap_sub [2, 3, 0] rfl ?_
        exact ih _ _ _ h
      · rw [if_neg hc7] at h
        refine ap_iload dX6_mostAlike_55 0 rfl ?_
        refine ap_if_lt (tgt := 90) dX6_mostAlike_57 (by decide) (fun hc8 => ?_) (fun hc8 => ?_)
        · rw [if_pos hc8] at h
          refine ap_iinc (v := x3 + 1) (lv' := [(3, .int (x3 + 1)), (4, .int a5), (0, .ref (K.1 68)), (2, .int x2)]) dX6_mostAlike_90 3 rfl rfl (by decide) rfl ?_
          refine ap_goto (tgt := 30) dX6_mostAlike_93 (by decide) ?_
          refine ap_sub [2, 3, 0] rfl ?_
          exact ih _ _ _ h
        · rw [if_neg hc8] at h
          refine ap_iload dX6_mostAlike_60 0 rfl ?_
          refine ap_bipush (v := 23) dX6_mostAlike_62 (by decide) ?_
          refine ap_icmp_gt (tgt := 90) dX6_mostAlike_64 (by decide) (fun hc9 => ?_) (fun hc9 => ?_)
          · rw [if_pos hc9] at h
            refine ap_iinc (v := x3 + 1) (lv' := [(3, .int (x3 + 1)), (4, .int a5), (0, .ref (K.1 68)), (2, .int x2)]) dX6_mostAlike_90 3 rfl rfl (by decide) rfl ?_
            refine ap_goto (tgt := 30) dX6_mostAlike_93 (by decide) ?_
            refine ap_sub [2, 3, 0] rfl ?_
            exact ih _ _ _ h
          · rw [if_neg hc9] at h
            refine ap_aload_n dX6_mostAlike_67 1 rfl rfl ?_
            refine ap_get (v := .ref (K.1 72)) fl_X6_26 ly_68 rfl rfl dX6_mostAlike_68 ?_
            refine ap_iload dX6_mostAlike_71 0 rfl ?_
            refine ap_dup2 dX6_mostAlike_73 rfl rfl ?_
            obtain ⟨a10, ha10, h⟩ := Option.bind_eq_some_iff.mp h
            refine ap_iald ly_72 ha10 dX6_mostAlike_74 ?_
            refine ap_iconst (v := 1) dX6_mostAlike_75 (by decide) ?_
            refine ap_iadd dX6_mostAlike_76 ?_
            obtain ⟨m11, hm11, h⟩ := Option.bind_eq_some_iff.mp h
            refine ap_iast ly_72 hm11 dX6_mostAlike_77 ?_
            refine ap_iload_n dX6_mostAlike_78 2 rfl rfl ?_
            refine ap_aload_n dX6_mostAlike_79 1 rfl rfl ?_
            refine ap_get (v := .ref (K.1 72)) fl_X6_26 ly_68 rfl rfl dX6_mostAlike_80 ?_
            refine ap_iload dX6_mostAlike_83 0 rfl ?_
            obtain ⟨a12, ha12, h⟩ := Option.bind_eq_some_iff.mp h
            refine ap_iald ly_72 ha12 dX6_mostAlike_85 ?_
            refine ap_mmax wd_839 ⟨by decide, by decide⟩ (Nat.le_of_ble_eq_true rfl) ⟨Nat.zero_le _, Nat.zero_le _⟩ dX6_mostAlike_86 ?_
            refine ap_istore_n (i := 2) (lv' := [(2, .int (mxI x2 a12)), (4, .int a5), (0, .ref (K.1 68)), (3, .int x3)]) dX6_mostAlike_89 rfl (by decide) rfl ?_
            refine ap_iinc (v := x3 + 1) (lv' := [(3, .int (x3 + 1)), (2, .int (mxI x2 a12)), (4, .int a5), (0, .ref (K.1 68))]) dX6_mostAlike_90 3 rfl rfl (by decide) rfl ?_
            refine ap_goto (tgt := 30) dX6_mostAlike_93 (by decide) ?_
            refine ap_sub [3, 1, 0] rfl ?_
            exact ih _ _ _ h
def fX6_mostAlike_L7 (N : Nat) : Nat → Mm → Int32 → Option (Int32 × Mm)
  | 0, _, _ => none
  | n0 + 1, w, x2 => if (23 : Int32) < x2 then (
fX6_mostAlike_L30 N N w (0 : Int32) (0 : Int32))
else (
Option.bind (wrA w 72 24 x2 (0 : Int32)) fun m3 =>
(fX6_mostAlike_L7 N n0) m3 (x2 + 1))
set_option maxRecDepth 100000 in
set_option maxHeartbeats 4000000 in
theorem AX6_mostAlike_L7 {l : Launch} {K : Kt} {N : Nat}   : ∀ (n0 : Nat) (w : Mm) (x2 : Int32) {zx : Int32} {zw : Mm}, fX6_mostAlike_L7 N n0 w x2 = some (zx, zw) → AW l K cX6_mostAlike RX6 5 (some .int) rmX6_mostAlike 0 0 ap_E (ap_F K (some (.int zx)) zw) w 7 [(0, .ref (K.1 68)), (2, .int x2)] [] := by
  intro n0
  induction n0 with
  | zero =>
    intro w x2 zx zw h
    cases h
  | succ n0 ih =>
    intro w x2 zx zw h
    rw [fX6_mostAlike_L7] at h
    refine ap_iload_n dX6_mostAlike_7 1 rfl rfl ?_
    refine ap_bipush (v := 23) dX6_mostAlike_8 (by decide) ?_
    refine ap_icmp_gt (tgt := 26) dX6_mostAlike_10 (by decide) (fun hc2 => ?_) (fun hc2 => ?_)
    · rw [if_pos hc2] at h
      refine ap_iconst (v := 0) dX6_mostAlike_26 (by decide) ?_
      refine ap_istore_n (i := 2) (lv' := [(2, .int (0 : Int32)), (0, .ref (K.1 68))]) dX6_mostAlike_27 rfl (by decide) rfl ?_
      refine ap_iconst (v := 0) dX6_mostAlike_28 (by decide) ?_
      refine ap_istore_n (i := 3) (lv' := [(3, .int (0 : Int32)), (2, .int (0 : Int32)), (0, .ref (K.1 68))]) dX6_mostAlike_29 rfl (by decide) rfl ?_
      refine ap_sub [2, 1, 0] rfl ?_
      exact AX6_mostAlike_L30  N _ _ _ h
    · rw [if_neg hc2] at h
      refine ap_aload_n dX6_mostAlike_13 0 rfl rfl ?_
      refine ap_get (v := .ref (K.1 72)) fl_X6_26 ly_68 rfl rfl dX6_mostAlike_14 ?_
      refine ap_iload_n dX6_mostAlike_17 1 rfl rfl ?_
      refine ap_iconst (v := 0) dX6_mostAlike_18 (by decide) ?_
      obtain ⟨m3, hm3, h⟩ := Option.bind_eq_some_iff.mp h
      refine ap_iast ly_72 hm3 dX6_mostAlike_19 ?_
      refine ap_iinc (v := x2 + 1) (lv' := [(2, .int (x2 + 1)), (0, .ref (K.1 68))]) dX6_mostAlike_20 1 rfl rfl (by decide) rfl ?_
      refine ap_goto (tgt := 7) dX6_mostAlike_23 (by decide) ?_
      refine ap_sub [1, 0] rfl ?_
      exact ih _ _ h
def fX6_mostAlike (N : Nat) (w : Mm) (x1 : Int32) : Option (Int32 × Mm) :=
Option.bind (fX6_layLight N w x1) fun m1 =>
fX6_mostAlike_L7 N N m1 (0 : Int32)
set_option maxRecDepth 100000 in
set_option maxHeartbeats 4000000 in
theorem AX6_mostAlike {l : Launch} {K : Kt} {N : Nat}  {w : Mm} {x1 : Int32} {zx : Int32} {zw : Mm} (h : fX6_mostAlike N w x1 = some (zx, zw)) : AW l K cX6_mostAlike RX6 5 (some .int) rmX6_mostAlike 0 0 ap_E (ap_F K (some (.int zx)) zw) w 0 [(0, .ref (K.1 68)), (1, .int x1)] [] := by
  unfold fX6_mostAlike at h
  refine ap_aload_n dX6_mostAlike_0 0 rfl rfl ?_
  refine ap_iload_n dX6_mostAlike_1 1 rfl rfl ?_
  obtain ⟨m1, hm1, h⟩ := Option.bind_eq_some_iff.mp h
  refine ap_callV (k := 68) (As := [.int x1]) (st := []) (st1 := []) (mcX6_layLight  hm1) cv_X6_89 rfl ly_68 ⟨rfl, rfl, by decide, by decide⟩ rfl (Nat.le_of_ble_eq_true rfl) ⟨Nat.zero_le _, Nat.zero_le _⟩ dX6_mostAlike_2 rfl rfl ?_
  refine ap_iconst (v := 0) dX6_mostAlike_5 (by decide) ?_
  refine ap_istore_n (i := 2) (lv' := [(2, .int (0 : Int32)), (0, .ref (K.1 68)), (1, .int x1)]) dX6_mostAlike_6 rfl (by decide) rfl ?_
  refine ap_sub [1, 0] rfl ?_
  exact AX6_mostAlike_L7  N _ _ h
theorem mcX6_mostAlike {l : Launch} {K : Kt} {N : Nat}  {w : Mm} {x1 : Int32} {zx : Int32} {zw : Mm} (h : fX6_mostAlike N w x1 = some (zx, zw)) : MC l K yX6_mostAlike cX6_mostAlike 5 (some .int) rmX6_mostAlike w [.ref (K.1 68), .int x1] (some (.int zx)) zw :=
  MC.of (by decide) (Nat.le_of_ble_eq_true rfl) rfl (AX6_mostAlike  h)
def fX6_bestCell_L8 (N : Nat) : Nat → Mm → Int32 → Int32 → Int32 → Option (Int32 × Mm)
  | 0, _, _, _, _ => none
  | n0 + 1, w, x1, x2, x3 => if (w.1 68 4) ≤ (0 : Int32) then (
some (x1, w))
else (
if (64 : Int32) ≤ x3 then (
some (x1, w))
else (
ob2 (fX6_mostAlike N w x3) fun a3 m4 =>
if x2 ≤ a3 then (
(fX6_bestCell_L8 N n0) m4 x1 x2 (x3 + 1))
else (
(fX6_bestCell_L8 N n0) m4 x3 a3 (x3 + 1))))
set_option maxRecDepth 100000 in
set_option maxHeartbeats 4000000 in
theorem AX6_bestCell_L8 {l : Launch} {K : Kt} {N : Nat}   : ∀ (n0 : Nat) (w : Mm) (x1 : Int32) (x2 : Int32) (x3 : Int32) {zx : Int32} {zw : Mm}, fX6_bestCell_L8 N n0 w x1 x2 x3 = some (zx, zw) → AW l K cX6_bestCell RX6 5 (some .int) rmX6_bestCell 0 0 ap_E (ap_F K (some (.int zx)) zw) w 8 [(0, .ref (K.1 68)), (1, .int x1), (2, .int x2), (3, .int x3)] [] := by
  intro n0
  induction n0 with
  | zero =>
    intro w x1 x2 x3 zx zw h
    cases h
  | succ n0 ih =>
    intro w x1 x2 x3 zx zw h
    rw [fX6_bestCell_L8] at h
    refine ap_aload_n dX6_bestCell_8 0 rfl rfl ?_
    refine ap_get (v := .int (w.1 68 4)) fl_X6_19 ly_68 rfl rfl dX6_bestCell_9 ?_
    refine ap_if_le (tgt := 45) dX6_bestCell_12 (by decide) (fun hc1 => ?_) (fun hc1 => ?_)
    · rw [if_pos hc1] at h
      refine ap_iload_n dX6_bestCell_45 1 rfl rfl ?_
      obtain ⟨rfl, rfl⟩ := Prod.mk.inj (Option.some.inj h)
      exact ap_iret rfl dX6_bestCell_46
    · rw [if_neg hc1] at h
      refine ap_iload_n dX6_bestCell_15 3 rfl rfl ?_
      refine ap_bipush (v := 64) dX6_bestCell_16 (by decide) ?_
      refine ap_icmp_ge (tgt := 45) dX6_bestCell_18 (by decide) (fun hc2 => ?_) (fun hc2 => ?_)
      · rw [if_pos hc2] at h
        refine ap_iload_n dX6_bestCell_45 1 rfl rfl ?_
        obtain ⟨rfl, rfl⟩ := Prod.mk.inj (Option.some.inj h)
        exact ap_iret rfl dX6_bestCell_46
      · rw [if_neg hc2] at h
        refine ap_aload_n dX6_bestCell_21 0 rfl rfl ?_
        refine ap_iload_n dX6_bestCell_22 3 rfl rfl ?_
        obtain ⟨a3, m4, ha3, h⟩ := ob2_iff h
        refine ap_callV (k := 68) (As := [.int x3]) (st := []) (st1 := [.int a3]) (mcX6_mostAlike  ha3) cv_X6_86 rfl ly_68 ⟨rfl, rfl, by decide, by decide⟩ rfl (Nat.le_of_ble_eq_true rfl) ⟨Nat.zero_le _, Nat.zero_le _⟩ dX6_bestCell_23 rfl rfl ?_
        refine ap_istore (i := 4) (lv' := [(4, .int a3), (0, .ref (K.1 68)), (1, .int x1), (2, .int x2), (3, .int x3)]) dX6_bestCell_26 (by decide) rfl ?_
        refine ap_iload dX6_bestCell_28 0 rfl ?_
        refine ap_iload_n dX6_bestCell_30 3 rfl rfl ?_
        refine ap_icmp_ge (tgt := 39) dX6_bestCell_31 (by decide) (fun hc5 => ?_) (fun hc5 => ?_)
        · rw [if_pos hc5] at h
          refine ap_iinc (v := x3 + 1) (lv' := [(3, .int (x3 + 1)), (4, .int a3), (0, .ref (K.1 68)), (1, .int x1), (2, .int x2)]) dX6_bestCell_39 4 rfl rfl (by decide) rfl ?_
          refine ap_goto (tgt := 8) dX6_bestCell_42 (by decide) ?_
          refine ap_sub [2, 3, 4, 0] rfl ?_
          exact ih _ _ _ _ h
        · rw [if_neg hc5] at h
          refine ap_iload dX6_bestCell_34 0 rfl ?_
          refine ap_istore_n (i := 2) (lv' := [(2, .int a3), (4, .int a3), (0, .ref (K.1 68)), (1, .int x1), (3, .int x3)]) dX6_bestCell_36 rfl (by decide) rfl ?_
          refine ap_iload_n dX6_bestCell_37 4 rfl rfl ?_
          refine ap_istore_n (i := 1) (lv' := [(1, .int x3), (2, .int a3), (4, .int a3), (0, .ref (K.1 68)), (3, .int x3)]) dX6_bestCell_38 rfl (by decide) rfl ?_
          refine ap_iinc (v := x3 + 1) (lv' := [(3, .int (x3 + 1)), (1, .int x3), (2, .int a3), (4, .int a3), (0, .ref (K.1 68))]) dX6_bestCell_39 4 rfl rfl (by decide) rfl ?_
          refine ap_goto (tgt := 8) dX6_bestCell_42 (by decide) ?_
          refine ap_sub [4, 1, 2, 0] rfl ?_
          exact ih _ _ _ _ h
def fX6_bestCell (N : Nat) (w : Mm) : Option (Int32 × Mm) :=
fX6_bestCell_L8 N N w (-1 : Int32) (129 : Int32) (0 : Int32)
set_option maxRecDepth 100000 in
set_option maxHeartbeats 4000000 in
theorem AX6_bestCell {l : Launch} {K : Kt} {N : Nat}  {w : Mm} {zx : Int32} {zw : Mm} (h : fX6_bestCell N w = some (zx, zw)) : AW l K cX6_bestCell RX6 5 (some .int) rmX6_bestCell 0 0 ap_E (ap_F K (some (.int zx)) zw) w 0 [(0, .ref (K.1 68))] [] := by
  unfold fX6_bestCell at h
  refine ap_iconst (v := -1) dX6_bestCell_0 (by decide) ?_
  refine ap_istore_n (i := 1) (lv' := [(1, .int (-1 : Int32)), (0, .ref (K.1 68))]) dX6_bestCell_1 rfl (by decide) rfl ?_
  refine ap_sipush (v := 129) dX6_bestCell_2 (by decide) ?_
  refine ap_istore_n (i := 2) (lv' := [(2, .int (129 : Int32)), (1, .int (-1 : Int32)), (0, .ref (K.1 68))]) dX6_bestCell_5 rfl (by decide) rfl ?_
  refine ap_iconst (v := 0) dX6_bestCell_6 (by decide) ?_
  refine ap_istore_n (i := 3) (lv' := [(3, .int (0 : Int32)), (2, .int (129 : Int32)), (1, .int (-1 : Int32)), (0, .ref (K.1 68))]) dX6_bestCell_7 rfl (by decide) rfl ?_
  refine ap_sub [3, 2, 1, 0] rfl ?_
  exact AX6_bestCell_L8  N _ _ _ _ h
theorem mcX6_bestCell {l : Launch} {K : Kt} {N : Nat}  {w : Mm} {zx : Int32} {zw : Mm} (h : fX6_bestCell N w = some (zx, zw)) : MC l K yX6_bestCell cX6_bestCell 5 (some .int) rmX6_bestCell w [.ref (K.1 68)] (some (.int zx)) zw :=
  MC.of (by decide) (Nat.le_of_ble_eq_true rfl) rfl (AX6_bestCell  h)
def fX8_has_L16 (v : Nat) (w : Mm) : Int32 :=
(0 : Int32)
set_option maxRecDepth 100000 in
set_option maxHeartbeats 4000000 in
theorem AX8_has_L16 {l : Launch} {K : Kt} {v : Nat} {w : Mm}  (hv : isV v) {zx : Int32} (h : fX8_has_L16 v w = zx) : AW l K cX8_has RX8 2 (some .boolean) rmX8_has 0 0 ap_E (ap_F K (some (.int zx)) w) w 16 [] [] := by
  unfold fX8_has_L16 at h
  refine ap_iconst (v := 0) dX8_has_16 (by decide) ?_
  subst h
  exact ap_zret rfl (Or.inl rfl) dX8_has_17
def fX8_has (v : Nat) (w : Mm) (x1 : Int32) : Int32 :=
if x1 < (0 : Int32) then (
fX8_has_L16 v w)
else (
if (w.1 v 1) ≤ x1 then (
fX8_has_L16 v w)
else (
(1 : Int32)))
set_option maxRecDepth 100000 in
set_option maxHeartbeats 4000000 in
theorem AX8_has {l : Launch} {K : Kt} {v : Nat} {w : Mm} (hv : isV v) {x1 : Int32} {zx : Int32} (h : fX8_has v w x1 = zx) : AW l K cX8_has RX8 2 (some .boolean) rmX8_has 0 0 ap_E (ap_F K (some (.int zx)) w) w 0 [(0, .ref (K.1 v)), (1, .int x1)] [] := by
  unfold fX8_has at h
  refine ap_iload_n dX8_has_0 1 rfl rfl ?_
  refine ap_if_lt (tgt := 16) dX8_has_1 (by decide) (fun hc1 => ?_) (fun hc1 => ?_)
  · rw [if_pos hc1] at h
    refine ap_sub [] rfl ?_
    exact AX8_has_L16 hv  h
  · rw [if_neg hc1] at h
    refine ap_iload_n dX8_has_4 1 rfl rfl ?_
    refine ap_aload_n dX8_has_5 0 rfl rfl ?_
    refine ap_get (v := .int (w.1 v 1)) fl_X8_15 (lyv_0 hv) rfl rfl dX8_has_6 ?_
    refine ap_icmp_ge (tgt := 16) dX8_has_9 (by decide) (fun hc2 => ?_) (fun hc2 => ?_)
    · rw [if_pos hc2] at h
      refine ap_sub [] rfl ?_
      exact AX8_has_L16 hv  h
    · rw [if_neg hc2] at h
      refine ap_iconst (v := 1) dX8_has_12 (by decide) ?_
      refine ap_goto (tgt := 17) dX8_has_13 (by decide) ?_
      subst h
      exact ap_zret rfl (Or.inr rfl) dX8_has_17
theorem mcX8_has {l : Launch} {K : Kt} {v : Nat} {w : Mm} (hv : isV v) {x1 : Int32} {zx : Int32} (h : fX8_has v w x1 = zx) : MC l K yX8_has cX8_has 2 (some .boolean) rmX8_has w [.ref (K.1 v), .int x1] (some (.int zx)) w :=
  MC.of (by decide) (Nat.le_of_ble_eq_true rfl) rfl (AX8_has hv h)
def fX8_addReading (v : Nat) (w : Mm) (x1 : Int32) (x2 : Int32) (x3 : Int32) : Option (Int32 × Mm) :=
if (6 : Int32) ≤ (w.1 v 10) then (
some ((w.1 v 10), w))
else (
Option.bind (wrA w (v + 7) 6 (w.1 v 10) x1) fun m2 =>
Option.bind (wrA m2 (v + 8) 6 (m2.1 v 10) x2) fun m3 =>
Option.bind (wrA m3 (v + 9) 6 (m3.1 v 10) x3) fun m4 =>
Option.bind (some (sI m4 v 10 ((m4.1 v 10) + (1 : Int32)))) fun m5 =>
some ((m5.1 v 10), m5))
set_option maxRecDepth 100000 in
set_option maxHeartbeats 4000000 in
theorem AX8_addReading {l : Launch} {K : Kt} {v : Nat} (hv : isV v) {w : Mm} {x1 : Int32} {x2 : Int32} {x3 : Int32} {zx : Int32} {zw : Mm} (h : fX8_addReading v w x1 x2 x3 = some (zx, zw)) : AW l K cX8_addReading RX8 4 (some .int) rmX8_addReading 0 0 ap_E (ap_F K (some (.int zx)) zw) w 0 [(0, .ref (K.1 v)), (1, .int x1), (2, .int x2), (3, .int x3)] [] := by
  unfold fX8_addReading at h
  refine ap_aload_n dX8_addReading_0 0 rfl rfl ?_
  refine ap_get (v := .int (w.1 v 10)) fl_X8_43 (lyv_0 hv) rfl rfl dX8_addReading_1 ?_
  refine ap_bipush (v := 6) dX8_addReading_4 (by decide) ?_
  refine ap_icmp_ge (tgt := 49) dX8_addReading_6 (by decide) (fun hc1 => ?_) (fun hc1 => ?_)
  · rw [if_pos hc1] at h
    refine ap_aload_n dX8_addReading_49 0 rfl rfl ?_
    refine ap_get (v := .int (w.1 v 10)) fl_X8_43 (lyv_0 hv) rfl rfl dX8_addReading_50 ?_
    obtain ⟨rfl, rfl⟩ := Prod.mk.inj (Option.some.inj h)
    exact ap_iret rfl dX8_addReading_53
  · rw [if_neg hc1] at h
    refine ap_aload_n dX8_addReading_9 0 rfl rfl ?_
    refine ap_get (v := .ref (K.1 (v + 7))) fl_X8_46 (lyv_0 hv) rfl rfl dX8_addReading_10 ?_
    refine ap_aload_n dX8_addReading_13 0 rfl rfl ?_
    refine ap_get (v := .int (w.1 v 10)) fl_X8_43 (lyv_0 hv) rfl rfl dX8_addReading_14 ?_
    refine ap_iload_n dX8_addReading_17 1 rfl rfl ?_
    obtain ⟨m2, hm2, h⟩ := Option.bind_eq_some_iff.mp h
    refine ap_iast (lyv_7 hv) hm2 dX8_addReading_18 ?_
    refine ap_aload_n dX8_addReading_19 0 rfl rfl ?_
    refine ap_get (v := .ref (K.1 (v + 8))) fl_X8_49 (lyv_0 hv) rfl rfl dX8_addReading_20 ?_
    refine ap_aload_n dX8_addReading_23 0 rfl rfl ?_
    refine ap_get (v := .int (m2.1 v 10)) fl_X8_43 (lyv_0 hv) rfl rfl dX8_addReading_24 ?_
    refine ap_iload_n dX8_addReading_27 2 rfl rfl ?_
    obtain ⟨m3, hm3, h⟩ := Option.bind_eq_some_iff.mp h
    refine ap_iast (lyv_8 hv) hm3 dX8_addReading_28 ?_
    refine ap_aload_n dX8_addReading_29 0 rfl rfl ?_
    refine ap_get (v := .ref (K.1 (v + 9))) fl_X8_52 (lyv_0 hv) rfl rfl dX8_addReading_30 ?_
    refine ap_aload_n dX8_addReading_33 0 rfl rfl ?_
    refine ap_get (v := .int (m3.1 v 10)) fl_X8_43 (lyv_0 hv) rfl rfl dX8_addReading_34 ?_
    refine ap_iload_n dX8_addReading_37 3 rfl rfl ?_
    obtain ⟨m4, hm4, h⟩ := Option.bind_eq_some_iff.mp h
    refine ap_iast (lyv_9 hv) hm4 dX8_addReading_38 ?_
    refine ap_aload_n dX8_addReading_39 0 rfl rfl ?_
    refine ap_dup dX8_addReading_40 rfl ?_
    refine ap_get (v := .int (m4.1 v 10)) fl_X8_43 (lyv_0 hv) rfl rfl dX8_addReading_41 ?_
    refine ap_iconst (v := 1) dX8_addReading_44 (by decide) ?_
    refine ap_iadd dX8_addReading_45 ?_
    obtain ⟨m5, hm5, h⟩ := Option.bind_eq_some_iff.mp h
    refine ap_putI fp_X8_43 (lyv_0 hv) rfl (Option.some.inj hm5) dX8_addReading_46 ?_
    refine ap_aload_n dX8_addReading_49 0 rfl rfl ?_
    refine ap_get (v := .int (m5.1 v 10)) fl_X8_43 (lyv_0 hv) rfl rfl dX8_addReading_50 ?_
    obtain ⟨rfl, rfl⟩ := Prod.mk.inj (Option.some.inj h)
    exact ap_iret rfl dX8_addReading_53
theorem mcX8_addReading {l : Launch} {K : Kt} {v : Nat} (hv : isV v) {w : Mm} {x1 : Int32} {x2 : Int32} {x3 : Int32} {zx : Int32} {zw : Mm} (h : fX8_addReading v w x1 x2 x3 = some (zx, zw)) : MC l K yX8_addReading cX8_addReading 4 (some .int) rmX8_addReading w [.ref (K.1 v), .int x1, .int x2, .int x3] (some (.int zx)) zw :=
  MC.of (by decide) (Nat.le_of_ble_eq_true rfl) rfl (AX8_addReading hv h)
def fX8_remember_L46 (v : Nat) (w : Mm) : Option Mm :=
Option.bind (cpA w (v + 2) 7 (v + 10) 56 (0 : Int32) ((w.1 v 14) * (7 : Int32)) (7 : Int32)) fun m5 =>
Option.bind (wrA m5 (v + 11) 8 (m5.1 v 14) (m5.1 v 2)) fun m6 =>
Option.bind (some (sI m6 v 14 ((m6.1 v 14) + (1 : Int32)))) fun m7 =>
some m7
set_option maxRecDepth 100000 in
set_option maxHeartbeats 4000000 in
theorem AX8_remember_L46 {l : Launch} {K : Kt} {v : Nat}  (hv : isV v) {w : Mm} {zw : Mm} (h : fX8_remember_L46 v w = some zw) : AW l K cX8_remember RX8 1 none rmX8_remember 0 0 ap_E (ap_F K none zw) w 46 [(0, .ref (K.1 v))] [] := by
  unfold fX8_remember_L46 at h
  refine ap_aload_n dX8_remember_46 0 rfl rfl ?_
  refine ap_get (v := .ref (K.1 (v + 2))) fl_X8_25 (lyv_0 hv) rfl rfl dX8_remember_47 ?_
  refine ap_iconst (v := 0) dX8_remember_50 (by decide) ?_
  refine ap_aload_n dX8_remember_51 0 rfl rfl ?_
  refine ap_get (v := .ref (K.1 (v + 10))) fl_X8_58 (lyv_0 hv) rfl rfl dX8_remember_52 ?_
  refine ap_aload_n dX8_remember_55 0 rfl rfl ?_
  refine ap_get (v := .int (w.1 v 14)) fl_X8_55 (lyv_0 hv) rfl rfl dX8_remember_56 ?_
  refine ap_bipush (v := 7) dX8_remember_59 (by decide) ?_
  refine ap_imul dX8_remember_61 ?_
  refine ap_bipush (v := 7) dX8_remember_62 (by decide) ?_
  obtain ⟨m5, hm5, h⟩ := Option.bind_eq_some_iff.mp h
  refine ap_copy wd_425 wd_427 wd_426 wd_70 (lyv_2 hv) (lyv_10 hv) hm5 ⟨by decide, by decide⟩ dX8_remember_64 ?_
  refine ap_aload_n dX8_remember_67 0 rfl rfl ?_
  refine ap_get (v := .ref (K.1 (v + 11))) fl_X8_61 (lyv_0 hv) rfl rfl dX8_remember_68 ?_
  refine ap_aload_n dX8_remember_71 0 rfl rfl ?_
  refine ap_get (v := .int (m5.1 v 14)) fl_X8_55 (lyv_0 hv) rfl rfl dX8_remember_72 ?_
  refine ap_aload_n dX8_remember_75 0 rfl rfl ?_
  refine ap_get (v := .int (m5.1 v 2)) fl_X8_18 (lyv_0 hv) rfl rfl dX8_remember_76 ?_
  obtain ⟨m6, hm6, h⟩ := Option.bind_eq_some_iff.mp h
  refine ap_iast (lyv_11 hv) hm6 dX8_remember_79 ?_
  refine ap_aload_n dX8_remember_80 0 rfl rfl ?_
  refine ap_dup dX8_remember_81 rfl ?_
  refine ap_get (v := .int (m6.1 v 14)) fl_X8_55 (lyv_0 hv) rfl rfl dX8_remember_82 ?_
  refine ap_iconst (v := 1) dX8_remember_85 (by decide) ?_
  refine ap_iadd dX8_remember_86 ?_
  obtain ⟨m7, hm7, h⟩ := Option.bind_eq_some_iff.mp h
  refine ap_putI fp_X8_55 (lyv_0 hv) rfl (Option.some.inj hm7) dX8_remember_87 ?_
  obtain rfl := Option.some.inj h
  exact ap_vret rfl dX8_remember_90
def fX8_remember (v : Nat) (w : Mm) : Option Mm :=
if (w.1 v 14) < (8 : Int32) then (
fX8_remember_L46 v w)
else (
Option.bind (cpA w (v + 10) 56 (v + 10) 56 (7 : Int32) (0 : Int32) (49 : Int32)) fun m2 =>
Option.bind (cpA m2 (v + 11) 8 (v + 11) 8 (1 : Int32) (0 : Int32) (7 : Int32)) fun m3 =>
Option.bind (some (sI m3 v 14 (7 : Int32))) fun m4 =>
fX8_remember_L46 v m4)
set_option maxRecDepth 100000 in
set_option maxHeartbeats 4000000 in
theorem AX8_remember {l : Launch} {K : Kt} {v : Nat} (hv : isV v) {w : Mm} {zw : Mm} (h : fX8_remember v w = some zw) : AW l K cX8_remember RX8 1 none rmX8_remember 0 0 ap_E (ap_F K none zw) w 0 [(0, .ref (K.1 v))] [] := by
  unfold fX8_remember at h
  refine ap_aload_n dX8_remember_0 0 rfl rfl ?_
  refine ap_get (v := .int (w.1 v 14)) fl_X8_55 (lyv_0 hv) rfl rfl dX8_remember_1 ?_
  refine ap_bipush (v := 8) dX8_remember_4 (by decide) ?_
  refine ap_icmp_lt (tgt := 46) dX8_remember_6 (by decide) (fun hc1 => ?_) (fun hc1 => ?_)
  · rw [if_pos hc1] at h
    exact AX8_remember_L46 hv  h
  · rw [if_neg hc1] at h
    refine ap_aload_n dX8_remember_9 0 rfl rfl ?_
    refine ap_get (v := .ref (K.1 (v + 10))) fl_X8_58 (lyv_0 hv) rfl rfl dX8_remember_10 ?_
    refine ap_bipush (v := 7) dX8_remember_13 (by decide) ?_
    refine ap_aload_n dX8_remember_15 0 rfl rfl ?_
    refine ap_get (v := .ref (K.1 (v + 10))) fl_X8_58 (lyv_0 hv) rfl rfl dX8_remember_16 ?_
    refine ap_iconst (v := 0) dX8_remember_19 (by decide) ?_
    refine ap_bipush (v := 49) dX8_remember_20 (by decide) ?_
    obtain ⟨m2, hm2, h⟩ := Option.bind_eq_some_iff.mp h
    refine ap_copy wd_425 wd_427 wd_426 wd_70 (lyv_10 hv) (lyv_10 hv) hm2 ⟨by decide, by decide⟩ dX8_remember_22 ?_
    refine ap_aload_n dX8_remember_25 0 rfl rfl ?_
    refine ap_get (v := .ref (K.1 (v + 11))) fl_X8_61 (lyv_0 hv) rfl rfl dX8_remember_26 ?_
    refine ap_iconst (v := 1) dX8_remember_29 (by decide) ?_
    refine ap_aload_n dX8_remember_30 0 rfl rfl ?_
    refine ap_get (v := .ref (K.1 (v + 11))) fl_X8_61 (lyv_0 hv) rfl rfl dX8_remember_31 ?_
    refine ap_iconst (v := 0) dX8_remember_34 (by decide) ?_
    refine ap_bipush (v := 7) dX8_remember_35 (by decide) ?_
    obtain ⟨m3, hm3, h⟩ := Option.bind_eq_some_iff.mp h
    refine ap_copy wd_425 wd_427 wd_426 wd_70 (lyv_11 hv) (lyv_11 hv) hm3 ⟨by decide, by decide⟩ dX8_remember_37 ?_
    refine ap_aload_n dX8_remember_40 0 rfl rfl ?_
    refine ap_bipush (v := 7) dX8_remember_41 (by decide) ?_
    obtain ⟨m4, hm4, h⟩ := Option.bind_eq_some_iff.mp h
    refine ap_putI fp_X8_55 (lyv_0 hv) rfl (Option.some.inj hm4) dX8_remember_43 ?_
    exact AX8_remember_L46 hv  h
theorem mcX8_remember {l : Launch} {K : Kt} {v : Nat} (hv : isV v) {w : Mm} {zw : Mm} (h : fX8_remember v w = some zw) : MC l K yX8_remember cX8_remember 1 none rmX8_remember w [.ref (K.1 v)] none zw :=
  MC.of (by decide) (Nat.le_of_ble_eq_true rfl) rfl (AX8_remember hv h)
def fX8_goBack (v : Nat) (w : Mm) : Option Mm :=
if (w.1 v 14) ≤ (0 : Int32) then (
some w)
else (
Option.bind (some (sI w v 14 ((w.1 v 14) - (1 : Int32)))) fun m2 =>
Option.bind (cpA m2 (v + 10) 56 (v + 2) 7 ((m2.1 v 14) * (7 : Int32)) (0 : Int32) (7 : Int32)) fun m3 =>
Option.bind (rdA m3 (v + 11) 8 (m3.1 v 14)) fun a4 =>
Option.bind (some (sI m3 v 2 a4)) fun m5 =>
some m5)
set_option maxRecDepth 100000 in
set_option maxHeartbeats 4000000 in
theorem AX8_goBack {l : Launch} {K : Kt} {v : Nat} (hv : isV v) {w : Mm} {zw : Mm} (h : fX8_goBack v w = some zw) : AW l K cX8_goBack RX8 1 none rmX8_goBack 0 0 ap_E (ap_F K none zw) w 0 [(0, .ref (K.1 v))] [] := by
  unfold fX8_goBack at h
  refine ap_aload_n dX8_goBack_0 0 rfl rfl ?_
  refine ap_get (v := .int (w.1 v 14)) fl_X8_55 (lyv_0 hv) rfl rfl dX8_goBack_1 ?_
  refine ap_if_le (tgt := 51) dX8_goBack_4 (by decide) (fun hc1 => ?_) (fun hc1 => ?_)
  · rw [if_pos hc1] at h
    obtain rfl := Option.some.inj h
    exact ap_vret rfl dX8_goBack_51
  · rw [if_neg hc1] at h
    refine ap_aload_n dX8_goBack_7 0 rfl rfl ?_
    refine ap_dup dX8_goBack_8 rfl ?_
    refine ap_get (v := .int (w.1 v 14)) fl_X8_55 (lyv_0 hv) rfl rfl dX8_goBack_9 ?_
    refine ap_iconst (v := 1) dX8_goBack_12 (by decide) ?_
    refine ap_isub dX8_goBack_13 ?_
    obtain ⟨m2, hm2, h⟩ := Option.bind_eq_some_iff.mp h
    refine ap_putI fp_X8_55 (lyv_0 hv) rfl (Option.some.inj hm2) dX8_goBack_14 ?_
    refine ap_aload_n dX8_goBack_17 0 rfl rfl ?_
    refine ap_get (v := .ref (K.1 (v + 10))) fl_X8_58 (lyv_0 hv) rfl rfl dX8_goBack_18 ?_
    refine ap_aload_n dX8_goBack_21 0 rfl rfl ?_
    refine ap_get (v := .int (m2.1 v 14)) fl_X8_55 (lyv_0 hv) rfl rfl dX8_goBack_22 ?_
    refine ap_bipush (v := 7) dX8_goBack_25 (by decide) ?_
    refine ap_imul dX8_goBack_27 ?_
    refine ap_aload_n dX8_goBack_28 0 rfl rfl ?_
    refine ap_get (v := .ref (K.1 (v + 2))) fl_X8_25 (lyv_0 hv) rfl rfl dX8_goBack_29 ?_
    refine ap_iconst (v := 0) dX8_goBack_32 (by decide) ?_
    refine ap_bipush (v := 7) dX8_goBack_33 (by decide) ?_
    obtain ⟨m3, hm3, h⟩ := Option.bind_eq_some_iff.mp h
    refine ap_copy wd_425 wd_427 wd_426 wd_70 (lyv_10 hv) (lyv_2 hv) hm3 ⟨by decide, by decide⟩ dX8_goBack_35 ?_
    refine ap_aload_n dX8_goBack_38 0 rfl rfl ?_
    refine ap_aload_n dX8_goBack_39 0 rfl rfl ?_
    refine ap_get (v := .ref (K.1 (v + 11))) fl_X8_61 (lyv_0 hv) rfl rfl dX8_goBack_40 ?_
    refine ap_aload_n dX8_goBack_43 0 rfl rfl ?_
    refine ap_get (v := .int (m3.1 v 14)) fl_X8_55 (lyv_0 hv) rfl rfl dX8_goBack_44 ?_
    obtain ⟨a4, ha4, h⟩ := Option.bind_eq_some_iff.mp h
    refine ap_iald (lyv_11 hv) ha4 dX8_goBack_47 ?_
    obtain ⟨m5, hm5, h⟩ := Option.bind_eq_some_iff.mp h
    refine ap_putI fp_X8_18 (lyv_0 hv) rfl (Option.some.inj hm5) dX8_goBack_48 ?_
    obtain rfl := Option.some.inj h
    exact ap_vret rfl dX8_goBack_51
theorem mcX8_goBack {l : Launch} {K : Kt} {v : Nat} (hv : isV v) {w : Mm} {zw : Mm} (h : fX8_goBack v w = some zw) : MC l K yX8_goBack cX8_goBack 1 none rmX8_goBack w [.ref (K.1 v)] none zw :=
  MC.of (by decide) (Nat.le_of_ble_eq_true rfl) rfl (AX8_goBack hv h)
def fX8_takeFrom (v : Nat) (u : Nat) (w : Mm) : Option Mm :=
Option.bind (some (sI w v 0 (w.1 u 0))) fun m1 =>
Option.bind (some (sI m1 v 1 (m1.1 u 1))) fun m2 =>
Option.bind (some (sI m2 v 2 (m2.1 u 2))) fun m3 =>
Option.bind (some (sI m3 v 8 (m3.1 u 8))) fun m4 =>
Option.bind (some (sI m4 v 10 (m4.1 u 10))) fun m5 =>
Option.bind (some (sI m5 v 14 (m5.1 u 14))) fun m6 =>
Option.bind (cpA m6 (u + 1) 7 (v + 1) 7 (0 : Int32) (0 : Int32) (7 : Int32)) fun m7 =>
Option.bind (cpA m7 (u + 2) 7 (v + 2) 7 (0 : Int32) (0 : Int32) (7 : Int32)) fun m8 =>
Option.bind (cpA m8 (u + 3) 7 (v + 3) 7 (0 : Int32) (0 : Int32) (7 : Int32)) fun m9 =>
Option.bind (cpA m9 (u + 4) 7 (v + 4) 7 (0 : Int32) (0 : Int32) (7 : Int32)) fun m10 =>
Option.bind (cpA m10 (u + 5) 7 (v + 5) 7 (0 : Int32) (0 : Int32) (7 : Int32)) fun m11 =>
Option.bind (cpA m11 (u + 6) 6 (v + 6) 6 (0 : Int32) (0 : Int32) (6 : Int32)) fun m12 =>
Option.bind (cpA m12 (u + 7) 6 (v + 7) 6 (0 : Int32) (0 : Int32) (6 : Int32)) fun m13 =>
Option.bind (cpA m13 (u + 8) 6 (v + 8) 6 (0 : Int32) (0 : Int32) (6 : Int32)) fun m14 =>
Option.bind (cpA m14 (u + 9) 6 (v + 9) 6 (0 : Int32) (0 : Int32) (6 : Int32)) fun m15 =>
Option.bind (cpA m15 (u + 10) 56 (v + 10) 56 (0 : Int32) (0 : Int32) (56 : Int32)) fun m16 =>
Option.bind (cpA m16 (u + 11) 8 (v + 11) 8 (0 : Int32) (0 : Int32) (8 : Int32)) fun m17 =>
some m17
set_option maxRecDepth 100000 in
set_option maxHeartbeats 4000000 in
theorem AX8_takeFrom {l : Launch} {K : Kt} {v : Nat} {u : Nat} (hv : isV v) (hu : isV u) {w : Mm} {zw : Mm} (h : fX8_takeFrom v u w = some zw) : AW l K cX8_takeFrom RX8 2 none rmX8_takeFrom 0 0 ap_E (ap_F K none zw) w 0 [(0, .ref (K.1 v)), (1, .ref (K.1 u))] [] := by
  unfold fX8_takeFrom at h
  refine ap_aload_n dX8_takeFrom_0 0 rfl rfl ?_
  refine ap_aload_n dX8_takeFrom_1 1 rfl rfl ?_
  refine ap_get (v := .int (w.1 u 0)) fl_X8_9 (lyv_0 hu) rfl rfl dX8_takeFrom_2 ?_
  obtain ⟨m1, hm1, h⟩ := Option.bind_eq_some_iff.mp h
  refine ap_putI fp_X8_9 (lyv_0 hv) rfl (Option.some.inj hm1) dX8_takeFrom_5 ?_
  refine ap_aload_n dX8_takeFrom_8 0 rfl rfl ?_
  refine ap_aload_n dX8_takeFrom_9 1 rfl rfl ?_
  refine ap_get (v := .int (m1.1 u 1)) fl_X8_15 (lyv_0 hu) rfl rfl dX8_takeFrom_10 ?_
  obtain ⟨m2, hm2, h⟩ := Option.bind_eq_some_iff.mp h
  refine ap_putI fp_X8_15 (lyv_0 hv) rfl (Option.some.inj hm2) dX8_takeFrom_13 ?_
  refine ap_aload_n dX8_takeFrom_16 0 rfl rfl ?_
  refine ap_aload_n dX8_takeFrom_17 1 rfl rfl ?_
  refine ap_get (v := .int (m2.1 u 2)) fl_X8_18 (lyv_0 hu) rfl rfl dX8_takeFrom_18 ?_
  obtain ⟨m3, hm3, h⟩ := Option.bind_eq_some_iff.mp h
  refine ap_putI fp_X8_18 (lyv_0 hv) rfl (Option.some.inj hm3) dX8_takeFrom_21 ?_
  refine ap_aload_n dX8_takeFrom_24 0 rfl rfl ?_
  refine ap_aload_n dX8_takeFrom_25 1 rfl rfl ?_
  refine ap_get (v := .int (m3.1 u 8)) fl_X8_37 (lyv_0 hu) rfl rfl dX8_takeFrom_26 ?_
  obtain ⟨m4, hm4, h⟩ := Option.bind_eq_some_iff.mp h
  refine ap_putI fp_X8_37 (lyv_0 hv) rfl (Option.some.inj hm4) dX8_takeFrom_29 ?_
  refine ap_aload_n dX8_takeFrom_32 0 rfl rfl ?_
  refine ap_aload_n dX8_takeFrom_33 1 rfl rfl ?_
  refine ap_get (v := .int (m4.1 u 10)) fl_X8_43 (lyv_0 hu) rfl rfl dX8_takeFrom_34 ?_
  obtain ⟨m5, hm5, h⟩ := Option.bind_eq_some_iff.mp h
  refine ap_putI fp_X8_43 (lyv_0 hv) rfl (Option.some.inj hm5) dX8_takeFrom_37 ?_
  refine ap_aload_n dX8_takeFrom_40 0 rfl rfl ?_
  refine ap_aload_n dX8_takeFrom_41 1 rfl rfl ?_
  refine ap_get (v := .int (m5.1 u 14)) fl_X8_55 (lyv_0 hu) rfl rfl dX8_takeFrom_42 ?_
  obtain ⟨m6, hm6, h⟩ := Option.bind_eq_some_iff.mp h
  refine ap_putI fp_X8_55 (lyv_0 hv) rfl (Option.some.inj hm6) dX8_takeFrom_45 ?_
  refine ap_aload_n dX8_takeFrom_48 1 rfl rfl ?_
  refine ap_get (v := .ref (K.1 (u + 1))) fl_X8_21 (lyv_0 hu) rfl rfl dX8_takeFrom_49 ?_
  refine ap_iconst (v := 0) dX8_takeFrom_52 (by decide) ?_
  refine ap_aload_n dX8_takeFrom_53 0 rfl rfl ?_
  refine ap_get (v := .ref (K.1 (v + 1))) fl_X8_21 (lyv_0 hv) rfl rfl dX8_takeFrom_54 ?_
  refine ap_iconst (v := 0) dX8_takeFrom_57 (by decide) ?_
  refine ap_bipush (v := 7) dX8_takeFrom_58 (by decide) ?_
  obtain ⟨m7, hm7, h⟩ := Option.bind_eq_some_iff.mp h
  refine ap_copy wd_425 wd_427 wd_426 wd_70 (lyv_1 hu) (lyv_1 hv) hm7 ⟨by decide, by decide⟩ dX8_takeFrom_60 ?_
  refine ap_aload_n dX8_takeFrom_63 1 rfl rfl ?_
  refine ap_get (v := .ref (K.1 (u + 2))) fl_X8_25 (lyv_0 hu) rfl rfl dX8_takeFrom_64 ?_
  refine ap_iconst (v := 0) dX8_takeFrom_67 (by decide) ?_
  refine ap_aload_n dX8_takeFrom_68 0 rfl rfl ?_
  refine ap_get (v := .ref (K.1 (v + 2))) fl_X8_25 (lyv_0 hv) rfl rfl dX8_takeFrom_69 ?_
  refine ap_iconst (v := 0) dX8_takeFrom_72 (by decide) ?_
  refine ap_bipush (v := 7) dX8_takeFrom_73 (by decide) ?_
  obtain ⟨m8, hm8, h⟩ := Option.bind_eq_some_iff.mp h
  refine ap_copy wd_425 wd_427 wd_426 wd_70 (lyv_2 hu) (lyv_2 hv) hm8 ⟨by decide, by decide⟩ dX8_takeFrom_75 ?_
  refine ap_aload_n dX8_takeFrom_78 1 rfl rfl ?_
  refine ap_get (v := .ref (K.1 (u + 3))) fl_X8_28 (lyv_0 hu) rfl rfl dX8_takeFrom_79 ?_
  refine ap_iconst (v := 0) dX8_takeFrom_82 (by decide) ?_
  refine ap_aload_n dX8_takeFrom_83 0 rfl rfl ?_
  refine ap_get (v := .ref (K.1 (v + 3))) fl_X8_28 (lyv_0 hv) rfl rfl dX8_takeFrom_84 ?_
  refine ap_iconst (v := 0) dX8_takeFrom_87 (by decide) ?_
  refine ap_bipush (v := 7) dX8_takeFrom_88 (by decide) ?_
  obtain ⟨m9, hm9, h⟩ := Option.bind_eq_some_iff.mp h
  refine ap_copy wd_425 wd_427 wd_426 wd_70 (lyv_3 hu) (lyv_3 hv) hm9 ⟨by decide, by decide⟩ dX8_takeFrom_90 ?_
  refine ap_aload_n dX8_takeFrom_93 1 rfl rfl ?_
  refine ap_get (v := .ref (K.1 (u + 4))) fl_X8_31 (lyv_0 hu) rfl rfl dX8_takeFrom_94 ?_
  refine ap_iconst (v := 0) dX8_takeFrom_97 (by decide) ?_
  refine ap_aload_n dX8_takeFrom_98 0 rfl rfl ?_
  refine ap_get (v := .ref (K.1 (v + 4))) fl_X8_31 (lyv_0 hv) rfl rfl dX8_takeFrom_99 ?_
  refine ap_iconst (v := 0) dX8_takeFrom_102 (by decide) ?_
  refine ap_bipush (v := 7) dX8_takeFrom_103 (by decide) ?_
  obtain ⟨m10, hm10, h⟩ := Option.bind_eq_some_iff.mp h
  refine ap_copy wd_425 wd_427 wd_426 wd_70 (lyv_4 hu) (lyv_4 hv) hm10 ⟨by decide, by decide⟩ dX8_takeFrom_105 ?_
  refine ap_aload_n dX8_takeFrom_108 1 rfl rfl ?_
  refine ap_get (v := .ref (K.1 (u + 5))) fl_X8_34 (lyv_0 hu) rfl rfl dX8_takeFrom_109 ?_
  refine ap_iconst (v := 0) dX8_takeFrom_112 (by decide) ?_
  refine ap_aload_n dX8_takeFrom_113 0 rfl rfl ?_
  refine ap_get (v := .ref (K.1 (v + 5))) fl_X8_34 (lyv_0 hv) rfl rfl dX8_takeFrom_114 ?_
  refine ap_iconst (v := 0) dX8_takeFrom_117 (by decide) ?_
  refine ap_bipush (v := 7) dX8_takeFrom_118 (by decide) ?_
  obtain ⟨m11, hm11, h⟩ := Option.bind_eq_some_iff.mp h
  refine ap_copy wd_425 wd_427 wd_426 wd_70 (lyv_5 hu) (lyv_5 hv) hm11 ⟨by decide, by decide⟩ dX8_takeFrom_120 ?_
  refine ap_aload_n dX8_takeFrom_123 1 rfl rfl ?_
  refine ap_get (v := .ref (K.1 (u + 6))) fl_X8_40 (lyv_0 hu) rfl rfl dX8_takeFrom_124 ?_
  refine ap_iconst (v := 0) dX8_takeFrom_127 (by decide) ?_
  refine ap_aload_n dX8_takeFrom_128 0 rfl rfl ?_
  refine ap_get (v := .ref (K.1 (v + 6))) fl_X8_40 (lyv_0 hv) rfl rfl dX8_takeFrom_129 ?_
  refine ap_iconst (v := 0) dX8_takeFrom_132 (by decide) ?_
  refine ap_bipush (v := 6) dX8_takeFrom_133 (by decide) ?_
  obtain ⟨m12, hm12, h⟩ := Option.bind_eq_some_iff.mp h
  refine ap_copy wd_425 wd_427 wd_426 wd_70 (lyv_6 hu) (lyv_6 hv) hm12 ⟨by decide, by decide⟩ dX8_takeFrom_135 ?_
  refine ap_aload_n dX8_takeFrom_138 1 rfl rfl ?_
  refine ap_get (v := .ref (K.1 (u + 7))) fl_X8_46 (lyv_0 hu) rfl rfl dX8_takeFrom_139 ?_
  refine ap_iconst (v := 0) dX8_takeFrom_142 (by decide) ?_
  refine ap_aload_n dX8_takeFrom_143 0 rfl rfl ?_
  refine ap_get (v := .ref (K.1 (v + 7))) fl_X8_46 (lyv_0 hv) rfl rfl dX8_takeFrom_144 ?_
  refine ap_iconst (v := 0) dX8_takeFrom_147 (by decide) ?_
  refine ap_bipush (v := 6) dX8_takeFrom_148 (by decide) ?_
  obtain ⟨m13, hm13, h⟩ := Option.bind_eq_some_iff.mp h
  refine ap_copy wd_425 wd_427 wd_426 wd_70 (lyv_7 hu) (lyv_7 hv) hm13 ⟨by decide, by decide⟩ dX8_takeFrom_150 ?_
  refine ap_aload_n dX8_takeFrom_153 1 rfl rfl ?_
  refine ap_get (v := .ref (K.1 (u + 8))) fl_X8_49 (lyv_0 hu) rfl rfl dX8_takeFrom_154 ?_
  refine ap_iconst (v := 0) dX8_takeFrom_157 (by decide) ?_
  refine ap_aload_n dX8_takeFrom_158 0 rfl rfl ?_
  refine ap_get (v := .ref (K.1 (v + 8))) fl_X8_49 (lyv_0 hv) rfl rfl dX8_takeFrom_159 ?_
  refine ap_iconst (v := 0) dX8_takeFrom_162 (by decide) ?_
  refine ap_bipush (v := 6) dX8_takeFrom_163 (by decide) ?_
  obtain ⟨m14, hm14, h⟩ := Option.bind_eq_some_iff.mp h
  refine ap_copy wd_425 wd_427 wd_426 wd_70 (lyv_8 hu) (lyv_8 hv) hm14 ⟨by decide, by decide⟩ dX8_takeFrom_165 ?_
  refine ap_aload_n dX8_takeFrom_168 1 rfl rfl ?_
  refine ap_get (v := .ref (K.1 (u + 9))) fl_X8_52 (lyv_0 hu) rfl rfl dX8_takeFrom_169 ?_
  refine ap_iconst (v := 0) dX8_takeFrom_172 (by decide) ?_
  refine ap_aload_n dX8_takeFrom_173 0 rfl rfl ?_
  refine ap_get (v := .ref (K.1 (v + 9))) fl_X8_52 (lyv_0 hv) rfl rfl dX8_takeFrom_174 ?_
  refine ap_iconst (v := 0) dX8_takeFrom_177 (by decide) ?_
  refine ap_bipush (v := 6) dX8_takeFrom_178 (by decide) ?_
  obtain ⟨m15, hm15, h⟩ := Option.bind_eq_some_iff.mp h
  refine ap_copy wd_425 wd_427 wd_426 wd_70 (lyv_9 hu) (lyv_9 hv) hm15 ⟨by decide, by decide⟩ dX8_takeFrom_180 ?_
  refine ap_aload_n dX8_takeFrom_183 1 rfl rfl ?_
  refine ap_get (v := .ref (K.1 (u + 10))) fl_X8_58 (lyv_0 hu) rfl rfl dX8_takeFrom_184 ?_
  refine ap_iconst (v := 0) dX8_takeFrom_187 (by decide) ?_
  refine ap_aload_n dX8_takeFrom_188 0 rfl rfl ?_
  refine ap_get (v := .ref (K.1 (v + 10))) fl_X8_58 (lyv_0 hv) rfl rfl dX8_takeFrom_189 ?_
  refine ap_iconst (v := 0) dX8_takeFrom_192 (by decide) ?_
  refine ap_bipush (v := 56) dX8_takeFrom_193 (by decide) ?_
  obtain ⟨m16, hm16, h⟩ := Option.bind_eq_some_iff.mp h
  refine ap_copy wd_425 wd_427 wd_426 wd_70 (lyv_10 hu) (lyv_10 hv) hm16 ⟨by decide, by decide⟩ dX8_takeFrom_195 ?_
  refine ap_aload_n dX8_takeFrom_198 1 rfl rfl ?_
  refine ap_get (v := .ref (K.1 (u + 11))) fl_X8_61 (lyv_0 hu) rfl rfl dX8_takeFrom_199 ?_
  refine ap_iconst (v := 0) dX8_takeFrom_202 (by decide) ?_
  refine ap_aload_n dX8_takeFrom_203 0 rfl rfl ?_
  refine ap_get (v := .ref (K.1 (v + 11))) fl_X8_61 (lyv_0 hv) rfl rfl dX8_takeFrom_204 ?_
  refine ap_iconst (v := 0) dX8_takeFrom_207 (by decide) ?_
  refine ap_bipush (v := 8) dX8_takeFrom_208 (by decide) ?_
  obtain ⟨m17, hm17, h⟩ := Option.bind_eq_some_iff.mp h
  refine ap_copy wd_425 wd_427 wd_426 wd_70 (lyv_11 hu) (lyv_11 hv) hm17 ⟨by decide, by decide⟩ dX8_takeFrom_210 ?_
  obtain rfl := Option.some.inj h
  exact ap_vret rfl dX8_takeFrom_213
theorem mcX8_takeFrom {l : Launch} {K : Kt} {v : Nat} {u : Nat} (hv : isV v) (hu : isV u) {w : Mm} {zw : Mm} (h : fX8_takeFrom v u w = some zw) : MC l K yX8_takeFrom cX8_takeFrom 2 none rmX8_takeFrom w [.ref (K.1 v), .ref (K.1 u)] none zw :=
  MC.of (by decide) (Nat.le_of_ble_eq_true rfl) rfl (AX8_takeFrom hv hu h)

def w0 : Mm := (fun _ _ => 0, fun _ i => ([0, 0, 0, 0, 0, 1, 0, 0, 1] : List Int64).getD i 0)
theorem st_row {D : va_G} {cl : List vw_C} {a n : Nat} {cA : ClassId} {f f' : Nat → Option Nat} {H : Heap} (h : va_at D cl (a, .inl (cA, n, .inr (.inr (.inr (.inr f))))) H) (hf : ∀ j, j < n → f j = f' j) : va_at D cl (a, .inl (cA, n, .inr (.inr (.inr (.inr f'))))) H := by
  have e : vp_cell cA (n, .inr (.inr (.inr (.inr f)))) = vp_cell cA (n, .inr (.inr (.inr (.inr f')))) := by
    rw [vp_cell_q, vp_cell_q]
    unfold arrV
    congr 2
    funext j
    show va_rf (f j.val) = va_rf (f' j.val)
    rw [hf j.val j.isLt]
  show H[a]? = some (vp_cell cA (n, .inr (.inr (.inr (.inr f')))))
  rw [← e]
  exact h
theorem st_fin {D : va_G} {cl : List vw_C} {K : Kt} {w : Mm} {H : Heap} {k : Nat} {d : Ld} {q : Nat × va_E} (h : (ap_w K w)[k]? = some q) (hd : LAY[k]? = some d) (ha : va_at D cl (K.1 k, ap_cell K w k d) H) : va_at D cl q H := by
  rw [ap_w_at hd] at h
  obtain rfl := Option.some.inj h
  exact ha
theorem st_nm7 : nw_mk RL 7 11 [.null, .null, .null, .null, .null, .null, .null, .long 0, .long 0, .int 0, .int 0, .int 0] RX11 12 := ⟨TX11, tyX11, rfl, inw_X11, tyX11_ok, wd_77, wd_78, wd_57, by decide +kernel⟩
theorem st_nm10 : nw_mk RL 10 12 [.null, .null, .null, .null, .long 0, .long 0, .int 0, .null, .null, .null, .null, .null, .null, .null, .int 0, .null, .int 0, .int 0, .int 0, .int 0, .int 0, .null, .null] RX12 23 := ⟨TX12, tyX12, rfl, inw_X12, tyX12_ok, wd_902, wd_903, wd_69, by decide +kernel⟩
def st_ad (q1 q2 : Nat) (g1 g2 : Nat → Nat) : List Nat := [q1, g1 0, g1 1, g1 2, g1 3, g1 4, g1 5, g1 6, g1 7, g1 8, g1 9, g1 10, g1 11, g1 13, g1 14, g1 15, g1 16, g1 17, g1 18, g1 19, g1 20, g1 21, g1 22, g1 23, g1 24, g1 25, g1 26, g1 27, g1 28, g1 29, g1 30, g1 31, g1 32, g1 33, g1 34, g1 35, g1 36, g1 39, g1 40, g1 41, g1 42, g1 43, g1 44, g1 45, g1 46, g1 47, g1 48, g1 49, g1 50, g1 12, g1 37, g1 38, g1 51, g1 52, g1 53, g1 54, g1 55, g1 56, g1 57, g1 58, g1 59, g1 60, g1 61, g1 62, g1 63, g1 64, g1 65, g1 66, g1 67, g1 68, g1 69, g1 70, g1 71, g1 72, g1 73, g1 74, g1 75, q2, g2 0, g2 1, g2 2, g2 3, g2 4, g2 5, g2 6, g2 7, g2 8, g2 9, g2 10, g2 11, g2 12, g2 13]
def st_ws (g : Gt) (q1 q2 : Nat) (g1 g2 : Nat → Nat) : va_W := [(q1, .inr (11, [.ref (g1 0), .ref (g1 12), .ref (g1 37), .ref (g1 38), .ref (g1 52), .ref (g1 67), .ref (g1 72), .long 0, .long 1, .int 0, .int 0, .int 0])), (g1 0, .inr (8, [.int 0, .int 0, .int 0, .ref (g1 1), .ref (g1 2), .ref (g1 3), .ref (g1 4), .ref (g1 5), .int 0, .ref (g1 6), .int 0, .ref (g1 7), .ref (g1 8), .ref (g1 9), .int 0, .ref (g1 10), .ref (g1 11)])), (g1 1, .inl (g.2 0, 7, .inl (fun _ => 0))), (g1 2, .inl (g.2 0, 7, .inl (fun _ => 0))), (g1 3, .inl (g.2 0, 7, .inl (fun _ => 0))), (g1 4, .inl (g.2 0, 7, .inl (fun _ => 0))), (g1 5, .inl (g.2 0, 7, .inl (fun _ => 0))), (g1 6, .inl (g.2 0, 6, .inl (fun _ => 0))), (g1 7, .inl (g.2 0, 6, .inl (fun _ => 0))), (g1 8, .inl (g.2 0, 6, .inl (fun _ => 0))), (g1 9, .inl (g.2 0, 6, .inl (fun _ => 0))), (g1 10, .inl (g.2 0, 56, .inl (fun _ => 0))), (g1 11, .inl (g.2 0, 8, .inl (fun _ => 0))), (g1 12, .inl (g.2 3, 2, .inr (.inr (.inr (.inr (va_up (va_up (fun _ => none) 0 (some (g1 13))) 1 (some (g1 25)))))))), (g1 13, .inr (8, [.int 0, .int 0, .int 0, .ref (g1 14), .ref (g1 15), .ref (g1 16), .ref (g1 17), .ref (g1 18), .int 0, .ref (g1 19), .int 0, .ref (g1 20), .ref (g1 21), .ref (g1 22), .int 0, .ref (g1 23), .ref (g1 24)])), (g1 14, .inl (g.2 0, 7, .inl (fun _ => 0))), (g1 15, .inl (g.2 0, 7, .inl (fun _ => 0))), (g1 16, .inl (g.2 0, 7, .inl (fun _ => 0))), (g1 17, .inl (g.2 0, 7, .inl (fun _ => 0))), (g1 18, .inl (g.2 0, 7, .inl (fun _ => 0))), (g1 19, .inl (g.2 0, 6, .inl (fun _ => 0))), (g1 20, .inl (g.2 0, 6, .inl (fun _ => 0))), (g1 21, .inl (g.2 0, 6, .inl (fun _ => 0))), (g1 22, .inl (g.2 0, 6, .inl (fun _ => 0))), (g1 23, .inl (g.2 0, 56, .inl (fun _ => 0))), (g1 24, .inl (g.2 0, 8, .inl (fun _ => 0))), (g1 25, .inr (8, [.int 0, .int 0, .int 0, .ref (g1 26), .ref (g1 27), .ref (g1 28), .ref (g1 29), .ref (g1 30), .int 0, .ref (g1 31), .int 0, .ref (g1 32), .ref (g1 33), .ref (g1 34), .int 0, .ref (g1 35), .ref (g1 36)])), (g1 26, .inl (g.2 0, 7, .inl (fun _ => 0))), (g1 27, .inl (g.2 0, 7, .inl (fun _ => 0))), (g1 28, .inl (g.2 0, 7, .inl (fun _ => 0))), (g1 29, .inl (g.2 0, 7, .inl (fun _ => 0))), (g1 30, .inl (g.2 0, 7, .inl (fun _ => 0))), (g1 31, .inl (g.2 0, 6, .inl (fun _ => 0))), (g1 32, .inl (g.2 0, 6, .inl (fun _ => 0))), (g1 33, .inl (g.2 0, 6, .inl (fun _ => 0))), (g1 34, .inl (g.2 0, 6, .inl (fun _ => 0))), (g1 35, .inl (g.2 0, 56, .inl (fun _ => 0))), (g1 36, .inl (g.2 0, 8, .inl (fun _ => 0))), (g1 37, .inl (g.2 1, 2, .inl (fun _ => 0))), (g1 38, .inr (5, [.ref (g1 39), .int 0, .ref (g1 51), .int 0, .int 0, .int 0, .int 0])), (g1 39, .inr (8, [.int 0, .int 0, .int 0, .ref (g1 40), .ref (g1 41), .ref (g1 42), .ref (g1 43), .ref (g1 44), .int 0, .ref (g1 45), .int 0, .ref (g1 46), .ref (g1 47), .ref (g1 48), .int 0, .ref (g1 49), .ref (g1 50)])), (g1 40, .inl (g.2 0, 7, .inl (fun _ => 0))), (g1 41, .inl (g.2 0, 7, .inl (fun _ => 0))), (g1 42, .inl (g.2 0, 7, .inl (fun _ => 0))), (g1 43, .inl (g.2 0, 7, .inl (fun _ => 0))), (g1 44, .inl (g.2 0, 7, .inl (fun _ => 0))), (g1 45, .inl (g.2 0, 6, .inl (fun _ => 0))), (g1 46, .inl (g.2 0, 6, .inl (fun _ => 0))), (g1 47, .inl (g.2 0, 6, .inl (fun _ => 0))), (g1 48, .inl (g.2 0, 6, .inl (fun _ => 0))), (g1 49, .inl (g.2 0, 56, .inl (fun _ => 0))), (g1 50, .inl (g.2 0, 8, .inl (fun _ => 0))), (g1 51, .inl (g.2 2, 150, .inl (fun _ => 0))), (g1 52, .inr (3, [.ref (g1 0), .ref (g1 53), .ref (g1 60), .ref (g1 61), .ref (g1 62), .ref (g1 63), .ref (g1 64), .ref (g1 65), .ref (g1 66)])), (g1 53, .inl (g.2 4, 6, .inr (.inr (.inr (.inr (va_up (va_up (va_up (va_up (va_up (va_up (fun _ => none) 0 (some (g1 54))) 1 (some (g1 55))) 2 (some (g1 56))) 3 (some (g1 57))) 4 (some (g1 58))) 5 (some (g1 59)))))))), (g1 54, .inr (4, [])), (g1 55, .inr (10, [])), (g1 56, .inr (1, [])), (g1 57, .inr (2, [])), (g1 58, .inr (0, [])), (g1 59, .inr (7, [])), (g1 60, .inl (g.2 0, 448, .inl (fun _ => 0))), (g1 61, .inl (g.2 0, 7, .inl (fun _ => 0))), (g1 62, .inl (g.2 0, 64, .inl (fun _ => 0))), (g1 63, .inl (g.2 0, 64, .inl (fun _ => 0))), (g1 64, .inl (g.2 0, 15, .inl (fun _ => 0))), (g1 65, .inl (g.2 0, 4, .inl (fun _ => 0))), (g1 66, .inl (g.2 0, 4, .inl (fun _ => 0))), (g1 67, .inr (6, [.ref (g1 0), .ref (g1 52), .ref (g1 68), .ref (g1 69), .int 0, .ref (g1 70), .ref (g1 71)])), (g1 68, .inl (g.2 0, 6, .inl (fun _ => 0))), (g1 69, .inl (g.2 1, 128, .inl (fun _ => 0))), (g1 70, .inl (g.2 0, 128, .inl (fun _ => 0))), (g1 71, .inl (g.2 0, 24, .inl (fun _ => 0))), (g1 72, .inr (9, [.ref (g1 0), .ref (g1 52), .ref (g1 73), .ref (g1 74), .ref (g1 75)])), (g1 73, .inl (g.2 0, 64, .inl (fun _ => 0))), (g1 74, .inl (g.2 1, 64, .inl (fun _ => 0))), (g1 75, .inl (g.2 0, 64, .inl (fun _ => 0))), (q2, .inr (12, [.ref (g2 0), .ref (g2 1), .ref (g2 2), .ref (g2 3), .long 0, .long 1, .int 0, .ref (g2 4), .ref (g2 5), .ref (g2 6), .ref (g2 7), .ref (g2 8), .ref (g2 9), .ref (g2 10), .int 0, .ref (g2 11), .int 0, .int 0, .int 0, .int 0, .int 0, .ref (g2 12), .ref (g2 13)])), (g2 0, .inl (g.2 0, 129, .inl (fun _ => 0))), (g2 1, .inl (g.2 0, 258, .inl (fun _ => 0))), (g2 2, .inl (g.2 1, 2, .inl (fun _ => 0))), (g2 3, .inl (g.2 0, 3, .inl (fun _ => 0))), (g2 4, .inl (g.2 0, 7, .inl (fun _ => 0))), (g2 5, .inl (g.2 0, 7, .inl (fun _ => 0))), (g2 6, .inl (g.2 0, 64, .inl (fun _ => 0))), (g2 7, .inl (g.2 0, 4, .inl (fun _ => 0))), (g2 8, .inl (g.2 0, 4, .inl (fun _ => 0))), (g2 9, .inl (g.2 1, 128, .inl (fun _ => 0))), (g2 10, .inl (g.2 0, 24, .inl (fun _ => 0))), (g2 11, .inl (g.2 0, 150, .inl (fun _ => 0))), (g2 12, .inl (g.2 0, 65, .inl (fun _ => 0))), (g2 13, .inl (g.2 0, 5, .inl (fun _ => 0)))]
def st_K (g : Gt) (q1 q2 : Nat) (g1 g2 : Nat → Nat) (adK adV : Nat → Nat) : Kt := (fun k => (st_ad q1 q2 g1 g2).getD k 0, g.2, g.1, adK, adV)
def st_pi : List Nat := [0, 1, 2, 3, 4, 5, 6, 7, 8, 9, 10, 11, 12, 14, 15, 16, 17, 18, 19, 20, 21, 22, 23, 24, 25, 26, 27, 28, 29, 30, 31, 32, 33, 34, 35, 36, 37, 40, 41, 42, 43, 44, 45, 46, 47, 48, 49, 50, 51, 13, 38, 39, 52, 53, 54, 55, 56, 57, 58, 59, 60, 61, 62, 63, 64, 65, 66, 67, 68, 69, 70, 71, 72, 73, 74, 75, 76, 77, 78, 79, 80, 81, 82, 83, 84, 85, 86, 87, 88, 89, 90, 91]
set_option maxRecDepth 100000 in
set_option maxHeartbeats 4000000 in
theorem st_P0 {g : Gt} {q1 q2 : Nat} {g1 g2 adK adV : Nat → Nat} {H : Heap} (h : va_P g.1 ap_cl (st_ws g q1 q2 g1 g2) H) : va_at g.1 ap_cl ((st_K g q1 q2 g1 g2 adK adV).1 0, ap_cell (st_K g q1 q2 g1 g2 adK adV) w0 0 (.inl (11, [some (some 1), some (some 49), some (some 50), some (some 51), some (some 53), some (some 68), some (some 73), some none, some none, none, none, none]))) H := h 0 _ rfl
set_option maxRecDepth 100000 in
set_option maxHeartbeats 4000000 in
theorem st_P1 {g : Gt} {q1 q2 : Nat} {g1 g2 adK adV : Nat → Nat} {H : Heap} (h : va_P g.1 ap_cl (st_ws g q1 q2 g1 g2) H) : va_at g.1 ap_cl ((st_K g q1 q2 g1 g2 adK adV).1 1, ap_cell (st_K g q1 q2 g1 g2 adK adV) w0 1 (.inl (8, [none, none, none, some (some 2), some (some 3), some (some 4), some (some 5), some (some 6), none, some (some 7), none, some (some 8), some (some 9), some (some 10), none, some (some 11), some (some 12)]))) H := h 1 _ rfl
set_option maxRecDepth 100000 in
set_option maxHeartbeats 4000000 in
theorem st_P2 {g : Gt} {q1 q2 : Nat} {g1 g2 adK adV : Nat → Nat} {H : Heap} (h : va_P g.1 ap_cl (st_ws g q1 q2 g1 g2) H) : va_at g.1 ap_cl ((st_K g q1 q2 g1 g2 adK adV).1 2, ap_cell (st_K g q1 q2 g1 g2 adK adV) w0 2 (.inr (.inl (0, 7)))) H := h 2 _ rfl
set_option maxRecDepth 100000 in
set_option maxHeartbeats 4000000 in
theorem st_P3 {g : Gt} {q1 q2 : Nat} {g1 g2 adK adV : Nat → Nat} {H : Heap} (h : va_P g.1 ap_cl (st_ws g q1 q2 g1 g2) H) : va_at g.1 ap_cl ((st_K g q1 q2 g1 g2 adK adV).1 3, ap_cell (st_K g q1 q2 g1 g2 adK adV) w0 3 (.inr (.inl (0, 7)))) H := h 3 _ rfl
set_option maxRecDepth 100000 in
set_option maxHeartbeats 4000000 in
theorem st_P4 {g : Gt} {q1 q2 : Nat} {g1 g2 adK adV : Nat → Nat} {H : Heap} (h : va_P g.1 ap_cl (st_ws g q1 q2 g1 g2) H) : va_at g.1 ap_cl ((st_K g q1 q2 g1 g2 adK adV).1 4, ap_cell (st_K g q1 q2 g1 g2 adK adV) w0 4 (.inr (.inl (0, 7)))) H := h 4 _ rfl
set_option maxRecDepth 100000 in
set_option maxHeartbeats 4000000 in
theorem st_P5 {g : Gt} {q1 q2 : Nat} {g1 g2 adK adV : Nat → Nat} {H : Heap} (h : va_P g.1 ap_cl (st_ws g q1 q2 g1 g2) H) : va_at g.1 ap_cl ((st_K g q1 q2 g1 g2 adK adV).1 5, ap_cell (st_K g q1 q2 g1 g2 adK adV) w0 5 (.inr (.inl (0, 7)))) H := h 5 _ rfl
set_option maxRecDepth 100000 in
set_option maxHeartbeats 4000000 in
theorem st_P6 {g : Gt} {q1 q2 : Nat} {g1 g2 adK adV : Nat → Nat} {H : Heap} (h : va_P g.1 ap_cl (st_ws g q1 q2 g1 g2) H) : va_at g.1 ap_cl ((st_K g q1 q2 g1 g2 adK adV).1 6, ap_cell (st_K g q1 q2 g1 g2 adK adV) w0 6 (.inr (.inl (0, 7)))) H := h 6 _ rfl
set_option maxRecDepth 100000 in
set_option maxHeartbeats 4000000 in
theorem st_P7 {g : Gt} {q1 q2 : Nat} {g1 g2 adK adV : Nat → Nat} {H : Heap} (h : va_P g.1 ap_cl (st_ws g q1 q2 g1 g2) H) : va_at g.1 ap_cl ((st_K g q1 q2 g1 g2 adK adV).1 7, ap_cell (st_K g q1 q2 g1 g2 adK adV) w0 7 (.inr (.inl (0, 6)))) H := h 7 _ rfl
set_option maxRecDepth 100000 in
set_option maxHeartbeats 4000000 in
theorem st_P8 {g : Gt} {q1 q2 : Nat} {g1 g2 adK adV : Nat → Nat} {H : Heap} (h : va_P g.1 ap_cl (st_ws g q1 q2 g1 g2) H) : va_at g.1 ap_cl ((st_K g q1 q2 g1 g2 adK adV).1 8, ap_cell (st_K g q1 q2 g1 g2 adK adV) w0 8 (.inr (.inl (0, 6)))) H := h 8 _ rfl
set_option maxRecDepth 100000 in
set_option maxHeartbeats 4000000 in
theorem st_P9 {g : Gt} {q1 q2 : Nat} {g1 g2 adK adV : Nat → Nat} {H : Heap} (h : va_P g.1 ap_cl (st_ws g q1 q2 g1 g2) H) : va_at g.1 ap_cl ((st_K g q1 q2 g1 g2 adK adV).1 9, ap_cell (st_K g q1 q2 g1 g2 adK adV) w0 9 (.inr (.inl (0, 6)))) H := h 9 _ rfl
set_option maxRecDepth 100000 in
set_option maxHeartbeats 4000000 in
theorem st_P10 {g : Gt} {q1 q2 : Nat} {g1 g2 adK adV : Nat → Nat} {H : Heap} (h : va_P g.1 ap_cl (st_ws g q1 q2 g1 g2) H) : va_at g.1 ap_cl ((st_K g q1 q2 g1 g2 adK adV).1 10, ap_cell (st_K g q1 q2 g1 g2 adK adV) w0 10 (.inr (.inl (0, 6)))) H := h 10 _ rfl
set_option maxRecDepth 100000 in
set_option maxHeartbeats 4000000 in
theorem st_P11 {g : Gt} {q1 q2 : Nat} {g1 g2 adK adV : Nat → Nat} {H : Heap} (h : va_P g.1 ap_cl (st_ws g q1 q2 g1 g2) H) : va_at g.1 ap_cl ((st_K g q1 q2 g1 g2 adK adV).1 11, ap_cell (st_K g q1 q2 g1 g2 adK adV) w0 11 (.inr (.inl (0, 56)))) H := h 11 _ rfl
set_option maxRecDepth 100000 in
set_option maxHeartbeats 4000000 in
theorem st_P12 {g : Gt} {q1 q2 : Nat} {g1 g2 adK adV : Nat → Nat} {H : Heap} (h : va_P g.1 ap_cl (st_ws g q1 q2 g1 g2) H) : va_at g.1 ap_cl ((st_K g q1 q2 g1 g2 adK adV).1 12, ap_cell (st_K g q1 q2 g1 g2 adK adV) w0 12 (.inr (.inl (0, 8)))) H := h 12 _ rfl
set_option maxRecDepth 100000 in
set_option maxHeartbeats 4000000 in
theorem st_P13 {g : Gt} {q1 q2 : Nat} {g1 g2 adK adV : Nat → Nat} {H : Heap} (h : va_P g.1 ap_cl (st_ws g q1 q2 g1 g2) H) : va_at g.1 ap_cl ((st_K g q1 q2 g1 g2 adK adV).1 13, ap_cell (st_K g q1 q2 g1 g2 adK adV) w0 13 (.inl (8, [none, none, none, some (some 14), some (some 15), some (some 16), some (some 17), some (some 18), none, some (some 19), none, some (some 20), some (some 21), some (some 22), none, some (some 23), some (some 24)]))) H := h 14 _ rfl
set_option maxRecDepth 100000 in
set_option maxHeartbeats 4000000 in
theorem st_P14 {g : Gt} {q1 q2 : Nat} {g1 g2 adK adV : Nat → Nat} {H : Heap} (h : va_P g.1 ap_cl (st_ws g q1 q2 g1 g2) H) : va_at g.1 ap_cl ((st_K g q1 q2 g1 g2 adK adV).1 14, ap_cell (st_K g q1 q2 g1 g2 adK adV) w0 14 (.inr (.inl (0, 7)))) H := h 15 _ rfl
set_option maxRecDepth 100000 in
set_option maxHeartbeats 4000000 in
theorem st_P15 {g : Gt} {q1 q2 : Nat} {g1 g2 adK adV : Nat → Nat} {H : Heap} (h : va_P g.1 ap_cl (st_ws g q1 q2 g1 g2) H) : va_at g.1 ap_cl ((st_K g q1 q2 g1 g2 adK adV).1 15, ap_cell (st_K g q1 q2 g1 g2 adK adV) w0 15 (.inr (.inl (0, 7)))) H := h 16 _ rfl
set_option maxRecDepth 100000 in
set_option maxHeartbeats 4000000 in
theorem st_P16 {g : Gt} {q1 q2 : Nat} {g1 g2 adK adV : Nat → Nat} {H : Heap} (h : va_P g.1 ap_cl (st_ws g q1 q2 g1 g2) H) : va_at g.1 ap_cl ((st_K g q1 q2 g1 g2 adK adV).1 16, ap_cell (st_K g q1 q2 g1 g2 adK adV) w0 16 (.inr (.inl (0, 7)))) H := h 17 _ rfl
set_option maxRecDepth 100000 in
set_option maxHeartbeats 4000000 in
theorem st_P17 {g : Gt} {q1 q2 : Nat} {g1 g2 adK adV : Nat → Nat} {H : Heap} (h : va_P g.1 ap_cl (st_ws g q1 q2 g1 g2) H) : va_at g.1 ap_cl ((st_K g q1 q2 g1 g2 adK adV).1 17, ap_cell (st_K g q1 q2 g1 g2 adK adV) w0 17 (.inr (.inl (0, 7)))) H := h 18 _ rfl
set_option maxRecDepth 100000 in
set_option maxHeartbeats 4000000 in
theorem st_P18 {g : Gt} {q1 q2 : Nat} {g1 g2 adK adV : Nat → Nat} {H : Heap} (h : va_P g.1 ap_cl (st_ws g q1 q2 g1 g2) H) : va_at g.1 ap_cl ((st_K g q1 q2 g1 g2 adK adV).1 18, ap_cell (st_K g q1 q2 g1 g2 adK adV) w0 18 (.inr (.inl (0, 7)))) H := h 19 _ rfl
set_option maxRecDepth 100000 in
set_option maxHeartbeats 4000000 in
theorem st_P19 {g : Gt} {q1 q2 : Nat} {g1 g2 adK adV : Nat → Nat} {H : Heap} (h : va_P g.1 ap_cl (st_ws g q1 q2 g1 g2) H) : va_at g.1 ap_cl ((st_K g q1 q2 g1 g2 adK adV).1 19, ap_cell (st_K g q1 q2 g1 g2 adK adV) w0 19 (.inr (.inl (0, 6)))) H := h 20 _ rfl
set_option maxRecDepth 100000 in
set_option maxHeartbeats 4000000 in
theorem st_P20 {g : Gt} {q1 q2 : Nat} {g1 g2 adK adV : Nat → Nat} {H : Heap} (h : va_P g.1 ap_cl (st_ws g q1 q2 g1 g2) H) : va_at g.1 ap_cl ((st_K g q1 q2 g1 g2 adK adV).1 20, ap_cell (st_K g q1 q2 g1 g2 adK adV) w0 20 (.inr (.inl (0, 6)))) H := h 21 _ rfl
set_option maxRecDepth 100000 in
set_option maxHeartbeats 4000000 in
theorem st_P21 {g : Gt} {q1 q2 : Nat} {g1 g2 adK adV : Nat → Nat} {H : Heap} (h : va_P g.1 ap_cl (st_ws g q1 q2 g1 g2) H) : va_at g.1 ap_cl ((st_K g q1 q2 g1 g2 adK adV).1 21, ap_cell (st_K g q1 q2 g1 g2 adK adV) w0 21 (.inr (.inl (0, 6)))) H := h 22 _ rfl
set_option maxRecDepth 100000 in
set_option maxHeartbeats 4000000 in
theorem st_P22 {g : Gt} {q1 q2 : Nat} {g1 g2 adK adV : Nat → Nat} {H : Heap} (h : va_P g.1 ap_cl (st_ws g q1 q2 g1 g2) H) : va_at g.1 ap_cl ((st_K g q1 q2 g1 g2 adK adV).1 22, ap_cell (st_K g q1 q2 g1 g2 adK adV) w0 22 (.inr (.inl (0, 6)))) H := h 23 _ rfl
set_option maxRecDepth 100000 in
set_option maxHeartbeats 4000000 in
theorem st_P23 {g : Gt} {q1 q2 : Nat} {g1 g2 adK adV : Nat → Nat} {H : Heap} (h : va_P g.1 ap_cl (st_ws g q1 q2 g1 g2) H) : va_at g.1 ap_cl ((st_K g q1 q2 g1 g2 adK adV).1 23, ap_cell (st_K g q1 q2 g1 g2 adK adV) w0 23 (.inr (.inl (0, 56)))) H := h 24 _ rfl
set_option maxRecDepth 100000 in
set_option maxHeartbeats 4000000 in
theorem st_P24 {g : Gt} {q1 q2 : Nat} {g1 g2 adK adV : Nat → Nat} {H : Heap} (h : va_P g.1 ap_cl (st_ws g q1 q2 g1 g2) H) : va_at g.1 ap_cl ((st_K g q1 q2 g1 g2 adK adV).1 24, ap_cell (st_K g q1 q2 g1 g2 adK adV) w0 24 (.inr (.inl (0, 8)))) H := h 25 _ rfl
set_option maxRecDepth 100000 in
set_option maxHeartbeats 4000000 in
theorem st_P25 {g : Gt} {q1 q2 : Nat} {g1 g2 adK adV : Nat → Nat} {H : Heap} (h : va_P g.1 ap_cl (st_ws g q1 q2 g1 g2) H) : va_at g.1 ap_cl ((st_K g q1 q2 g1 g2 adK adV).1 25, ap_cell (st_K g q1 q2 g1 g2 adK adV) w0 25 (.inl (8, [none, none, none, some (some 26), some (some 27), some (some 28), some (some 29), some (some 30), none, some (some 31), none, some (some 32), some (some 33), some (some 34), none, some (some 35), some (some 36)]))) H := h 26 _ rfl
set_option maxRecDepth 100000 in
set_option maxHeartbeats 4000000 in
theorem st_P26 {g : Gt} {q1 q2 : Nat} {g1 g2 adK adV : Nat → Nat} {H : Heap} (h : va_P g.1 ap_cl (st_ws g q1 q2 g1 g2) H) : va_at g.1 ap_cl ((st_K g q1 q2 g1 g2 adK adV).1 26, ap_cell (st_K g q1 q2 g1 g2 adK adV) w0 26 (.inr (.inl (0, 7)))) H := h 27 _ rfl
set_option maxRecDepth 100000 in
set_option maxHeartbeats 4000000 in
theorem st_P27 {g : Gt} {q1 q2 : Nat} {g1 g2 adK adV : Nat → Nat} {H : Heap} (h : va_P g.1 ap_cl (st_ws g q1 q2 g1 g2) H) : va_at g.1 ap_cl ((st_K g q1 q2 g1 g2 adK adV).1 27, ap_cell (st_K g q1 q2 g1 g2 adK adV) w0 27 (.inr (.inl (0, 7)))) H := h 28 _ rfl
set_option maxRecDepth 100000 in
set_option maxHeartbeats 4000000 in
theorem st_P28 {g : Gt} {q1 q2 : Nat} {g1 g2 adK adV : Nat → Nat} {H : Heap} (h : va_P g.1 ap_cl (st_ws g q1 q2 g1 g2) H) : va_at g.1 ap_cl ((st_K g q1 q2 g1 g2 adK adV).1 28, ap_cell (st_K g q1 q2 g1 g2 adK adV) w0 28 (.inr (.inl (0, 7)))) H := h 29 _ rfl
set_option maxRecDepth 100000 in
set_option maxHeartbeats 4000000 in
theorem st_P29 {g : Gt} {q1 q2 : Nat} {g1 g2 adK adV : Nat → Nat} {H : Heap} (h : va_P g.1 ap_cl (st_ws g q1 q2 g1 g2) H) : va_at g.1 ap_cl ((st_K g q1 q2 g1 g2 adK adV).1 29, ap_cell (st_K g q1 q2 g1 g2 adK adV) w0 29 (.inr (.inl (0, 7)))) H := h 30 _ rfl
set_option maxRecDepth 100000 in
set_option maxHeartbeats 4000000 in
theorem st_P30 {g : Gt} {q1 q2 : Nat} {g1 g2 adK adV : Nat → Nat} {H : Heap} (h : va_P g.1 ap_cl (st_ws g q1 q2 g1 g2) H) : va_at g.1 ap_cl ((st_K g q1 q2 g1 g2 adK adV).1 30, ap_cell (st_K g q1 q2 g1 g2 adK adV) w0 30 (.inr (.inl (0, 7)))) H := h 31 _ rfl
set_option maxRecDepth 100000 in
set_option maxHeartbeats 4000000 in
theorem st_P31 {g : Gt} {q1 q2 : Nat} {g1 g2 adK adV : Nat → Nat} {H : Heap} (h : va_P g.1 ap_cl (st_ws g q1 q2 g1 g2) H) : va_at g.1 ap_cl ((st_K g q1 q2 g1 g2 adK adV).1 31, ap_cell (st_K g q1 q2 g1 g2 adK adV) w0 31 (.inr (.inl (0, 6)))) H := h 32 _ rfl
set_option maxRecDepth 100000 in
set_option maxHeartbeats 4000000 in
theorem st_P32 {g : Gt} {q1 q2 : Nat} {g1 g2 adK adV : Nat → Nat} {H : Heap} (h : va_P g.1 ap_cl (st_ws g q1 q2 g1 g2) H) : va_at g.1 ap_cl ((st_K g q1 q2 g1 g2 adK adV).1 32, ap_cell (st_K g q1 q2 g1 g2 adK adV) w0 32 (.inr (.inl (0, 6)))) H := h 33 _ rfl
set_option maxRecDepth 100000 in
set_option maxHeartbeats 4000000 in
theorem st_P33 {g : Gt} {q1 q2 : Nat} {g1 g2 adK adV : Nat → Nat} {H : Heap} (h : va_P g.1 ap_cl (st_ws g q1 q2 g1 g2) H) : va_at g.1 ap_cl ((st_K g q1 q2 g1 g2 adK adV).1 33, ap_cell (st_K g q1 q2 g1 g2 adK adV) w0 33 (.inr (.inl (0, 6)))) H := h 34 _ rfl
set_option maxRecDepth 100000 in
set_option maxHeartbeats 4000000 in
theorem st_P34 {g : Gt} {q1 q2 : Nat} {g1 g2 adK adV : Nat → Nat} {H : Heap} (h : va_P g.1 ap_cl (st_ws g q1 q2 g1 g2) H) : va_at g.1 ap_cl ((st_K g q1 q2 g1 g2 adK adV).1 34, ap_cell (st_K g q1 q2 g1 g2 adK adV) w0 34 (.inr (.inl (0, 6)))) H := h 35 _ rfl
set_option maxRecDepth 100000 in
set_option maxHeartbeats 4000000 in
theorem st_P35 {g : Gt} {q1 q2 : Nat} {g1 g2 adK adV : Nat → Nat} {H : Heap} (h : va_P g.1 ap_cl (st_ws g q1 q2 g1 g2) H) : va_at g.1 ap_cl ((st_K g q1 q2 g1 g2 adK adV).1 35, ap_cell (st_K g q1 q2 g1 g2 adK adV) w0 35 (.inr (.inl (0, 56)))) H := h 36 _ rfl
set_option maxRecDepth 100000 in
set_option maxHeartbeats 4000000 in
theorem st_P36 {g : Gt} {q1 q2 : Nat} {g1 g2 adK adV : Nat → Nat} {H : Heap} (h : va_P g.1 ap_cl (st_ws g q1 q2 g1 g2) H) : va_at g.1 ap_cl ((st_K g q1 q2 g1 g2 adK adV).1 36, ap_cell (st_K g q1 q2 g1 g2 adK adV) w0 36 (.inr (.inl (0, 8)))) H := h 37 _ rfl
set_option maxRecDepth 100000 in
set_option maxHeartbeats 4000000 in
theorem st_P37 {g : Gt} {q1 q2 : Nat} {g1 g2 adK adV : Nat → Nat} {H : Heap} (h : va_P g.1 ap_cl (st_ws g q1 q2 g1 g2) H) : va_at g.1 ap_cl ((st_K g q1 q2 g1 g2 adK adV).1 37, ap_cell (st_K g q1 q2 g1 g2 adK adV) w0 37 (.inl (8, [none, none, none, some (some 38), some (some 39), some (some 40), some (some 41), some (some 42), none, some (some 43), none, some (some 44), some (some 45), some (some 46), none, some (some 47), some (some 48)]))) H := h 40 _ rfl
set_option maxRecDepth 100000 in
set_option maxHeartbeats 4000000 in
theorem st_P38 {g : Gt} {q1 q2 : Nat} {g1 g2 adK adV : Nat → Nat} {H : Heap} (h : va_P g.1 ap_cl (st_ws g q1 q2 g1 g2) H) : va_at g.1 ap_cl ((st_K g q1 q2 g1 g2 adK adV).1 38, ap_cell (st_K g q1 q2 g1 g2 adK adV) w0 38 (.inr (.inl (0, 7)))) H := h 41 _ rfl
set_option maxRecDepth 100000 in
set_option maxHeartbeats 4000000 in
theorem st_P39 {g : Gt} {q1 q2 : Nat} {g1 g2 adK adV : Nat → Nat} {H : Heap} (h : va_P g.1 ap_cl (st_ws g q1 q2 g1 g2) H) : va_at g.1 ap_cl ((st_K g q1 q2 g1 g2 adK adV).1 39, ap_cell (st_K g q1 q2 g1 g2 adK adV) w0 39 (.inr (.inl (0, 7)))) H := h 42 _ rfl
set_option maxRecDepth 100000 in
set_option maxHeartbeats 4000000 in
theorem st_P40 {g : Gt} {q1 q2 : Nat} {g1 g2 adK adV : Nat → Nat} {H : Heap} (h : va_P g.1 ap_cl (st_ws g q1 q2 g1 g2) H) : va_at g.1 ap_cl ((st_K g q1 q2 g1 g2 adK adV).1 40, ap_cell (st_K g q1 q2 g1 g2 adK adV) w0 40 (.inr (.inl (0, 7)))) H := h 43 _ rfl
set_option maxRecDepth 100000 in
set_option maxHeartbeats 4000000 in
theorem st_P41 {g : Gt} {q1 q2 : Nat} {g1 g2 adK adV : Nat → Nat} {H : Heap} (h : va_P g.1 ap_cl (st_ws g q1 q2 g1 g2) H) : va_at g.1 ap_cl ((st_K g q1 q2 g1 g2 adK adV).1 41, ap_cell (st_K g q1 q2 g1 g2 adK adV) w0 41 (.inr (.inl (0, 7)))) H := h 44 _ rfl
set_option maxRecDepth 100000 in
set_option maxHeartbeats 4000000 in
theorem st_P42 {g : Gt} {q1 q2 : Nat} {g1 g2 adK adV : Nat → Nat} {H : Heap} (h : va_P g.1 ap_cl (st_ws g q1 q2 g1 g2) H) : va_at g.1 ap_cl ((st_K g q1 q2 g1 g2 adK adV).1 42, ap_cell (st_K g q1 q2 g1 g2 adK adV) w0 42 (.inr (.inl (0, 7)))) H := h 45 _ rfl
set_option maxRecDepth 100000 in
set_option maxHeartbeats 4000000 in
theorem st_P43 {g : Gt} {q1 q2 : Nat} {g1 g2 adK adV : Nat → Nat} {H : Heap} (h : va_P g.1 ap_cl (st_ws g q1 q2 g1 g2) H) : va_at g.1 ap_cl ((st_K g q1 q2 g1 g2 adK adV).1 43, ap_cell (st_K g q1 q2 g1 g2 adK adV) w0 43 (.inr (.inl (0, 6)))) H := h 46 _ rfl
set_option maxRecDepth 100000 in
set_option maxHeartbeats 4000000 in
theorem st_P44 {g : Gt} {q1 q2 : Nat} {g1 g2 adK adV : Nat → Nat} {H : Heap} (h : va_P g.1 ap_cl (st_ws g q1 q2 g1 g2) H) : va_at g.1 ap_cl ((st_K g q1 q2 g1 g2 adK adV).1 44, ap_cell (st_K g q1 q2 g1 g2 adK adV) w0 44 (.inr (.inl (0, 6)))) H := h 47 _ rfl
set_option maxRecDepth 100000 in
set_option maxHeartbeats 4000000 in
theorem st_P45 {g : Gt} {q1 q2 : Nat} {g1 g2 adK adV : Nat → Nat} {H : Heap} (h : va_P g.1 ap_cl (st_ws g q1 q2 g1 g2) H) : va_at g.1 ap_cl ((st_K g q1 q2 g1 g2 adK adV).1 45, ap_cell (st_K g q1 q2 g1 g2 adK adV) w0 45 (.inr (.inl (0, 6)))) H := h 48 _ rfl
set_option maxRecDepth 100000 in
set_option maxHeartbeats 4000000 in
theorem st_P46 {g : Gt} {q1 q2 : Nat} {g1 g2 adK adV : Nat → Nat} {H : Heap} (h : va_P g.1 ap_cl (st_ws g q1 q2 g1 g2) H) : va_at g.1 ap_cl ((st_K g q1 q2 g1 g2 adK adV).1 46, ap_cell (st_K g q1 q2 g1 g2 adK adV) w0 46 (.inr (.inl (0, 6)))) H := h 49 _ rfl
set_option maxRecDepth 100000 in
set_option maxHeartbeats 4000000 in
theorem st_P47 {g : Gt} {q1 q2 : Nat} {g1 g2 adK adV : Nat → Nat} {H : Heap} (h : va_P g.1 ap_cl (st_ws g q1 q2 g1 g2) H) : va_at g.1 ap_cl ((st_K g q1 q2 g1 g2 adK adV).1 47, ap_cell (st_K g q1 q2 g1 g2 adK adV) w0 47 (.inr (.inl (0, 56)))) H := h 50 _ rfl
set_option maxRecDepth 100000 in
set_option maxHeartbeats 4000000 in
theorem st_P48 {g : Gt} {q1 q2 : Nat} {g1 g2 adK adV : Nat → Nat} {H : Heap} (h : va_P g.1 ap_cl (st_ws g q1 q2 g1 g2) H) : va_at g.1 ap_cl ((st_K g q1 q2 g1 g2 adK adV).1 48, ap_cell (st_K g q1 q2 g1 g2 adK adV) w0 48 (.inr (.inl (0, 8)))) H := h 51 _ rfl
set_option maxRecDepth 100000 in
set_option maxHeartbeats 4000000 in
theorem st_P49 {g : Gt} {q1 q2 : Nat} {g1 g2 adK adV : Nat → Nat} {H : Heap} (h : va_P g.1 ap_cl (st_ws g q1 q2 g1 g2) H) : va_at g.1 ap_cl ((st_K g q1 q2 g1 g2 adK adV).1 49, ap_cell (st_K g q1 q2 g1 g2 adK adV) w0 49 (.inr (.inr (3, [13, 25])))) H := st_row (h 13 _ rfl) (fun j hj => by
    have hj : j < 2 := hj
    rcases (show j = 0 ∨ j = 1 by omega) with rfl | rfl <;> rfl)
set_option maxRecDepth 100000 in
set_option maxHeartbeats 4000000 in
theorem st_P50 {g : Gt} {q1 q2 : Nat} {g1 g2 adK adV : Nat → Nat} {H : Heap} (h : va_P g.1 ap_cl (st_ws g q1 q2 g1 g2) H) : va_at g.1 ap_cl ((st_K g q1 q2 g1 g2 adK adV).1 50, ap_cell (st_K g q1 q2 g1 g2 adK adV) w0 50 (.inr (.inl (1, 2)))) H := h 38 _ rfl
set_option maxRecDepth 100000 in
set_option maxHeartbeats 4000000 in
theorem st_P51 {g : Gt} {q1 q2 : Nat} {g1 g2 adK adV : Nat → Nat} {H : Heap} (h : va_P g.1 ap_cl (st_ws g q1 q2 g1 g2) H) : va_at g.1 ap_cl ((st_K g q1 q2 g1 g2 adK adV).1 51, ap_cell (st_K g q1 q2 g1 g2 adK adV) w0 51 (.inl (5, [some (some 37), none, some (some 52), none, none, none, none]))) H := h 39 _ rfl
set_option maxRecDepth 100000 in
set_option maxHeartbeats 4000000 in
theorem st_P52 {g : Gt} {q1 q2 : Nat} {g1 g2 adK adV : Nat → Nat} {H : Heap} (h : va_P g.1 ap_cl (st_ws g q1 q2 g1 g2) H) : va_at g.1 ap_cl ((st_K g q1 q2 g1 g2 adK adV).1 52, ap_cell (st_K g q1 q2 g1 g2 adK adV) w0 52 (.inr (.inl (2, 150)))) H := h 52 _ rfl
set_option maxRecDepth 100000 in
set_option maxHeartbeats 4000000 in
theorem st_P53 {g : Gt} {q1 q2 : Nat} {g1 g2 adK adV : Nat → Nat} {H : Heap} (h : va_P g.1 ap_cl (st_ws g q1 q2 g1 g2) H) : va_at g.1 ap_cl ((st_K g q1 q2 g1 g2 adK adV).1 53, ap_cell (st_K g q1 q2 g1 g2 adK adV) w0 53 (.inl (3, [some (some 1), some (some 54), some (some 61), some (some 62), some (some 63), some (some 64), some (some 65), some (some 66), some (some 67)]))) H := h 53 _ rfl
set_option maxRecDepth 100000 in
set_option maxHeartbeats 4000000 in
theorem st_P54 {g : Gt} {q1 q2 : Nat} {g1 g2 adK adV : Nat → Nat} {H : Heap} (h : va_P g.1 ap_cl (st_ws g q1 q2 g1 g2) H) : va_at g.1 ap_cl ((st_K g q1 q2 g1 g2 adK adV).1 54, ap_cell (st_K g q1 q2 g1 g2 adK adV) w0 54 (.inr (.inr (4, [55, 56, 57, 58, 59, 60])))) H := st_row (h 54 _ rfl) (fun j hj => by
    have hj : j < 6 := hj
    rcases (show j = 0 ∨ j = 1 ∨ j = 2 ∨ j = 3 ∨ j = 4 ∨ j = 5 by omega) with rfl | rfl | rfl | rfl | rfl | rfl <;> rfl)
set_option maxRecDepth 100000 in
set_option maxHeartbeats 4000000 in
theorem st_P55 {g : Gt} {q1 q2 : Nat} {g1 g2 adK adV : Nat → Nat} {H : Heap} (h : va_P g.1 ap_cl (st_ws g q1 q2 g1 g2) H) : va_at g.1 ap_cl ((st_K g q1 q2 g1 g2 adK adV).1 55, ap_cell (st_K g q1 q2 g1 g2 adK adV) w0 55 (.inl (4, []))) H := h 55 _ rfl
set_option maxRecDepth 100000 in
set_option maxHeartbeats 4000000 in
theorem st_P56 {g : Gt} {q1 q2 : Nat} {g1 g2 adK adV : Nat → Nat} {H : Heap} (h : va_P g.1 ap_cl (st_ws g q1 q2 g1 g2) H) : va_at g.1 ap_cl ((st_K g q1 q2 g1 g2 adK adV).1 56, ap_cell (st_K g q1 q2 g1 g2 adK adV) w0 56 (.inl (10, []))) H := h 56 _ rfl
set_option maxRecDepth 100000 in
set_option maxHeartbeats 4000000 in
theorem st_P57 {g : Gt} {q1 q2 : Nat} {g1 g2 adK adV : Nat → Nat} {H : Heap} (h : va_P g.1 ap_cl (st_ws g q1 q2 g1 g2) H) : va_at g.1 ap_cl ((st_K g q1 q2 g1 g2 adK adV).1 57, ap_cell (st_K g q1 q2 g1 g2 adK adV) w0 57 (.inl (1, []))) H := h 57 _ rfl
set_option maxRecDepth 100000 in
set_option maxHeartbeats 4000000 in
theorem st_P58 {g : Gt} {q1 q2 : Nat} {g1 g2 adK adV : Nat → Nat} {H : Heap} (h : va_P g.1 ap_cl (st_ws g q1 q2 g1 g2) H) : va_at g.1 ap_cl ((st_K g q1 q2 g1 g2 adK adV).1 58, ap_cell (st_K g q1 q2 g1 g2 adK adV) w0 58 (.inl (2, []))) H := h 58 _ rfl
set_option maxRecDepth 100000 in
set_option maxHeartbeats 4000000 in
theorem st_P59 {g : Gt} {q1 q2 : Nat} {g1 g2 adK adV : Nat → Nat} {H : Heap} (h : va_P g.1 ap_cl (st_ws g q1 q2 g1 g2) H) : va_at g.1 ap_cl ((st_K g q1 q2 g1 g2 adK adV).1 59, ap_cell (st_K g q1 q2 g1 g2 adK adV) w0 59 (.inl (0, []))) H := h 59 _ rfl
set_option maxRecDepth 100000 in
set_option maxHeartbeats 4000000 in
theorem st_P60 {g : Gt} {q1 q2 : Nat} {g1 g2 adK adV : Nat → Nat} {H : Heap} (h : va_P g.1 ap_cl (st_ws g q1 q2 g1 g2) H) : va_at g.1 ap_cl ((st_K g q1 q2 g1 g2 adK adV).1 60, ap_cell (st_K g q1 q2 g1 g2 adK adV) w0 60 (.inl (7, []))) H := h 60 _ rfl
set_option maxRecDepth 100000 in
set_option maxHeartbeats 4000000 in
theorem st_P61 {g : Gt} {q1 q2 : Nat} {g1 g2 adK adV : Nat → Nat} {H : Heap} (h : va_P g.1 ap_cl (st_ws g q1 q2 g1 g2) H) : va_at g.1 ap_cl ((st_K g q1 q2 g1 g2 adK adV).1 61, ap_cell (st_K g q1 q2 g1 g2 adK adV) w0 61 (.inr (.inl (0, 448)))) H := h 61 _ rfl
set_option maxRecDepth 100000 in
set_option maxHeartbeats 4000000 in
theorem st_P62 {g : Gt} {q1 q2 : Nat} {g1 g2 adK adV : Nat → Nat} {H : Heap} (h : va_P g.1 ap_cl (st_ws g q1 q2 g1 g2) H) : va_at g.1 ap_cl ((st_K g q1 q2 g1 g2 adK adV).1 62, ap_cell (st_K g q1 q2 g1 g2 adK adV) w0 62 (.inr (.inl (0, 7)))) H := h 62 _ rfl
set_option maxRecDepth 100000 in
set_option maxHeartbeats 4000000 in
theorem st_P63 {g : Gt} {q1 q2 : Nat} {g1 g2 adK adV : Nat → Nat} {H : Heap} (h : va_P g.1 ap_cl (st_ws g q1 q2 g1 g2) H) : va_at g.1 ap_cl ((st_K g q1 q2 g1 g2 adK adV).1 63, ap_cell (st_K g q1 q2 g1 g2 adK adV) w0 63 (.inr (.inl (0, 64)))) H := h 63 _ rfl
set_option maxRecDepth 100000 in
set_option maxHeartbeats 4000000 in
theorem st_P64 {g : Gt} {q1 q2 : Nat} {g1 g2 adK adV : Nat → Nat} {H : Heap} (h : va_P g.1 ap_cl (st_ws g q1 q2 g1 g2) H) : va_at g.1 ap_cl ((st_K g q1 q2 g1 g2 adK adV).1 64, ap_cell (st_K g q1 q2 g1 g2 adK adV) w0 64 (.inr (.inl (0, 64)))) H := h 64 _ rfl
set_option maxRecDepth 100000 in
set_option maxHeartbeats 4000000 in
theorem st_P65 {g : Gt} {q1 q2 : Nat} {g1 g2 adK adV : Nat → Nat} {H : Heap} (h : va_P g.1 ap_cl (st_ws g q1 q2 g1 g2) H) : va_at g.1 ap_cl ((st_K g q1 q2 g1 g2 adK adV).1 65, ap_cell (st_K g q1 q2 g1 g2 adK adV) w0 65 (.inr (.inl (0, 15)))) H := h 65 _ rfl
set_option maxRecDepth 100000 in
set_option maxHeartbeats 4000000 in
theorem st_P66 {g : Gt} {q1 q2 : Nat} {g1 g2 adK adV : Nat → Nat} {H : Heap} (h : va_P g.1 ap_cl (st_ws g q1 q2 g1 g2) H) : va_at g.1 ap_cl ((st_K g q1 q2 g1 g2 adK adV).1 66, ap_cell (st_K g q1 q2 g1 g2 adK adV) w0 66 (.inr (.inl (0, 4)))) H := h 66 _ rfl
set_option maxRecDepth 100000 in
set_option maxHeartbeats 4000000 in
theorem st_P67 {g : Gt} {q1 q2 : Nat} {g1 g2 adK adV : Nat → Nat} {H : Heap} (h : va_P g.1 ap_cl (st_ws g q1 q2 g1 g2) H) : va_at g.1 ap_cl ((st_K g q1 q2 g1 g2 adK adV).1 67, ap_cell (st_K g q1 q2 g1 g2 adK adV) w0 67 (.inr (.inl (0, 4)))) H := h 67 _ rfl
set_option maxRecDepth 100000 in
set_option maxHeartbeats 4000000 in
theorem st_P68 {g : Gt} {q1 q2 : Nat} {g1 g2 adK adV : Nat → Nat} {H : Heap} (h : va_P g.1 ap_cl (st_ws g q1 q2 g1 g2) H) : va_at g.1 ap_cl ((st_K g q1 q2 g1 g2 adK adV).1 68, ap_cell (st_K g q1 q2 g1 g2 adK adV) w0 68 (.inl (6, [some (some 1), some (some 53), some (some 69), some (some 70), none, some (some 71), some (some 72)]))) H := h 68 _ rfl
set_option maxRecDepth 100000 in
set_option maxHeartbeats 4000000 in
theorem st_P69 {g : Gt} {q1 q2 : Nat} {g1 g2 adK adV : Nat → Nat} {H : Heap} (h : va_P g.1 ap_cl (st_ws g q1 q2 g1 g2) H) : va_at g.1 ap_cl ((st_K g q1 q2 g1 g2 adK adV).1 69, ap_cell (st_K g q1 q2 g1 g2 adK adV) w0 69 (.inr (.inl (0, 6)))) H := h 69 _ rfl
set_option maxRecDepth 100000 in
set_option maxHeartbeats 4000000 in
theorem st_P70 {g : Gt} {q1 q2 : Nat} {g1 g2 adK adV : Nat → Nat} {H : Heap} (h : va_P g.1 ap_cl (st_ws g q1 q2 g1 g2) H) : va_at g.1 ap_cl ((st_K g q1 q2 g1 g2 adK adV).1 70, ap_cell (st_K g q1 q2 g1 g2 adK adV) w0 70 (.inr (.inl (1, 128)))) H := h 70 _ rfl
set_option maxRecDepth 100000 in
set_option maxHeartbeats 4000000 in
theorem st_P71 {g : Gt} {q1 q2 : Nat} {g1 g2 adK adV : Nat → Nat} {H : Heap} (h : va_P g.1 ap_cl (st_ws g q1 q2 g1 g2) H) : va_at g.1 ap_cl ((st_K g q1 q2 g1 g2 adK adV).1 71, ap_cell (st_K g q1 q2 g1 g2 adK adV) w0 71 (.inr (.inl (0, 128)))) H := h 71 _ rfl
set_option maxRecDepth 100000 in
set_option maxHeartbeats 4000000 in
theorem st_P72 {g : Gt} {q1 q2 : Nat} {g1 g2 adK adV : Nat → Nat} {H : Heap} (h : va_P g.1 ap_cl (st_ws g q1 q2 g1 g2) H) : va_at g.1 ap_cl ((st_K g q1 q2 g1 g2 adK adV).1 72, ap_cell (st_K g q1 q2 g1 g2 adK adV) w0 72 (.inr (.inl (0, 24)))) H := h 72 _ rfl
set_option maxRecDepth 100000 in
set_option maxHeartbeats 4000000 in
theorem st_P73 {g : Gt} {q1 q2 : Nat} {g1 g2 adK adV : Nat → Nat} {H : Heap} (h : va_P g.1 ap_cl (st_ws g q1 q2 g1 g2) H) : va_at g.1 ap_cl ((st_K g q1 q2 g1 g2 adK adV).1 73, ap_cell (st_K g q1 q2 g1 g2 adK adV) w0 73 (.inl (9, [some (some 1), some (some 53), some (some 74), some (some 75), some (some 76)]))) H := h 73 _ rfl
set_option maxRecDepth 100000 in
set_option maxHeartbeats 4000000 in
theorem st_P74 {g : Gt} {q1 q2 : Nat} {g1 g2 adK adV : Nat → Nat} {H : Heap} (h : va_P g.1 ap_cl (st_ws g q1 q2 g1 g2) H) : va_at g.1 ap_cl ((st_K g q1 q2 g1 g2 adK adV).1 74, ap_cell (st_K g q1 q2 g1 g2 adK adV) w0 74 (.inr (.inl (0, 64)))) H := h 74 _ rfl
set_option maxRecDepth 100000 in
set_option maxHeartbeats 4000000 in
theorem st_P75 {g : Gt} {q1 q2 : Nat} {g1 g2 adK adV : Nat → Nat} {H : Heap} (h : va_P g.1 ap_cl (st_ws g q1 q2 g1 g2) H) : va_at g.1 ap_cl ((st_K g q1 q2 g1 g2 adK adV).1 75, ap_cell (st_K g q1 q2 g1 g2 adK adV) w0 75 (.inr (.inl (1, 64)))) H := h 75 _ rfl
set_option maxRecDepth 100000 in
set_option maxHeartbeats 4000000 in
theorem st_P76 {g : Gt} {q1 q2 : Nat} {g1 g2 adK adV : Nat → Nat} {H : Heap} (h : va_P g.1 ap_cl (st_ws g q1 q2 g1 g2) H) : va_at g.1 ap_cl ((st_K g q1 q2 g1 g2 adK adV).1 76, ap_cell (st_K g q1 q2 g1 g2 adK adV) w0 76 (.inr (.inl (0, 64)))) H := h 76 _ rfl
set_option maxRecDepth 100000 in
set_option maxHeartbeats 4000000 in
theorem st_P77 {g : Gt} {q1 q2 : Nat} {g1 g2 adK adV : Nat → Nat} {H : Heap} (h : va_P g.1 ap_cl (st_ws g q1 q2 g1 g2) H) : va_at g.1 ap_cl ((st_K g q1 q2 g1 g2 adK adV).1 77, ap_cell (st_K g q1 q2 g1 g2 adK adV) w0 77 (.inl (12, [some (some 78), some (some 79), some (some 80), some (some 81), some none, some none, none, some (some 82), some (some 83), some (some 84), some (some 85), some (some 86), some (some 87), some (some 88), none, some (some 89), none, none, none, none, none, some (some 90), some (some 91)]))) H := by
  have e : ap_cell (st_K g q1 q2 g1 g2 adK adV) w0 77 (.inl (12, [some (some 78), some (some 79), some (some 80), some (some 81), some none, some none, none, some (some 82), some (some 83), some (some 84), some (some 85), some (some 86), some (some 87), some (some 88), none, some (some 89), none, none, none, none, none, some (some 90), some (some 91)])) = .inr (12, [.ref (g2 0), .ref (g2 1), .ref (g2 2), .ref (g2 3), .long 0, .long 1, .int 0, .ref (g2 4), .ref (g2 5), .ref (g2 6), .ref (g2 7), .ref (g2 8), .ref (g2 9), .ref (g2 10), .int 0, .ref (g2 11), .int 0, .int 0, .int 0, .int 0, .int 0, .ref (g2 12), .ref (g2 13)]) := by
    simp only [ap_cell, List.mapIdx_cons, List.mapIdx_nil, ap_fv]
    rfl
  rw [e]
  exact h 77 _ rfl
set_option maxRecDepth 100000 in
set_option maxHeartbeats 4000000 in
theorem st_P78 {g : Gt} {q1 q2 : Nat} {g1 g2 adK adV : Nat → Nat} {H : Heap} (h : va_P g.1 ap_cl (st_ws g q1 q2 g1 g2) H) : va_at g.1 ap_cl ((st_K g q1 q2 g1 g2 adK adV).1 78, ap_cell (st_K g q1 q2 g1 g2 adK adV) w0 78 (.inr (.inl (0, 129)))) H := h 78 _ rfl
set_option maxRecDepth 100000 in
set_option maxHeartbeats 4000000 in
theorem st_P79 {g : Gt} {q1 q2 : Nat} {g1 g2 adK adV : Nat → Nat} {H : Heap} (h : va_P g.1 ap_cl (st_ws g q1 q2 g1 g2) H) : va_at g.1 ap_cl ((st_K g q1 q2 g1 g2 adK adV).1 79, ap_cell (st_K g q1 q2 g1 g2 adK adV) w0 79 (.inr (.inl (0, 258)))) H := h 79 _ rfl
set_option maxRecDepth 100000 in
set_option maxHeartbeats 4000000 in
theorem st_P80 {g : Gt} {q1 q2 : Nat} {g1 g2 adK adV : Nat → Nat} {H : Heap} (h : va_P g.1 ap_cl (st_ws g q1 q2 g1 g2) H) : va_at g.1 ap_cl ((st_K g q1 q2 g1 g2 adK adV).1 80, ap_cell (st_K g q1 q2 g1 g2 adK adV) w0 80 (.inr (.inl (1, 2)))) H := h 80 _ rfl
set_option maxRecDepth 100000 in
set_option maxHeartbeats 4000000 in
theorem st_P81 {g : Gt} {q1 q2 : Nat} {g1 g2 adK adV : Nat → Nat} {H : Heap} (h : va_P g.1 ap_cl (st_ws g q1 q2 g1 g2) H) : va_at g.1 ap_cl ((st_K g q1 q2 g1 g2 adK adV).1 81, ap_cell (st_K g q1 q2 g1 g2 adK adV) w0 81 (.inr (.inl (0, 3)))) H := h 81 _ rfl
set_option maxRecDepth 100000 in
set_option maxHeartbeats 4000000 in
theorem st_P82 {g : Gt} {q1 q2 : Nat} {g1 g2 adK adV : Nat → Nat} {H : Heap} (h : va_P g.1 ap_cl (st_ws g q1 q2 g1 g2) H) : va_at g.1 ap_cl ((st_K g q1 q2 g1 g2 adK adV).1 82, ap_cell (st_K g q1 q2 g1 g2 adK adV) w0 82 (.inr (.inl (0, 7)))) H := h 82 _ rfl
set_option maxRecDepth 100000 in
set_option maxHeartbeats 4000000 in
theorem st_P83 {g : Gt} {q1 q2 : Nat} {g1 g2 adK adV : Nat → Nat} {H : Heap} (h : va_P g.1 ap_cl (st_ws g q1 q2 g1 g2) H) : va_at g.1 ap_cl ((st_K g q1 q2 g1 g2 adK adV).1 83, ap_cell (st_K g q1 q2 g1 g2 adK adV) w0 83 (.inr (.inl (0, 7)))) H := h 83 _ rfl
set_option maxRecDepth 100000 in
set_option maxHeartbeats 4000000 in
theorem st_P84 {g : Gt} {q1 q2 : Nat} {g1 g2 adK adV : Nat → Nat} {H : Heap} (h : va_P g.1 ap_cl (st_ws g q1 q2 g1 g2) H) : va_at g.1 ap_cl ((st_K g q1 q2 g1 g2 adK adV).1 84, ap_cell (st_K g q1 q2 g1 g2 adK adV) w0 84 (.inr (.inl (0, 64)))) H := h 84 _ rfl
set_option maxRecDepth 100000 in
set_option maxHeartbeats 4000000 in
theorem st_P85 {g : Gt} {q1 q2 : Nat} {g1 g2 adK adV : Nat → Nat} {H : Heap} (h : va_P g.1 ap_cl (st_ws g q1 q2 g1 g2) H) : va_at g.1 ap_cl ((st_K g q1 q2 g1 g2 adK adV).1 85, ap_cell (st_K g q1 q2 g1 g2 adK adV) w0 85 (.inr (.inl (0, 4)))) H := h 85 _ rfl
set_option maxRecDepth 100000 in
set_option maxHeartbeats 4000000 in
theorem st_P86 {g : Gt} {q1 q2 : Nat} {g1 g2 adK adV : Nat → Nat} {H : Heap} (h : va_P g.1 ap_cl (st_ws g q1 q2 g1 g2) H) : va_at g.1 ap_cl ((st_K g q1 q2 g1 g2 adK adV).1 86, ap_cell (st_K g q1 q2 g1 g2 adK adV) w0 86 (.inr (.inl (0, 4)))) H := h 86 _ rfl
set_option maxRecDepth 100000 in
set_option maxHeartbeats 4000000 in
theorem st_P87 {g : Gt} {q1 q2 : Nat} {g1 g2 adK adV : Nat → Nat} {H : Heap} (h : va_P g.1 ap_cl (st_ws g q1 q2 g1 g2) H) : va_at g.1 ap_cl ((st_K g q1 q2 g1 g2 adK adV).1 87, ap_cell (st_K g q1 q2 g1 g2 adK adV) w0 87 (.inr (.inl (1, 128)))) H := h 87 _ rfl
set_option maxRecDepth 100000 in
set_option maxHeartbeats 4000000 in
theorem st_P88 {g : Gt} {q1 q2 : Nat} {g1 g2 adK adV : Nat → Nat} {H : Heap} (h : va_P g.1 ap_cl (st_ws g q1 q2 g1 g2) H) : va_at g.1 ap_cl ((st_K g q1 q2 g1 g2 adK adV).1 88, ap_cell (st_K g q1 q2 g1 g2 adK adV) w0 88 (.inr (.inl (0, 24)))) H := h 88 _ rfl
set_option maxRecDepth 100000 in
set_option maxHeartbeats 4000000 in
theorem st_P89 {g : Gt} {q1 q2 : Nat} {g1 g2 adK adV : Nat → Nat} {H : Heap} (h : va_P g.1 ap_cl (st_ws g q1 q2 g1 g2) H) : va_at g.1 ap_cl ((st_K g q1 q2 g1 g2 adK adV).1 89, ap_cell (st_K g q1 q2 g1 g2 adK adV) w0 89 (.inr (.inl (0, 150)))) H := h 89 _ rfl
set_option maxRecDepth 100000 in
set_option maxHeartbeats 4000000 in
theorem st_P90 {g : Gt} {q1 q2 : Nat} {g1 g2 adK adV : Nat → Nat} {H : Heap} (h : va_P g.1 ap_cl (st_ws g q1 q2 g1 g2) H) : va_at g.1 ap_cl ((st_K g q1 q2 g1 g2 adK adV).1 90, ap_cell (st_K g q1 q2 g1 g2 adK adV) w0 90 (.inr (.inl (0, 65)))) H := h 90 _ rfl
set_option maxRecDepth 100000 in
set_option maxHeartbeats 4000000 in
theorem st_P91 {g : Gt} {q1 q2 : Nat} {g1 g2 adK adV : Nat → Nat} {H : Heap} (h : va_P g.1 ap_cl (st_ws g q1 q2 g1 g2) H) : va_at g.1 ap_cl ((st_K g q1 q2 g1 g2 adK adV).1 91, ap_cell (st_K g q1 q2 g1 g2 adK adV) w0 91 (.inr (.inl (0, 5)))) H := h 91 _ rfl
set_option maxRecDepth 100000 in
set_option maxHeartbeats 4000000 in
theorem st_P {g : Gt} {q1 q2 : Nat} {g1 g2 adK adV : Nat → Nat} {H : Heap} (h : va_P g.1 ap_cl (st_ws g q1 q2 g1 g2) H) : va_P g.1 ap_cl (ap_w (st_K g q1 q2 g1 g2 adK adV) w0) H := by
  intro k q hq
  have hk := (ap_w_of hq).1
  exact (show ∀ k, k < 92 → ∀ q, (ap_w (st_K g q1 q2 g1 g2 adK adV) w0)[k]? = some q → va_at g.1 ap_cl q H from (lt_s (lt_s (lt_s (lt_s (lt_s (lt_s (lt_s (lt_s (lt_s (lt_s (lt_s (lt_s (lt_s (lt_s (lt_s (lt_s (lt_s (lt_s (lt_s (lt_s (lt_s (lt_s (lt_s (lt_s (lt_s (lt_s (lt_s (lt_s (lt_s (lt_s (lt_s (lt_s (lt_s (lt_s (lt_s (lt_s (lt_s (lt_s (lt_s (lt_s (lt_s (lt_s (lt_s (lt_s (lt_s (lt_s (lt_s (lt_s (lt_s (lt_s (lt_s (lt_s (lt_s (lt_s (lt_s (lt_s (lt_s (lt_s (lt_s (lt_s (lt_s (lt_s (lt_s (lt_s (lt_s (lt_s (lt_s (lt_s (lt_s (lt_s (lt_s (lt_s (lt_s (lt_s (lt_s (lt_s (lt_s (lt_s (lt_s (lt_s (lt_s (lt_s (lt_s (lt_s (lt_s (lt_s (lt_s (lt_s (lt_s (lt_s (lt_s (lt_s lt_0 (fun q hq => st_fin hq ly_0 (st_P0 h))) (fun q hq => st_fin hq ly_1 (st_P1 h))) (fun q hq => st_fin hq ly_2 (st_P2 h))) (fun q hq => st_fin hq ly_3 (st_P3 h))) (fun q hq => st_fin hq ly_4 (st_P4 h))) (fun q hq => st_fin hq ly_5 (st_P5 h))) (fun q hq => st_fin hq ly_6 (st_P6 h))) (fun q hq => st_fin hq ly_7 (st_P7 h))) (fun q hq => st_fin hq ly_8 (st_P8 h))) (fun q hq => st_fin hq ly_9 (st_P9 h))) (fun q hq => st_fin hq ly_10 (st_P10 h))) (fun q hq => st_fin hq ly_11 (st_P11 h))) (fun q hq => st_fin hq ly_12 (st_P12 h))) (fun q hq => st_fin hq ly_13 (st_P13 h))) (fun q hq => st_fin hq ly_14 (st_P14 h))) (fun q hq => st_fin hq ly_15 (st_P15 h))) (fun q hq => st_fin hq ly_16 (st_P16 h))) (fun q hq => st_fin hq ly_17 (st_P17 h))) (fun q hq => st_fin hq ly_18 (st_P18 h))) (fun q hq => st_fin hq ly_19 (st_P19 h))) (fun q hq => st_fin hq ly_20 (st_P20 h))) (fun q hq => st_fin hq ly_21 (st_P21 h))) (fun q hq => st_fin hq ly_22 (st_P22 h))) (fun q hq => st_fin hq ly_23 (st_P23 h))) (fun q hq => st_fin hq ly_24 (st_P24 h))) (fun q hq => st_fin hq ly_25 (st_P25 h))) (fun q hq => st_fin hq ly_26 (st_P26 h))) (fun q hq => st_fin hq ly_27 (st_P27 h))) (fun q hq => st_fin hq ly_28 (st_P28 h))) (fun q hq => st_fin hq ly_29 (st_P29 h))) (fun q hq => st_fin hq ly_30 (st_P30 h))) (fun q hq => st_fin hq ly_31 (st_P31 h))) (fun q hq => st_fin hq ly_32 (st_P32 h))) (fun q hq => st_fin hq ly_33 (st_P33 h))) (fun q hq => st_fin hq ly_34 (st_P34 h))) (fun q hq => st_fin hq ly_35 (st_P35 h))) (fun q hq => st_fin hq ly_36 (st_P36 h))) (fun q hq => st_fin hq ly_37 (st_P37 h))) (fun q hq => st_fin hq ly_38 (st_P38 h))) (fun q hq => st_fin hq ly_39 (st_P39 h))) (fun q hq => st_fin hq ly_40 (st_P40 h))) (fun q hq => st_fin hq ly_41 (st_P41 h))) (fun q hq => st_fin hq ly_42 (st_P42 h))) (fun q hq => st_fin hq ly_43 (st_P43 h))) (fun q hq => st_fin hq ly_44 (st_P44 h))) (fun q hq => st_fin hq ly_45 (st_P45 h))) (fun q hq => st_fin hq ly_46 (st_P46 h))) (fun q hq => st_fin hq ly_47 (st_P47 h))) (fun q hq => st_fin hq ly_48 (st_P48 h))) (fun q hq => st_fin hq ly_49 (st_P49 h))) (fun q hq => st_fin hq ly_50 (st_P50 h))) (fun q hq => st_fin hq ly_51 (st_P51 h))) (fun q hq => st_fin hq ly_52 (st_P52 h))) (fun q hq => st_fin hq ly_53 (st_P53 h))) (fun q hq => st_fin hq ly_54 (st_P54 h))) (fun q hq => st_fin hq ly_55 (st_P55 h))) (fun q hq => st_fin hq ly_56 (st_P56 h))) (fun q hq => st_fin hq ly_57 (st_P57 h))) (fun q hq => st_fin hq ly_58 (st_P58 h))) (fun q hq => st_fin hq ly_59 (st_P59 h))) (fun q hq => st_fin hq ly_60 (st_P60 h))) (fun q hq => st_fin hq ly_61 (st_P61 h))) (fun q hq => st_fin hq ly_62 (st_P62 h))) (fun q hq => st_fin hq ly_63 (st_P63 h))) (fun q hq => st_fin hq ly_64 (st_P64 h))) (fun q hq => st_fin hq ly_65 (st_P65 h))) (fun q hq => st_fin hq ly_66 (st_P66 h))) (fun q hq => st_fin hq ly_67 (st_P67 h))) (fun q hq => st_fin hq ly_68 (st_P68 h))) (fun q hq => st_fin hq ly_69 (st_P69 h))) (fun q hq => st_fin hq ly_70 (st_P70 h))) (fun q hq => st_fin hq ly_71 (st_P71 h))) (fun q hq => st_fin hq ly_72 (st_P72 h))) (fun q hq => st_fin hq ly_73 (st_P73 h))) (fun q hq => st_fin hq ly_74 (st_P74 h))) (fun q hq => st_fin hq ly_75 (st_P75 h))) (fun q hq => st_fin hq ly_76 (st_P76 h))) (fun q hq => st_fin hq ly_77 (st_P77 h))) (fun q hq => st_fin hq ly_78 (st_P78 h))) (fun q hq => st_fin hq ly_79 (st_P79 h))) (fun q hq => st_fin hq ly_80 (st_P80 h))) (fun q hq => st_fin hq ly_81 (st_P81 h))) (fun q hq => st_fin hq ly_82 (st_P82 h))) (fun q hq => st_fin hq ly_83 (st_P83 h))) (fun q hq => st_fin hq ly_84 (st_P84 h))) (fun q hq => st_fin hq ly_85 (st_P85 h))) (fun q hq => st_fin hq ly_86 (st_P86 h))) (fun q hq => st_fin hq ly_87 (st_P87 h))) (fun q hq => st_fin hq ly_88 (st_P88 h))) (fun q hq => st_fin hq ly_89 (st_P89 h))) (fun q hq => st_fin hq ly_90 (st_P90 h))) (fun q hq => st_fin hq ly_91 (st_P91 h)))) k hk q hq

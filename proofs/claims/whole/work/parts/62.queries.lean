/-! ===== light in cells ===== -/
theorem INV.q {w w1 w2 : Mm} {S : GS} {L L2 : List Nat} (s1 : SOK S) (s2 : CI w S) (s3 : MI w S) (f1 : Fr L w w1) (hL : isScr L = true) (f2 : Fr (77 :: L2) w1 w2) (hL2 : isScr L2 = true) (h77 : w2.1 77 16 = w1.1 77 16) : INV w2 :=
  ⟨S, s1, (s2.scr f1 hL).hand f2 hL2, (s3.scr f1 hL).hand f2 hL2 h77⟩
theorem li31 {d : VD} (hv : VOK d) : li d < 2 ^ 7 := Nat.lt_of_lt_of_le hv.2.2.1 (Nat.pow_le_pow_right (by decide) hv.2.1)
theorem MI.np {w w1 : Mm} {S : GS} {L : List Nat} (s3 : MI w S) (f1 : Fr L w w1) (hL : isScr L = true) : NP w1 (vd (gV S)) := (s3.scr f1 hL).1.np
theorem op_shines {N : Nat} (hN : 1000 ≤ N) {w : Mm} (h : INV w) (x y z : Int32) : OKi (fX11_shines w x y z) (fun w => fX12_shines N w x y z) := by
  unfold fX11_shines fX12_shines fX11_isCell fX12_isCell fX11_isHour fX12_isHour fX11_shines_L25 fX12_shines_L22 fX8_litAt
  obtain ⟨S, s1, s2, s3⟩ := id h
  have hv : VOK (vd (gV S)) := s1.1.1
  have hn := hv.2.1
  have m1 : w.1 78 0 = nI (nn (vd (gV S))) := s3.1.1.1
  rcases rg_c hn s2.1.1.2.1 m1 x with ⟨h1, h2⟩ | ⟨k, hk, rfl, h1, h2⟩
  · rw [if_pos h1]; exact ok_bad' (-2) h (fun w' hw' => by rw [if_pos (h2 w' (by rw [hw' 78 (by decide)]; exact m1))])
  rw [if_neg h1]
  rcases rg_0_63 y with ⟨h3, h4⟩ | ⟨c, -, hc, rfl, h3, h4⟩
  · rw [if_pos h3]; exact ok_bad' (-2) h (fun w' hw' => by rw [if_neg (h2 w' (by rw [hw' 78 (by decide)]; exact m1)), if_pos h4])
  rw [if_neg h3]
  rcases rg_0_11 z with ⟨h5, h6⟩ | ⟨t, -, ht, rfl, h5, h6⟩
  · rw [if_pos h5]; exact ok_bad' (-2) h (fun w' hw' => by rw [if_neg (h2 w' (by rw [hw' 78 (by decide)]; exact m1)), if_neg h4, if_pos h6])
  rw [if_neg h5]
  have hS := li31 hv
  obtain ⟨w2, g1, g2, g3, g4⟩ := layHand_ok (N := N) (by omega) hv (s3.np (Fr.rf (L := [])) rfl)
  refine ⟨nI (lv_ (li (vd (gV S))) (fun k => sL (vd (gV S)) t k c) k), w, w2, ?_, ?_, INV.q s1 s2 s3 (Fr.rf (L := [])) rfl g2 (by decide) (g4 16 (by decide))⟩
  · have e0 : w.1 1 2 = nI (li (vd (gV S))) := s2.1.1.2.2.1
    unfold lv_
    rw [e0]
    by_cases hb : bt (li (vd (gV S))) k = true
    · rw [if_pos ((nI_bit1 (by omega) (by omega)).mpr hb), farFrom_n s2.1.lp hv hk (by omega), bS, ifLit_n s2.1.lp hv hk (sFar_le (hv.2.2.2 k hk).2.1 (by omega)) (by omega), bS, if_pos hb]
      rfl
    · rw [if_neg (fun z => hb ((nI_bit1 (by omega) (by omega)).mp z)), if_neg hb]
      rfl
  · dsimp only
    rw [if_neg (h2 w m1), if_neg h4, if_neg h6, g1, bS, mlightOf_n g3 hv (by omega) hk (by omega) (by omega), bS]
theorem layCell_n {N : Nat} {d : VD} (hv : VOK d) {c hour : Nat} (hc : c < 64) (hh : hour < 12) : ∀ (r n0 i : Nat) (w : Mm), i + r = nn d → r < n0 → LPc w d → (∀ k, k < i → w.1 61 (c * 7 + k) = nI (sL d hour k c)) → ∃ w', fX3_layCell_L2 N n0 w (nI c) (nI hour) (nI i) = some w' ∧ Fr [61] w w' ∧ SPc w' d hour c := by
  intro r
  induction r with
  | zero =>
    intro n0 i w hi hr h hj
    obtain ⟨n1, rfl⟩ : ∃ n1, n0 = n1 + 1 := ⟨n0 - 1, by omega⟩
    have hn := hv.2.1
    refine ⟨w, ?_, Fr.rf, fun k hk => hj k (by omega)⟩
    rw [fX3_layCell_L2, h.2.1, if_pos (nI_le (by omega) (by omega))]
  | succ r ih =>
    intro n0 i w hi hr h hj
    obtain ⟨n1, rfl⟩ : ∃ n1, n0 = n1 + 1 := ⟨n0 - 1, by omega⟩
    have hn := hv.2.1
    have e0 : nI c * 7 + nI i = nI (c * 7 + i) := by
      rw [show (7 : Int32) = nI 7 from rfl, pk_mul, nI_add]
    obtain ⟨w', e1, e2, e3⟩ := ih n1 (i + 1) (sI w 61 (c * 7 + i) (nI (sL d hour i c))) (by omega) (by omega) (h.fr (Fr.sI (L := [61]) (by decide)) (by decide)) (fun k hk => by
      rw [sI_1]
      by_cases e : k = i
      · rw [if_pos ⟨rfl, by omega⟩, e]
      · rw [if_neg (by omega)]; exact hj k (by omega))
    refine ⟨w', ?_, (Fr.sI (by decide)).then e2, e3⟩
    rw [fX3_layCell_L2, h.2.1, if_neg (nI_ge (by omega) (by omega)), farFrom_n h hv (by omega) hc, bS, ifLit_n h hv (by omega) (sFar_le (hv.2.2.2 i (by omega)).2.1 hc) hh, bS, e0, wrA_n (by omega) (by decide), bS, nI_1]
    exact e1
theorem op_cell {N : Nat} (hN : 1000 ≤ N) {w : Mm} (h : INV w) (x y z : Int32) : OKi (fX11_cell N w x y z) (fun w => fX12_cell N w x y z) := by
  unfold fX11_cell fX12_cell fX11_isCell fX12_isCell fX11_isHour fX12_isHour fX11_cell_L23 fX12_cell_L26
  rcases rg_0_63 x with ⟨h3, h4⟩ | ⟨c, -, hc, rfl, h3, h4⟩
  · rw [if_pos h3]; exact ok_bad' (-10) h (fun w' hw' => by rw [if_pos h4])
  rw [if_neg h3]
  rcases rg_0_11 y with ⟨h5, h6⟩ | ⟨t, -, ht, rfl, h5, h6⟩
  · rw [if_pos h5]; exact ok_bad' (-10) h (fun w' hw' => by rw [if_neg h4, if_pos h6])
  rw [if_neg h5]
  rcases rg_0_2 z with ⟨h7, h8⟩ | ⟨j, -, hj, rfl, h7, h8⟩
  · rw [if_pos h7]; exact ok_bad' (-10) h (fun w' hw' => by rw [if_neg h4, if_neg h6, if_pos h8])
  rw [if_neg h7]
  obtain ⟨S, s1, s2, s3⟩ := h
  have hv : VOK (vd (gV S)) := s1.1.1
  have hn := hv.2.1
  have hS := li31 hv
  obtain ⟨w1, e1, e2, e3⟩ := layCell_n (N := N) hv (c := c) (hour := t) (by omega) (by omega) _ N 0 w (Nat.zero_add _) (by omega) s2.1.lp (fun k hk => absurd hk (by omega))
  have l1 : LPc w1 (vd (gV S)) := s2.1.lp.fr e2 (by decide)
  obtain ⟨w2, g1, g2, g3, g4⟩ := layHand_ok (N := N) (by omega) hv (s3.np e2 (by decide))
  have hi := INV.q s1 s2 s3 e2 (by decide) g2 (by decide) (g4 16 (by decide))
  have ec : fX3_layCell N w (nI c) (nI t) = some w1 := e1
  have ew := mwhose_ok (N := N) (by omega) g3 hv (by omega) (c := c) (hour := t) (by omega) (by omega)
  have el := mlightIn_ok (N := N) (by omega) g3 hv (by omega) (c := c) (hour := t) (by omega) (by omega)
  have eh := holder_ok (N := N) (a := 5) (S := li (vd (gV S))) (o := ow (vd (gV S))) (by omega) l1 hv e3 (by omega) (by omega) (fun k hk => ⟨(l1.2.2.2 k hk).2.2.2.1, (hv.2.2.2 k hk).2.2.2.2.1⟩)
  rw [ec, bS, l1.2.2.1]
  rcases (show j = 0 ∨ j = 1 ∨ j = 2 by omega) with rfl | rfl | rfl
  · rw [if_pos (show nI 0 = 0 from rfl), strongest_ok (by omega) l1 hv e3 (by omega) (by omega), bS]
    refine ⟨_, w1, w2, rfl, ?_, hi⟩
    dsimp only
    rw [if_neg h4, if_neg h6, if_neg h8, g1, bS, ew, bS, if_pos (show nI 0 = 0 from rfl), el, bS]
    rfl
  · rw [if_neg (show ¬ nI 1 = 0 by decide), eh, bS, if_pos (show nI 1 = 1 from rfl)]
    by_cases h2 : sW (vd (gV S)) (ow (vd (gV S))) (li (vd (gV S))) t c = -2
    · rw [if_pos h2]
      refine ⟨_, w1, w2, rfl, ?_, hi⟩
      dsimp only
      rw [if_neg h4, if_neg h6, if_neg h8, g1, bS, ew, bS, if_neg (show ¬ nI 1 = 0 by decide), if_pos (show nI 1 = 1 from rfl), if_pos h2]
    · rw [if_neg h2]
      refine ⟨_, w1, w2, rfl, ?_, hi⟩
      dsimp only
      rw [if_neg h4, if_neg h6, if_neg h8, g1, bS, ew, bS, if_neg (show ¬ nI 1 = 0 by decide), if_pos (show nI 1 = 1 from rfl), if_neg h2]
  · rw [if_neg (show ¬ nI 2 = 0 by decide), eh, bS, if_neg (show ¬ nI 2 = 1 by decide)]
    by_cases h2 : sW (vd (gV S)) (ow (vd (gV S))) (li (vd (gV S))) t c = -2
    · rw [if_pos h2]
      refine ⟨_, w1, w2, rfl, ?_, hi⟩
      dsimp only
      rw [if_neg h4, if_neg h6, if_neg h8, g1, bS, ew, bS, if_neg (show ¬ nI 2 = 0 by decide), if_neg (show ¬ nI 2 = 1 by decide), if_pos h2]
    · rw [if_neg h2]
      refine ⟨_, w1, w2, rfl, ?_, hi⟩
      dsimp only
      rw [if_neg h4, if_neg h6, if_neg h8, g1, bS, ew, bS, if_neg (show ¬ nI 2 = 0 by decide), if_neg (show ¬ nI 2 = 1 by decide), if_neg h2]
/-! the cells of one owner, in their order -/
def sLs (p : Nat → Bool) (x : Int32) : Nat → Int32
  | 0 => -5
  | c + 1 => if p c = true ∧ nI (sCt p c) = x then nI c else sLs p x c
def sPk (p : Nat → Bool) (x : Int32) : Int32 := if x = -1 then nI (sCt p 64) else sLs p x 64
theorem sCt_mono {p : Nat → Bool} {i : Nat} : ∀ {m : Nat}, i ≤ m → sCt p i ≤ sCt p m := by
  intro m
  induction m with
  | zero => intro h; rw [show i = 0 by omega]; exact Nat.le_refl _
  | succ m ih =>
    intro h
    by_cases e : i = m + 1
    · rw [e]; exact Nat.le_refl _
    · have := ih (by omega)
      rw [show sCt p (m + 1) = if p m = true then sCt p m + 1 else sCt p m from rfl]
      split <;> omega
theorem sCt_lt {p : Nat → Bool} {i m : Nat} (h : i < m) (hp : p i = true) : sCt p i < sCt p m := by
  have h1 : sCt p (i + 1) = sCt p i + 1 := by rw [show sCt p (i + 1) = if p i = true then sCt p i + 1 else sCt p i from rfl, if_pos hp]
  have := sCt_mono (p := p) (show i + 1 ≤ m by omega)
  omega
theorem sLs_no {p : Nat → Bool} {x : Int32} : ∀ {m : Nat}, (∀ c, c < m → ¬ (p c = true ∧ nI (sCt p c) = x)) → sLs p x m = -5 := by
  intro m
  induction m with
  | zero => intro _; rfl
  | succ m ih =>
    intro h
    rw [show sLs p x (m + 1) = if p m = true ∧ nI (sCt p m) = x then nI m else sLs p x m from rfl, if_neg (h m (by omega))]
    exact ih (fun c hc => h c (by omega))
theorem sLs_at {p : Nat → Bool} {x : Int32} {i : Nat} (hp : p i = true) (hx : nI (sCt p i) = x) : ∀ {m : Nat}, i < m → m ≤ 64 → sLs p x m = nI i := by
  intro m
  induction m with
  | zero => intro h; omega
  | succ m ih =>
    intro h h64
    rw [show sLs p x (m + 1) = if p m = true ∧ nI (sCt p m) = x then nI m else sLs p x m from rfl]
    by_cases e : m = i
    · rw [e, if_pos ⟨hp, hx⟩]
    · rw [if_neg]
      · exact ih (by omega) (by omega)
      · rintro ⟨_, h2⟩
        rw [← hx] at h2
        have h3 := sCt_lt (p := p) (show i < m by omega) hp
        have h4 := sCt_le p m
        have := (nI_eq (a := sCt p m) (b := sCt p i) (by omega) (by omega)).mp h2
        omega
theorem pick_n {N : Nat} (hN : 100 ≤ N) {w : Mm} {d : VD} {hour : Nat} {x y : Int32} (h : LPc w d) (hv : VOK d) (hs : SP w d hour) : ∀ (r n0 i : Nat), i + r = 64 → r < n0 → (∀ c, c < i → ¬ (decide (sW d (ow d) (li d) hour c = x) = true ∧ nI (sCt (fun c => decide (sW d (ow d) (li d) hour c = x)) c) = y)) → fX3_pick_L5 N w n0 x y (nI (sCt (fun c => decide (sW d (ow d) (li d) hour c = x)) i)) (nI i) = some (sPk (fun c => decide (sW d (ow d) (li d) hour c = x)) y) := by
  intro r
  induction r with
  | zero =>
    intro n0 i hi hr hb
    obtain ⟨n1, rfl⟩ : ∃ n1, n0 = n1 + 1 := ⟨n0 - 1, by omega⟩
    have e : i = 64 := by omega
    subst e
    rw [fX3_pick_L5, if_pos (show (64 : Int32) ≤ nI 64 by decide)]
    unfold sPk
    by_cases hy : y = -1
    · rw [if_pos hy, if_pos hy]
    · rw [if_neg hy, if_neg hy, sLs_no hb]
  | succ r ih =>
    intro n0 i hi hr hb
    obtain ⟨n1, rfl⟩ : ∃ n1, n0 = n1 + 1 := ⟨n0 - 1, by omega⟩
    have hS := li31 hv
    rw [fX3_pick_L5, if_neg (show ¬ (64 : Int32) ≤ nI i from nI_ge (b := 64) (by omega) (by decide)), h.2.2.1, holder_ok (a := 5) (o := ow d) hN h hv (hs.at (by omega)) (by omega) (by omega) (fun k hk => ⟨(h.2.2.2 k hk).2.2.2.1, (hv.2.2.2 k hk).2.2.2.2.1⟩), bS]
    have hct : ∀ b : Bool, (decide (sW d (ow d) (li d) hour i = x)) = b → sCt (fun c => decide (sW d (ow d) (li d) hour c = x)) (i + 1) = if b = true then sCt (fun c => decide (sW d (ow d) (li d) hour c = x)) i + 1 else sCt (fun c => decide (sW d (ow d) (li d) hour c = x)) i := fun b hb => by rw [← hb]; rfl
    by_cases hx : sW d (ow d) (li d) hour i = x
    · rw [if_pos hx]
      by_cases hy : nI (sCt (fun c => decide (sW d (ow d) (li d) hour c = x)) i) = y
      · rw [if_pos hy]
        unfold sPk
        have hm : ¬ y = -1 := fun z => nI_m1 (Nat.lt_of_le_of_lt (sCt_le (fun c => decide (sW d (ow d) (li d) hour c = x)) i) (by omega)) (hy.trans z)
        rw [if_neg hm, sLs_at (i := i) (decide_eq_true hx) hy (by omega) (by omega)]
      · rw [if_neg hy, nI_1, nI_1]
        have e1 := hct true (decide_eq_true hx)
        rw [if_pos rfl] at e1
        rw [← e1]
        refine ih n1 (i + 1) (by omega) (by omega) (fun c hc => ?_)
        by_cases e : c = i
        · rw [e]; exact fun z => hy z.2
        · exact hb c (by omega)
    · rw [if_neg hx, nI_1]
      have e1 := hct false (decide_eq_false hx)
      rw [if_neg (by decide)] at e1
      have ih' := ih n1 (i + 1) (by omega) (by omega) (fun c hc => by
        by_cases e : c = i
        · rw [e]; exact fun z => hx (of_decide_eq_true z.1)
        · exact hb c (by omega))
      rw [e1] at ih'
      exact ih'
theorem listOf_n {N : Nat} (hN : 100 ≤ N) {w : Mm} {d : VD} {o : Nat → Nat} {S hour : Nat} {x y : Int32} (h : HP w d S o) (hv : VOK d) (hS : S < 2 ^ 31) (hh : hour < 12) : ∀ (r n0 i : Nat), i + r = 64 → r < n0 → fX12_listOf_L14 N n0 w x (nI hour) y (nI (sCt (fun c => decide (sW d o S hour c = x)) i)) (sLs (fun c => decide (sW d o S hour c = x)) y i) (nI i) = some (sPk (fun c => decide (sW d o S hour c = x)) y, w) := by
  intro r
  induction r with
  | zero =>
    intro n0 i hi hr
    obtain ⟨n1, rfl⟩ : ∃ n1, n0 = n1 + 1 := ⟨n0 - 1, by omega⟩
    have e : i = 64 := by omega
    subst e
    rw [fX12_listOf_L14, if_pos (show (64 : Int32) ≤ nI 64 by decide)]
    unfold sPk
    by_cases hy : y = -1
    · rw [if_pos hy, if_pos hy]
    · rw [if_neg hy, if_neg hy]
  | succ r ih =>
    intro n0 i hi hr
    obtain ⟨n1, rfl⟩ : ∃ n1, n0 = n1 + 1 := ⟨n0 - 1, by omega⟩
    have ih' := ih n1 (i + 1) (by omega) (by omega)
    rw [show sLs (fun c => decide (sW d o S hour c = x)) y (i + 1) = if decide (sW d o S hour i = x) = true ∧ nI (sCt (fun c => decide (sW d o S hour c = x)) i) = y then nI i else sLs (fun c => decide (sW d o S hour c = x)) y i from rfl, show sCt (fun c => decide (sW d o S hour c = x)) (i + 1) = if decide (sW d o S hour i = x) = true then sCt (fun c => decide (sW d o S hour c = x)) i + 1 else sCt (fun c => decide (sW d o S hour c = x)) i from rfl] at ih'
    rw [fX12_listOf_L14, if_neg (show ¬ (64 : Int32) ≤ nI i from nI_ge (b := 64) (by omega) (by decide)), mwhose_ok hN h hv hS (by omega) hh, bS]
    by_cases hx : sW d o S hour i = x
    · have hd : decide (sW d o S hour i = x) = true := decide_eq_true hx
      rw [if_pos hx]
      rw [if_pos hd] at ih'
      unfold fX12_listOf_L45
      by_cases hy : nI (sCt (fun c => decide (sW d o S hour c = x)) i) = y
      · rw [if_pos hy, nI_1, nI_1]
        rw [if_pos ⟨hd, hy⟩] at ih'
        exact ih'
      · rw [if_neg hy, nI_1, nI_1]
        rw [if_neg (fun z => hy z.2)] at ih'
        exact ih'
    · have hd : ¬ decide (sW d o S hour i = x) = true := fun z => hx (of_decide_eq_true z)
      rw [if_neg hx, nI_1]
      rw [if_neg hd, if_neg (fun z => hd z.1)] at ih'
      exact ih'
theorem list_both {N : Nat} (hN : 1000 ≤ N) {w : Mm} (h : INV w) (x y : Int32) {t : Nat} (ht : t < 12) : ∃ r w1 w2, fX3_layAll N w (nI t) = some w1 ∧ fX3_pick N w1 x y = some r ∧ fX12_listOf N w1 x (nI t) y = some (r, w2) ∧ INV w2 := by
  obtain ⟨S, s1, s2, s3⟩ := h
  have hv : VOK (vd (gV S)) := s1.1.1
  have hS := li31 hv
  obtain ⟨w1, e1, e2, e3⟩ := layAll_ok (N := N) (by omega) hv s2.1.lp ht
  have l1 : LPc w1 (vd (gV S)) := s2.1.lp.fr e2 (by decide)
  obtain ⟨w2, g1, g2, g3, g4⟩ := layHand_ok (N := N) (by omega) hv (s3.np e2 (by decide))
  refine ⟨_, w1, w2, e1, pick_n (by omega) l1 hv e3 64 N 0 rfl (by omega) (fun c hc => absurd hc (by omega)), ?_, INV.q s1 s2 s3 e2 (by decide) g2 (by decide) (g4 16 (by decide))⟩
  unfold fX12_listOf
  rw [g1, bS]
  exact listOf_n (by omega) g3 hv (by omega) ht 64 N 0 rfl (by omega)
theorem op_acres {N : Nat} (hN : 1000 ≤ N) {w : Mm} (h : INV w) (x y z : Int32) : OKi (fX11_acres N w x y z) (fun w => fX12_acres N w x y z) := by
  unfold fX11_acres fX12_acres fX11_isOwner fX12_isOwner fX11_isHour fX12_isHour fX11_acres_L19 fX12_acres_L29
  rcases rg_0_3 x with ⟨h3, h4⟩ | ⟨c, -, hc, rfl, h3, h4⟩
  · rw [if_pos h3]; exact ok_bad' (-10) h (fun w' hw' => by rw [if_pos h4])
  rw [if_neg h3]
  rcases rg_0_11 y with ⟨h5, h6⟩ | ⟨t, -, ht, rfl, h5, h6⟩
  · rw [if_pos h5]; exact ok_bad' (-10) h (fun w' hw' => by rw [if_neg h4, if_pos h6])
  rw [if_neg h5]
  by_cases hz : -1 ≤ z
  · rw [if_pos hz]
    obtain ⟨r, w1, w2, q1, q2, q3, q4⟩ := list_both hN h (nI c) z (t := t) (by omega)
    refine ⟨r, w1, w2, by rw [q1, bS, q2, bS], ?_, q4⟩
    dsimp only
    rw [if_neg h4, if_neg h6, if_neg (Int32.not_lt.mpr hz), q3, oS]
  · rw [if_neg hz]
    exact ok_bad' (-10) h (fun w' hw' => by rw [if_neg h4, if_neg h6, if_pos (Int32.not_le.mp hz)])
theorem op_hedges {N : Nat} (hN : 1000 ≤ N) {w : Mm} (h : INV w) (y z : Int32) : OKi (fX11_hedges N w y z) (fun w => fX12_hedges N w y z) := by
  unfold fX11_hedges fX12_hedges fX11_isHour fX12_isHour fX11_hedges_L12 fX12_hedges_L23
  rcases rg_0_11 y with ⟨h5, h6⟩ | ⟨t, -, ht, rfl, h5, h6⟩
  · rw [if_pos h5]; exact ok_bad' (-10) h (fun w' hw' => by rw [if_pos h6])
  rw [if_neg h5]
  by_cases hz : -1 ≤ z
  · rw [if_pos hz]
    obtain ⟨r, w1, w2, q1, q2, q3, q4⟩ := list_both hN h (-2) z (t := t) (by omega)
    refine ⟨r, w1, w2, by rw [q1, bS, q2, bS], ?_, q4⟩
    dsimp only
    rw [if_neg h6, if_neg (Int32.not_lt.mpr hz), q3, oS]
  · rw [if_neg hz]
    exact ok_bad' (-10) h (fun w' hw' => by rw [if_neg h6, if_pos (Int32.not_le.mp hz)])

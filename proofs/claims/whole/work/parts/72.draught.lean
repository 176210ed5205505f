/-! ===== draughts ===== -/
theorem draught_n {N : Nat} (hN : 1000 ≤ N) {w : Mm} {c m : Nat} (hc : c ≤ 10) (hm : m ≤ 7) : ∀ (r n0 i : Nat), i + r = m → r < n0 → fX11_draught_L90 N n0 w (nI c) (lN (10 ^ i)) (lN (c ^ i)) (nI m) (nI i) = some (1, sJ (sJ w 0 7 (lN ((10 ^ m - c ^ m) / Nat.gcd (10 ^ m - c ^ m) (10 ^ m)))) 0 8 (lN (10 ^ m / Nat.gcd (10 ^ m - c ^ m) (10 ^ m)))) := by
  intro r
  induction r with
  | zero =>
    intro n0 i hi hr
    obtain ⟨n1, rfl⟩ : ∃ n1, n0 = n1 + 1 := ⟨n0 - 1, by omega⟩
    have h1 : c ^ m ≤ 10 ^ m := Nat.pow_le_pow_left hc m
    have h2 : (10 : Nat) ^ m ≤ 10 ^ 7 := Nat.pow_le_pow_right (by decide) hm
    have h3 : 0 < (10 : Nat) ^ m := Nat.pow_pos (by decide)
    have e : i = m := by omega
    subst e
    rw [fX11_draught_L90, if_pos (nI_le (by omega) (by omega)), lN_sub h1, kfrac_ok hN (by omega) (by omega) h3, bS]
  | succ r ih =>
    intro n0 i hi hr
    obtain ⟨n1, rfl⟩ : ∃ n1, n0 = n1 + 1 := ⟨n0 - 1, by omega⟩
    have ih' := ih n1 (i + 1) (by omega) (by omega)
    rw [Nat.pow_succ, Nat.pow_succ] at ih'
    rw [fX11_draught_L90, if_neg (nI_ge (by omega) (by omega)), nI_l (by omega), show (10 : Int64) = lN 10 from rfl, lN_mul, lN_mul, nI_1]
    exact ih'
theorem nI_bit0 {S k : Nat} (hS : S < 2 ^ 31) (hk : k < 32) : ((nI S >>> (nI k &&& 31)) &&& 1 = 0) ↔ ¬ bt S k = true := by
  rw [nI_bit hS hk, show (0 : Int32) = nI 0 from rfl, nI_eq (by omega) (by decide)]
  unfold bt
  rw [beq_iff_eq]
  omega
theorem mdr_in {N : Nat} {w : Mm} {n T S c : Nat} {x1 x2 x3 : Int32} {x5 x7 : Int64} {k90 : Mm → Int32 → Int32 → Int32 → Int32 → Int64 → Int64 → Int32 → Option (Int32 × Mm)} (hn : n ≤ 7) (hT : T < 2 ^ 7) (hS : S < 2 ^ 7) (hc : c ≤ 10) (h0 : w.1 78 0 = nI n) (h2 : w.1 78 2 = nI T) : ∀ (r n0 i : Nat), i + r = n → r < n0 → fX12_draught_L137 N k90 n0 w x1 x2 x3 (nI c) x5 x7 (nI S) (lN (wPr (wL T c) S i)) (nI i) = k90 w x1 x2 x3 (nI c) (x5 + lN (wPr (wL T c) S n)) x7 (nI (S + 1)) := by
  intro r
  induction r with
  | zero =>
    intro n0 i hi hr
    obtain ⟨n1, rfl⟩ : ∃ n1, n0 = n1 + 1 := ⟨n0 - 1, by omega⟩
    unfold fX12_draught_L137 fX12_candles
    rw [h0, if_pos (nI_le (by omega) (by omega)), nI_1, show i = n by omega]
  | succ r ih =>
    intro n0 i hi hr
    obtain ⟨n1, rfl⟩ : ∃ n1, n0 = n1 + 1 := ⟨n0 - 1, by omega⟩
    have ih' := ih n1 (i + 1) (by omega) (by omega)
    rw [wPr] at ih'
    unfold fX12_draught_L137 fX12_candles
    rw [h0, if_neg (nI_ge (by omega) (by omega)), h2, nI_1, show (10 : Int32) = nI 10 from rfl, pk_sub hc, nI_l (by omega), nI_l (by omega), lN_mul, lN_mul, Int64.mul_one]
    unfold wL at ih' ⊢
    by_cases q : bt T i = true
    · rw [if_neg (fun z => (nI_bit0 (by omega) (by omega)).mp z q)]
      rw [if_pos q] at ih'
      by_cases q2 : bt S i = true
      · rw [if_pos ((nI_bit1 (by omega) (by omega)).mpr q2)]
        rw [if_pos q2] at ih'
        exact ih'
      · rw [if_neg (fun z => q2 ((nI_bit1 (by omega) (by omega)).mp z))]
        rw [if_neg q2] at ih'
        exact ih'
    · rw [if_pos ((nI_bit0 (by omega) (by omega)).mpr q)]
      rw [if_neg q, Nat.mul_one] at ih'
      exact ih'
theorem wPr_le {T c S : Nat} (hc : c ≤ 10) : ∀ n, wPr (wL T c) S n ≤ 10 ^ n := by
  intro n
  induction n with
  | zero => exact Nat.le_refl _
  | succ n ih =>
    rw [wPr, Nat.pow_succ]
    apply Nat.mul_le_mul ih
    unfold wL
    split
    · split <;> omega
    · omega
def gSm (d : VD) (T hour x cell c S : Nat) : Nat := if ldf S T = 0 ∧ x ≤ sT d S hour cell then wPr (wL T c) S (nn d) else 0
theorem gSm_le {d : VD} (hv : VOK d) {T hour x cell c : Nat} (hc : c ≤ 10) : ∀ s, wSum (gSm d T hour x cell c) s ≤ s * 10000000 := by
  intro s
  have h2 : (10 : Nat) ^ nn d ≤ 10 ^ 7 := Nat.pow_le_pow_right (by decide) hv.2.1
  induction s with
  | zero => exact Nat.le_of_eq (Nat.zero_mul _).symm
  | succ s ih =>
    have h1 := wPr_le (T := T) (S := s) hc (nn d)
    have h3 : gSm d T hour x cell c s ≤ 10000000 := by
      unfold gSm
      split
      · exact Nat.le_trans h1 h2
      · exact Nat.zero_le _
    rw [wSum]
    omega
theorem mdr_n {N : Nat} (hN : 1000 ≤ N) {d : VD} (hv : VOK d) {hour x cell c A : Nat} {o : Nat → Nat} (hcell : cell < 64) (hh : hour < 12) (hx : x ≤ 23) (hc : c ≤ 10) (hA : A < 2 ^ 31) (hA0 : 0 < A) : ∀ (r n0 s S0 : Nat) (w : Mm), s + r = 2 ^ nn d → r < n0 → HP w d S0 o → w.1 78 2 = nI (li d) → ∃ w', fX12_draught_L90 N n0 w (nI cell) (nI hour) (nI x) (nI c) (lN (wSum (gSm d (li d) hour x cell c) s)) (lN A) (nI s) = some (1, sJ (sJ w' 77 4 (lN (wSum (gSm d (li d) hour x cell c) (2 ^ nn d) / Nat.gcd (wSum (gSm d (li d) hour x cell c) (2 ^ nn d)) A))) 77 5 (lN (A / Nat.gcd (wSum (gSm d (li d) hour x cell c) (2 ^ nn d)) A))) ∧ Fr [77] w w' ∧ w'.1 77 16 = w.1 77 16 := by
  intro r
  have h7 := p2le hv
  have hn := hv.2.1
  have hS := li31 hv
  induction r with
  | zero =>
    intro n0 s S0 w hi hr hp h2
    obtain ⟨n1, rfl⟩ : ∃ n1, n0 = n1 + 1 := ⟨n0 - 1, by omega⟩
    have hb := gSm_le hv (T := li d) (hour := hour) (x := x) (cell := cell) hc (2 ^ nn d)
    refine ⟨w, ?_, Fr.rf, rfl⟩
    have e : s = 2 ^ nn d := by omega
    rw [e]
    unfold fX12_draught_L90 fX12_candles
    rw [hp.1, nI_shl (by omega), if_pos (nI_le (by omega) (by omega)), mfrac_ok hN (by omega) hA hA0, bS]
  | succ r ih =>
    intro n0 s S0 w hi hr hp h2
    obtain ⟨n1, rfl⟩ : ∃ n1, n0 = n1 + 1 := ⟨n0 - 1, by omega⟩
    have hp1 : HP (sI w 77 6 (nI s)) d s o := hp.set
    have f1 : Fr [77] w (sI w 77 6 (nI s)) := Fr.sI (by decide)
    have h21 : (sI w 77 6 (nI s)).1 78 2 = nI (li d) := by rw [sI_o _ (by decide)]; exact h2
    obtain ⟨w', g1, g2, g3⟩ := ih n1 (s + 1) s (sI w 77 6 (nI s)) (by omega) (by omega) hp1 h21
    refine ⟨w', ?_, f1.then g2, by rw [g3, sI_1, if_neg (by decide)]⟩
    have hl : ldf s (li d) < 2 ^ 7 := ldf_lt (by omega)
    have ht := sT_le hv s hour cell
    rw [wSum] at g1
    have zl : (nI (ldf s (li d)) = 0) ↔ ldf s (li d) = 0 := nI_eq (b := 0) (by omega) (by decide)
    have e137 := mdr_in (N := N) (n := nn d) (T := li d) (S := s) (c := c) (x1 := nI cell) (x2 := nI hour) (x3 := nI x) (x5 := lN (wSum (gSm d (li d) hour x cell c) s)) (x7 := lN A) (k90 := fX12_draught_L90 N n1) hn hS (by omega) hc hp1.1 h21 (nn d) N 0 (Nat.zero_add _) (by omega)
    rw [lN_add] at e137
    unfold fX12_draught_L90 fX12_candles
    rw [hp.1, nI_shl (by omega), if_neg (nI_ge (by omega) (by omega)), bS, h21, nI_ldf (by omega) (by omega), nI_1, mlightIn_ok (by omega) hp1 hv (by omega) hcell hh, bS]
    by_cases q1 : ldf s (li d) = 0
    · rw [if_pos (zl.mpr q1)]
      by_cases q2 : sT d s hour cell < x
      · rw [if_pos (nI_lt q2 (by omega))]
        rw [show gSm d (li d) hour x cell c s = 0 from if_neg (fun z => by omega), Nat.add_zero] at g1
        exact g1
      · rw [if_neg (nI_nlt (by omega) (by omega))]
        rw [show gSm d (li d) hour x cell c s = wPr (wL (li d) c) s (nn d) from if_pos ⟨q1, by omega⟩] at g1
        exact e137.trans g1
    · rw [if_neg (fun z => q1 (zl.mp z))]
      rw [show gSm d (li d) hour x cell c s = 0 from if_neg (fun z => q1 z.1), Nat.add_zero] at g1
      exact g1
theorem mdr_all {N : Nat} (hN : 1000 ≤ N) {w : Mm} {T : Nat} (hT : T < 2 ^ 7) {x1 x2 x3 x4 : Int32} (h2 : w.1 78 2 = nI T) : ∀ (r n0 j : Nat), j + r = pcF 7 T → r < n0 → fX12_draught_L59 N n0 w x1 x2 x3 x4 0 (lN (10 ^ j)) (nI j) = fX12_draught_L90 N N w x1 x2 x3 x4 0 (lN (10 ^ pcF 7 T)) 0 := by
  intro r
  have hp := pcF_le 7 T
  induction r with
  | zero =>
    intro n0 j hi hr
    obtain ⟨n1, rfl⟩ : ∃ n1, n0 = n1 + 1 := ⟨n0 - 1, by omega⟩
    rw [fX12_draught_L59, h2, bits_ok (by omega) (by omega), bS, if_pos (nI_le (by omega) (by omega)), show j = pcF 7 T by omega]
  | succ r ih =>
    intro n0 j hi hr
    obtain ⟨n1, rfl⟩ : ∃ n1, n0 = n1 + 1 := ⟨n0 - 1, by omega⟩
    have ih' := ih n1 (j + 1) (by omega) (by omega)
    rw [Nat.pow_succ] at ih'
    rw [fX12_draught_L59, h2, bits_ok (by omega) (by omega), bS, if_neg (nI_ge (by omega) (by omega)), show (10 : Int64) = lN 10 from rfl, lN_mul, nI_1]
    exact ih'
theorem sJ_2o (w : Mm) {o i : Nat} {v : Int64} {a : Nat} (h : a ≠ o) : (sJ w o i v).2 a = w.2 a := by
  simp [sJ, h]
theorem sJ_2 (w : Mm) (o i : Nat) (v : Int64) (j : Nat) : (sJ w o i v).2 o j = if j = i then v else w.2 o j := by
  simp [sJ, vp_updL]
theorem CI.frac {w : Mm} {V : VV} {I : Nat → Option VV} {T : Nat × (Nat → Nat)} {F : Int64 × Int64} {G : Int32 × Int32 × Int32} (h : CI w (V, I, T, F, G)) (a b : Int64) : CI (sJ (sJ w 0 7 a) 0 8 b) (V, I, T, (a, b), G) := by
  obtain ⟨a1, a2, a3, a4, a5⟩ := h
  refine ⟨a1, a2, a3, ⟨?_, ?_⟩, a5⟩
  · rw [sJ_2, if_neg (by decide), sJ_2, if_pos rfl]; rfl
  · rw [sJ_2, if_pos rfl]; rfl
theorem MI.frac {w : Mm} {V : VV} {I : Nat → Option VV} {T : Nat × (Nat → Nat)} {F : Int64 × Int64} {G : Int32 × Int32 × Int32} (h : MI w (V, I, T, F, G)) (a b : Int64) : MI (sJ (sJ w 77 4 a) 77 5 b) (V, I, T, (a, b), G) := by
  obtain ⟨a1, a2, a3, a4, a5⟩ := h
  refine ⟨a1, a2, a3, ⟨?_, ?_⟩, a5⟩
  · rw [sJ_2, if_neg (by decide), sJ_2, if_pos rfl]; rfl
  · rw [sJ_2, if_pos rfl]; rfl
theorem INV.frac {w w2 : Mm} {S : GS} {L2 : List Nat} (s1 : SOK S) (s2 : CI w S) (s3 : MI w S) (a b : Int64) (f2 : Fr (77 :: L2) (sJ (sJ w 0 7 a) 0 8 b) w2) (hL2 : isScr L2 = true) (h77 : w2.1 77 16 = w.1 77 16) : INV (sJ (sJ w2 77 4 a) 77 5 b) := by
  obtain ⟨V, I, T, F, G⟩ := S
  refine ⟨(V, I, T, (a, b), G), s1, ?_, ?_⟩
  · exact ((s2.frac a b).hand f2 hL2).fr (fun o _ => rfl) rfl (by rw [sJ_2o _ (by decide), sJ_2o _ (by decide)])
  · have m1 : MI (sJ (sJ w 0 7 a) 0 8 b) (V, I, T, F, G) := s3.fr (fun o _ => rfl) rfl (by rw [sJ_2o _ (by decide), sJ_2o _ (by decide)])
    exact (m1.hand f2 hL2 h77).frac a b
/-- the two fractions are one -/
theorem dr_eq {d : VD} (hv : VOK d) {hour x cell c : Nat} (hc : c ≤ 10) : ∃ o u, 0 < u ∧ wSum (gSm d (li d) hour x cell c) (2 ^ nn d) / Nat.gcd (wSum (gSm d (li d) hour x cell c) (2 ^ nn d)) (10 ^ pcF 7 (li d)) = o / Nat.gcd o u ∧ 10 ^ pcF 7 (li d) / Nat.gcd (wSum (gSm d (li d) hour x cell c) (2 ^ nn d)) (10 ^ pcF 7 (li d)) = u / Nat.gcd o u ∧ (x = 0 → o = 1 ∧ u = 1) ∧ (0 < x → o = 10 ^ pcF 7 (sR d hour cell x &&& li d) - c ^ pcF 7 (sR d hour cell x &&& li d) ∧ u = 10 ^ pcF 7 (sR d hour cell x &&& li d)) := by
  have hn := hv.2.1
  have hl : pcF 7 (li d) = sCt (bt (li d)) (nn d) := pc_nn hv.2.2.1 hn
  by_cases hx : x = 0
  · have e : wSum (gSm d (li d) hour x cell c) (2 ^ nn d) = 10 ^ pcF 7 (li d) := by
      rw [hl, ← bo_A hc, ← wSum_pr]
      apply wSum_ext
      intro S hS
      have h2 := fSm_eq (T := li d) (R := 0) (c := c) hS
      have h3 : wPr (wB (li d) 0 c) S (nn d) = wPr (wA_ (li d) c) S (nn d) := wPr_ext (fun k _ => by
        unfold wB wA_
        rw [bt_tb 0, Nat.zero_testBit]
        rfl)
      unfold gSm
      by_cases q : ldf S (li d) = 0
      · rw [if_pos ⟨q, by omega⟩]
        have h1 := (ldf_z hS).mp q
        refine wPr_ext (fun k hk => ?_)
        unfold wA_ wL
        cases e : bt S k
        · by_cases q : bt (li d) k = true
          · rw [if_pos q, if_pos q]
          · rw [if_neg q, if_neg q]; rfl
        · rw [if_pos (h1 k hk e), if_pos (h1 k hk e)]
      · rw [if_neg (fun z => q z.1)]
        obtain ⟨k, hk⟩ := Classical.not_forall.mp (fun z => q ((ldf_z hS).mpr z))
        have hk1 : k < nn d := Classical.byContradiction (fun z => hk (fun z2 => absurd z2 z))
        have hk2 : bt S k = true := Classical.byContradiction (fun z => hk (fun _ z2 => absurd z2 z))
        have hk3 : ¬ bt (li d) k = true := fun z => hk (fun _ _ => z)
        rw [wPr_z (w := wA_ (li d) c) (k := k) _ hk1]
        unfold wA_
        rw [if_neg hk3, if_pos hk2]
    have ht : 0 < (10 : Nat) ^ pcF 7 (li d) := Nat.pow_pos (by decide)
    have hg := gcd_cut (o := 1) (u := 1) ht
    rw [Nat.one_mul] at hg
    refine ⟨1, 1, by decide, ?_, ?_, fun _ => ⟨rfl, rfl⟩, fun z => by omega⟩
    · rw [e]; exact hg.1
    · rw [e]; exact hg.2
  · have e : wSum (gSm d (li d) hour x cell c) (2 ^ nn d) = wSum (fSm (li d) (sR d hour cell x) c (nn d)) (2 ^ nn d) := by
      apply wSum_ext
      intro S hS
      have hz := sR_z (d := d) (hour := hour) (c := cell) (x := x) (S := S) (by omega)
      rw [Nat.and_comm] at hz
      unfold gSm fSm
      by_cases q : ldf S (li d) = 0 ∧ x ≤ sT d S hour cell
      · rw [if_pos q, if_pos ⟨q.1, fun z => by have := hz.mp z; omega⟩]
      · rw [if_neg q, if_neg (fun z => q ⟨z.1, Nat.le_of_not_lt (fun z2 => z.2 (hz.mpr z2))⟩)]
    have hr : sR d hour cell x &&& li d < 2 ^ nn d := Nat.lt_of_le_of_lt Nat.and_le_right hv.2.2.1
    have hm : pcF 7 (sR d hour cell x &&& li d) = sCt (bt (sR d hour cell x &&& li d)) (nn d) := pc_nn hr hn
    obtain ⟨t, t1, t2, t3⟩ := dr_sum (T := li d) (R := sR d hour cell x) hc (nn d)
    have hg := gcd_cut (o := 10 ^ pcF 7 (sR d hour cell x &&& li d) - c ^ pcF 7 (sR d hour cell x &&& li d)) (u := 10 ^ pcF 7 (sR d hour cell x &&& li d)) t1
    refine ⟨10 ^ pcF 7 (sR d hour cell x &&& li d) - c ^ pcF 7 (sR d hour cell x &&& li d), 10 ^ pcF 7 (sR d hour cell x &&& li d), Nat.pow_pos (by decide), ?_, ?_, fun z => absurd z hx, fun _ => ⟨rfl, rfl⟩⟩
    · rw [e, t2, hl, t3, ← hm]; exact hg.1
    · rw [e, t2, hl, t3, ← hm]; exact hg.2
theorem op_draught {N : Nat} (hN : 1000 ≤ N) {w : Mm} (h : INV w) (x y z v : Int32) : OKi (fX11_draught N w x y z v) (fun w => fX12_draught N w x y z v) := by
  unfold fX11_draught fX12_draught fX11_isCell fX12_isCell fX11_isHour fX12_isHour fX11_draught_L35 fX12_draught_L39
  rcases rg_0_63 x with ⟨h1, h2⟩ | ⟨a, -, ha, rfl, h1, h2⟩
  · rw [if_pos h1]; exact ok_bad' (-2) h (fun w' hw' => by rw [if_pos h2])
  rw [if_neg h1]
  rcases rg_0_11 y with ⟨h3, h4⟩ | ⟨t, -, ht, rfl, h3, h4⟩
  · rw [if_pos h3]; exact ok_bad' (-2) h (fun w' hw' => by rw [if_neg h2, if_pos h4])
  rw [if_neg h3]
  rcases rg_0_23 z with ⟨h5, h6⟩ | ⟨n, -, hnn, rfl, h5, h6⟩
  · rw [if_pos h5]; exact ok_bad' (-2) h (fun w' hw' => by rw [if_neg h2, if_neg h4, if_pos h6])
  rw [if_neg h5]
  rcases rg_0_10 v with ⟨h7, h8⟩ | ⟨c, -, hc, rfl, h7, h8⟩
  · rw [if_pos h7]; exact ok_bad' (-2) h (fun w' hw' => by rw [if_neg h2, if_neg h4, if_neg h6, if_pos h8])
  rw [if_neg h7]
  obtain ⟨S, s1, s2, s3⟩ := h
  have hv : VOK (vd (gV S)) := s1.1.1
  have hS := li31 hv
  have hn := hv.2.1
  have h72 := p2le hv
  obtain ⟨o, u, hu, q1, q2, q3, q4⟩ := dr_eq hv (hour := t) (x := n) (cell := a) hc
  have key : (if nI n = (0 : Int32) then Option.bind (fX11_keepFraction N w (1 : Int64) (1 : Int64)) fun m7 => some ((1 : Int32), m7) else Option.bind (fX3_reaching N w (nI a) (nI t) (nI n)) fun a6 => fX11_draught_L90 N N w (nI c) (1 : Int64) (1 : Int64) (fJ6_bitCount_0f7a4 (a6 &&& (w.1 1 2))) (0 : Int32)) = some (1, sJ (sJ w 0 7 (lN (o / Nat.gcd o u))) 0 8 (lN (u / Nat.gcd o u))) := by
    by_cases hz : n = 0
    · obtain ⟨rfl, rfl⟩ := q3 hz
      have ek : fX11_keepFraction N w (1 : Int64) (1 : Int64) = _ := kfrac_ok (N := N) hN (w := w) (o := 1) (u := 1) (by decide) (by decide) (by decide)
      rw [if_pos (by rw [hz]; rfl), ek, bS]
    · obtain ⟨rfl, rfl⟩ := q4 (by omega)
      have hr := sR_lt hv t a n
      have hab : sR (vd (gV S)) t a n &&& li (vd (gV S)) < 2 ^ 7 := Nat.lt_of_le_of_lt Nat.and_le_left hr
      have l2 : w.1 1 2 = nI (li (vd (gV S))) := s2.1.1.2.2.1
      have hd := draught_n (N := N) hN (w := w) (c := c) (m := pcF 7 (sR (vd (gV S)) t a n &&& li (vd (gV S)))) hc (pcF_le 7 _) (pcF 7 (sR (vd (gV S)) t a n &&& li (vd (gV S)))) N 0 (Nat.zero_add _) (by have := pcF_le 7 (sR (vd (gV S)) t a n &&& li (vd (gV S))); omega)
      rw [if_neg (show ¬ nI n = 0 from fun z => hz ((nI_eq (b := 0) (by omega) (by decide)).mp z)), reaching_ok (by omega) s2.1.lp hv (by omega) (by omega) (by omega), bS, l2, nI_and (by omega) (by omega), bitCount_n _ (by omega)]
      exact hd
  have hw1 : NP (sJ (sJ w 0 7 (lN (o / Nat.gcd o u))) 0 8 (lN (u / Nat.gcd o u))) (vd (gV S)) := s3.1.np
  obtain ⟨w2, g1, g2, g3, g4⟩ := layHand_ok (N := N) (by omega) hv hw1
  have h782 : w2.1 78 2 = nI (li (vd (gV S))) := by rw [g2.1 78 (by decide)]; exact hw1.2.2.1
  have hpc := pcF_le 7 (li (vd (gV S)))
  have hA : (10 : Nat) ^ pcF 7 (li (vd (gV S))) ≤ 10 ^ 7 := Nat.pow_le_pow_right (by decide) hpc
  obtain ⟨w3, k1, k2, k3⟩ := mdr_n (N := N) hN hv (hour := t) (x := n) (cell := a) (c := c) (A := 10 ^ pcF 7 (li (vd (gV S)))) (by omega) (by omega) hnn hc (by omega) (Nat.pow_pos (by decide)) (2 ^ nn (vd (gV S))) N 0 _ w2 (Nat.zero_add _) (by omega) g3 h782
  rw [q1, q2] at k1
  have ka := mdr_all (N := N) hN hS (x1 := nI a) (x2 := nI t) (x3 := nI n) (x4 := nI c) h782 (pcF 7 (li (vd (gV S)))) N 0 (Nat.zero_add _) (by omega)
  refine ⟨1, sJ (sJ w 0 7 (lN (o / Nat.gcd o u))) 0 8 (lN (u / Nat.gcd o u)), sJ (sJ w3 77 4 (lN (o / Nat.gcd o u))) 77 5 (lN (u / Nat.gcd o u)), key, ?_, INV.frac s1 s2 s3 _ _ (g2.then (k2.up (by decide))) (by decide) (by rw [k3]; exact g4 16 (by decide))⟩
  dsimp only
  rw [if_neg h2, if_neg h4, if_neg h6, if_neg h8, g1, bS]
  exact ka.trans k1

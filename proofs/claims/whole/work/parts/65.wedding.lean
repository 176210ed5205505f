/-! ===== a wedding ===== -/
def wdO (d : VD) (x y : Nat) : Nat → Nat := fun k => if ow d k = y then x else ow d k
def wdI (d : VD) (x y i : Nat) : Nat → Nat := fun k => if k < i then wdO d x y k else ow d k
theorem wdI_lt {d : VD} {x y i k : Nat} (h : k < i) : wdI d x y i k = wdO d x y k := by unfold wdI; rw [if_pos h]
theorem wdI_ge {d : VD} {x y i k : Nat} (h : ¬ k < i) : wdI d x y i k = ow d k := by unfold wdI; rw [if_neg h]
theorem wdO_lt {d : VD} (hv : VOK d) {x y k : Nat} (hx : x < 4) (hk : k < nn d) : wdO d x y k < 4 := by
  unfold wdO
  have := (hv.2.2.2 k hk).2.2.2.2.1
  split <;> omega
theorem gain_n {N : Nat} (hN : 100 ≤ N) {d : VD} (hv : VOK d) {x y hour : Nat} (hx : x < 4) (hy : y < 4) : ∀ (r n0 i : Nat) (w : Mm), i + r = 7 → r < n0 → LPc w d → SP w d hour → (∀ k, k < i → k < nn d → w.1 62 k = nI (wdO d x y k)) → ∃ w', fX3_gainByWedding_L2 N n0 w (nI x) (nI y) (nI i) = some (nI (sAc d (wdO d x y) (li d) hour (nI x)) - (nI (sAc d (ow d) (li d) hour (nI x)) + nI (sAc d (ow d) (li d) hour (nI y))), w') ∧ Fr [62] w w' := by
  intro r
  have hS := li31 hv
  have hn := hv.2.1
  induction r with
  | zero =>
    intro n0 i w hi hr h hs h62
    obtain ⟨n1, rfl⟩ : ∃ n1, n0 = n1 + 1 := ⟨n0 - 1, by omega⟩
    have ho : ∀ k, k < nn d → w.1 5 k = nI (ow d k) ∧ ow d k < 4 := fun k hk => ⟨(h.2.2.2 k hk).2.2.2.1, (hv.2.2.2 k hk).2.2.2.2.1⟩
    have ho2 : ∀ k, k < nn d → w.1 62 k = nI (wdO d x y k) ∧ wdO d x y k < 4 := fun k hk => ⟨h62 k (by omega) hk, wdO_lt hv hx hk⟩
    refine ⟨w, ?_, Fr.rf⟩
    rw [fX3_gainByWedding_L2, if_pos (show (7 : Int32) ≤ nI i from nI_le (a := 7) (by omega) (by omega)), h.2.2.1, acresOf_ok hN h hv hs (by omega) ho, bS, acresOf_ok hN h hv hs (by omega) ho, bS, acresOf_ok hN h hv hs (by omega) ho2, bS]
  | succ r ih =>
    intro n0 i w hi hr h hs h62
    obtain ⟨n1, rfl⟩ : ∃ n1, n0 = n1 + 1 := ⟨n0 - 1, by omega⟩
    have st : ∀ v, (i < nn d → v = nI (wdO d x y i)) → ∃ w', fX3_gainByWedding_L2 N n1 (sI w 62 i v) (nI x) (nI y) (nI (i + 1)) = some (nI (sAc d (wdO d x y) (li d) hour (nI x)) - (nI (sAc d (ow d) (li d) hour (nI x)) + nI (sAc d (ow d) (li d) hour (nI y))), w') ∧ Fr [62] (sI w 62 i v) w' := fun v hvv => by
      have f1 : Fr [62] w (sI w 62 i v) := Fr.sI (by decide)
      refine ih n1 (i + 1) (sI w 62 i v) (by omega) (by omega) (h.fr f1 (by decide)) (fun c k hc hk => by rw [f1.1 61 (by decide)]; exact hs c k hc hk) (fun k hk hkn => ?_)
      rw [sI_1]
      by_cases e : k = i
      · rw [if_pos ⟨rfl, e⟩, e]; exact hvv (by omega)
      · rw [if_neg (by omega)]; exact h62 k (by omega) hkn
    rw [fX3_gainByWedding_L2, if_neg (show ¬ (7 : Int32) ≤ nI i from nI_ge (b := 7) (by omega) (by decide)), rdA_n (by omega) (by decide), bS]
    unfold fX3_gainByWedding_L39
    rw [wrA_n (by omega) (by decide), bS, nI_1]
    by_cases hq : w.1 5 i = nI y
    · rw [if_pos hq]
      obtain ⟨w', e1, e2⟩ := st (nI x) (fun hin => by
        have h5 := (h.2.2.2 i hin).2.2.2.1
        rw [h5] at hq
        have := (nI_eq (by have := (hv.2.2.2 i hin).2.2.2.2.1; omega) (by omega)).mp hq
        unfold wdO
        rw [if_pos this])
      exact ⟨w', e1, (Fr.sI (by decide)).then e2⟩
    · rw [if_neg hq, bS, wrA_n (by omega) (by decide), bS]
      obtain ⟨w', e1, e2⟩ := st (w.1 5 i) (fun hin => by
        have h5 := (h.2.2.2 i hin).2.2.2.1
        rw [h5] at hq ⊢
        unfold wdO
        rw [if_neg (fun z => hq (by rw [z]))])
      exact ⟨w', e1, (Fr.sI (by decide)).then e2⟩
theorem mgain_n {N : Nat} (hN : 100 ≤ N) {d : VD} (hv : VOK d) {x y hour S : Nat} {z : Int32} (hS : S < 2 ^ 7) (hx : x < 4) (hy : y < 4) (hh : hour < 12) : ∀ (r n0 i : Nat) (w : Mm), i + r = nn d → r < n0 → HP w d S (wdI d x y i) → ∃ w', fX12_wedding_L55 N n0 w (nI x) (nI y) (nI hour) z (nI i) = some (nI (sAc d (wdO d x y) S hour (nI x)) - z, w') ∧ Fr [83] w w' := by
  intro r
  have hn := hv.2.1
  induction r with
  | zero =>
    intro n0 i w hi hr h
    obtain ⟨n1, rfl⟩ : ∃ n1, n0 = n1 + 1 := ⟨n0 - 1, by omega⟩
    have h' : HP w d S (wdO d x y) := ⟨h.1, h.2.1, h.2.2.1, fun k hk => by
      obtain ⟨q1, q2, q3, q4, q5⟩ := h.2.2.2 k hk
      exact ⟨q1, q2, q3, q4, by rw [q5, wdI_lt (by omega)]⟩⟩
    refine ⟨w, ?_, Fr.rf⟩
    unfold fX12_wedding_L55 fX12_candles
    rw [h.1, if_pos (nI_le (by omega) (by omega)), macres_ok hN h' hv (by omega) hh, bS]
  | succ r ih =>
    intro n0 i w hi hr h
    obtain ⟨n1, rfl⟩ : ∃ n1, n0 = n1 + 1 := ⟨n0 - 1, by omega⟩
    have h83 : w.1 83 i = nI (ow d i) := by
      have := (h.2.2.2 i (by omega)).2.2.2.2
      rw [wdI_ge (by omega)] at this
      exact this
    have hoi := (hv.2.2.2 i (by omega)).2.2.2.2.1
    have st : ∃ w', fX12_wedding_L55 N n1 (sI w 83 i (nI (wdO d x y i))) (nI x) (nI y) (nI hour) z (nI (i + 1)) = some (nI (sAc d (wdO d x y) S hour (nI x)) - z, w') ∧ Fr [83] (sI w 83 i (nI (wdO d x y i))) w' := by
      refine ih n1 (i + 1) _ (by omega) (by omega) ⟨by rw [sI_o _ (by decide)]; exact h.1, by rw [sI_o _ (by decide)]; exact h.2.1, by rw [sI_o _ (by decide)]; exact h.2.2.1, fun k hk => ?_⟩
      obtain ⟨q1, q2, q3, q4, q5⟩ := h.2.2.2 k hk
      rw [sI_o _ (show (78 : Nat) ≠ 83 by decide), sI_o _ (show (82 : Nat) ≠ 83 by decide)]
      refine ⟨q1, q2, q3, q4, ?_⟩
      rw [sI_1]
      by_cases e : k = i
      · rw [if_pos ⟨rfl, e⟩, wdI_lt (by omega), e]
      · rw [if_neg (by omega), q5]
        by_cases e2 : k < i
        · rw [wdI_lt e2, wdI_lt (by omega)]
        · rw [wdI_ge e2, wdI_ge (by omega)]
    obtain ⟨w', e1, e2⟩ := st
    refine ⟨w', ?_, (Fr.sI (by decide)).then e2⟩
    unfold fX12_wedding_L55 fX12_candles
    rw [h.1, if_neg (nI_ge (by omega) (by omega)), rdA_n (by omega) (by decide), bS, bS, h83]
    unfold fX12_wedding_L92
    rw [wrA_n (by omega) (by decide), bS, wrA_n (by omega) (by decide), bS, nI_1]
    by_cases hq : ow d i = y
    · rw [if_pos (by rw [hq])]
      have ew : wdO d x y i = x := by unfold wdO; rw [if_pos hq]
      rw [ew] at e1
      exact e1
    · rw [if_neg (fun z => hq ((nI_eq (by omega) (by omega)).mp z))]
      have ew : wdO d x y i = ow d i := by unfold wdO; rw [if_neg hq]
      rw [ew] at e1
      exact e1
theorem op_wedding {N : Nat} (hN : 1000 ≤ N) {w : Mm} (h : INV w) (x y z : Int32) : OKi (fX11_wedding N w x y z) (fun w => fX12_wedding N w x y z) := by
  unfold fX11_wedding fX12_wedding fX11_isOwner fX12_isOwner fX11_isHour fX12_isHour fX11_wedding_L26 fX12_wedding_L26
  rcases rg_0_3 x with ⟨h1, h2⟩ | ⟨a, -, ha, rfl, h1, h2⟩
  · rw [if_pos h1]; exact ok_bad' (-100) h (fun w' hw' => by rw [if_pos h2])
  rw [if_neg h1]
  rcases rg_0_3 y with ⟨h3, h4⟩ | ⟨b, -, hb, rfl, h3, h4⟩
  · rw [if_pos h3]; exact ok_bad' (-100) h (fun w' hw' => by rw [if_neg h2, if_pos h4])
  rw [if_neg h3]
  by_cases hab : nI a = nI b
  · rw [if_pos hab]; exact ok_bad' (-100) h (fun w' hw' => by rw [if_neg h2, if_neg h4, if_pos hab])
  rw [if_neg hab]
  rcases rg_0_11 z with ⟨h5, h6⟩ | ⟨t, -, ht, rfl, h5, h6⟩
  · rw [if_pos h5]; exact ok_bad' (-100) h (fun w' hw' => by rw [if_neg h2, if_neg h4, if_neg hab, if_pos h6])
  rw [if_neg h5]
  obtain ⟨S, s1, s2, s3⟩ := h
  have hv : VOK (vd (gV S)) := s1.1.1
  have hS := li31 hv
  have hn := hv.2.1
  obtain ⟨w1, e1, e2, e3⟩ := layAll_ok (N := N) (by omega) hv s2.1.lp (hour := t) (by omega)
  have l1 : LPc w1 (vd (gV S)) := s2.1.lp.fr e2 (by decide)
  obtain ⟨w2, f1, f2⟩ := gain_n (N := N) (by omega) hv (x := a) (y := b) (hour := t) (by omega) (by omega) 7 N 0 w1 rfl (by omega) l1 e3 (fun k hk => absurd hk (by omega))
  have e12 : Fr [61, 65, 62] w w2 := (e2.up (by decide)).then (f2.up (by decide))
  obtain ⟨w3, g1, g2, g3, g4⟩ := layHand_ok (N := N) (by omega) hv (s3.np e12 (by decide))
  obtain ⟨w4, q1, q2⟩ := mgain_n (N := N) (by omega) hv (x := a) (y := b) (hour := t) (z := nI (sAc (vd (gV S)) (ow (vd (gV S))) (li (vd (gV S))) t (nI a)) + nI (sAc (vd (gV S)) (ow (vd (gV S))) (li (vd (gV S))) t (nI b))) hS (by omega) (by omega) (by omega) (nn (vd (gV S))) N 0 w3 (Nat.zero_add _) (by omega) ⟨g3.1, g3.2.1, g3.2.2.1, fun k hk => by rw [wdI_ge (by omega)]; exact g3.2.2.2 k hk⟩
  refine ⟨nI (sAc (vd (gV S)) (wdO (vd (gV S)) a b) (li (vd (gV S))) t (nI a)) - (nI (sAc (vd (gV S)) (ow (vd (gV S))) (li (vd (gV S))) t (nI a)) + nI (sAc (vd (gV S)) (ow (vd (gV S))) (li (vd (gV S))) t (nI b))), w2, w4, ?_, ?_, INV.q s1 s2 s3 e12 (by decide) (g2.then (q2.up (by decide))) (by decide) (by rw [q2.1 77 (by decide)]; exact g4 16 (by decide))⟩
  · rw [e1, bS, show fX3_gainByWedding N w1 (nI a) (nI b) = _ from f1, oS]
  · dsimp only
    rw [if_neg h2, if_neg h4, if_neg hab, if_neg h6, g1, bS, macres_ok (by omega) g3 hv (by omega) (by omega), bS, macres_ok (by omega) g3 hv (by omega) (by omega), bS]
    exact q1

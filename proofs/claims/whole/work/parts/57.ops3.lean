/-! ===== what there is ===== -/
theorem ok_q {w : Mm} (h : INV w) {r : Int32} {fx : Option (Int32 × Mm)} {fm : Mm → Option (Int32 × Mm)} (h1 : fx = some (r, w)) (h2 : fm w = some (r, w)) : OKi fx fm := ⟨r, w, w, h1, h2, h⟩
theorem op_part {w : Mm} (h : INV w) (x : Int32) : OKj (some (fX11_part w x)) (fun w => some (fX12_part w x)) := by
  unfold fX11_part fX12_part
  rcases rg_0_1 x with ⟨h1, -⟩ | ⟨j, -, hj, rfl, h1, -⟩
  · have hx := within_iff.mp h1
    have h0 : ¬ x = 0 := fun z => by subst z; rcases hx with z | z <;> exact absurd z (by decide)
    have h3 : ¬ x = 1 := fun z => by subst z; rcases hx with z | z <;> exact absurd z (by decide)
    refine ⟨(-2 : Int32).toInt64, (fX11_bad w (-2)).2, (fX12_bad (fX11_bad w (-2)).2 (-2)).2, ?_, ?_, bad_both (-2) h⟩
    · rw [if_pos h1]; rfl
    · dsimp only; rw [if_neg h0, if_neg h3]; rfl
  · obtain ⟨S, s1, s2, s3⟩ := id h
    rw [if_neg h1]
    rcases (show j = 0 ∨ j = 1 by omega) with rfl | rfl
    · exact ⟨(gF S).1, w, w, by rw [if_pos (show nI 0 = 0 from rfl), s2.2.2.2.1.1], by dsimp only; rw [if_pos (show nI 0 = 0 from rfl), s3.2.2.2.1.1], h⟩
    · exact ⟨(gF S).2, w, w, by rw [if_neg (show ¬ nI 1 = 0 by decide), s2.2.2.2.1.2], by dsimp only; rw [if_neg (show ¬ nI 1 = 0 by decide), if_pos (show nI 1 = 1 from rfl), s3.2.2.2.1.2], h⟩
theorem op_status {w : Mm} (h : INV w) (x : Int32) : OKi (some (fX11_status w x)) (fun w => fX12_status w x) := by
  unfold fX11_status fX12_status
  rcases rg_0_2 x with ⟨h1, h2⟩ | ⟨j, -, hj, rfl, h1, h2⟩
  · have hx := within_iff.mp h1
    have h0 : ¬ x = 0 := fun z => by subst z; rcases hx with z | z <;> exact absurd z (by decide)
    have h3 : ¬ x = 1 := fun z => by subst z; rcases hx with z | z <;> exact absurd z (by decide)
    have h4 : ¬ x = 2 := fun z => by subst z; rcases hx with z | z <;> exact absurd z (by decide)
    refine ⟨-1, (fX11_bad w (-1)).2, (fX12_bad (fX11_bad w (-1)).2 (-1)).2, ?_, ?_, bad_both (-1) h⟩
    · rw [if_neg h0, if_neg h3, if_neg h4]; rfl
    · dsimp only; rw [if_pos h2]; rfl
  · obtain ⟨S, s1, s2, s3⟩ := id h
    simp only [if_neg h2]
    rcases (show j = 0 ∨ j = 1 ∨ j = 2 by omega) with rfl | rfl | rfl
    · exact ok_q h (r := (gS S).1) (by rw [if_pos (show nI 0 = 0 from rfl), s2.2.2.2.2.1]) (by rw [rdA_n (by decide) (by decide), bS, s3.2.2.2.2.1])
    · exact ok_q h (r := (gS S).2.1) (by rw [if_neg (show ¬ nI 1 = 0 by decide), if_pos (show nI 1 = 1 from rfl), s2.2.2.2.2.2.1]) (by rw [rdA_n (by decide) (by decide), bS, s3.2.2.2.2.2.1])
    · exact ok_q h (r := (gS S).2.2) (by rw [if_neg (show ¬ nI 2 = 0 by decide), if_neg (show ¬ nI 2 = 1 by decide), if_pos (show nI 2 = 2 from rfl), s2.2.2.2.2.2.2]) (by rw [rdA_n (by decide) (by decide), bS, s3.2.2.2.2.2.2])
/-- the seven counts -/
def sCo (S : GS) (j : Nat) : Nat := match j with
  | 0 => nn (vd (gV S))
  | 1 => fo (vd (gV S))
  | 2 => li (vd (gV S))
  | 3 => nW (gV S)
  | 4 => nR (gV S)
  | 5 => nS (gV S)
  | _ => gN S
theorem howMany_n {w : Mm} {S : GS} (h : CI w S) {j : Nat} (hj : j < 7) : fX11_howMany w (nI j) = nI (sCo S j) := by
  unfold fX11_howMany
  rcases (show j = 0 ∨ j = 1 ∨ j = 2 ∨ j = 3 ∨ j = 4 ∨ j = 5 ∨ j = 6 by omega) with rfl | rfl | rfl | rfl | rfl | rfl | rfl
  · rw [if_pos (show nI 0 = 0 from rfl)]; exact h.1.1.2.1
  · rw [if_neg (show ¬ nI 1 = 0 by decide), if_pos (show nI 1 = 1 from rfl)]; exact h.1.1.1
  · rw [if_neg (show ¬ nI 2 = 0 by decide), if_neg (show ¬ nI 2 = 1 by decide), if_pos (show nI 2 = 2 from rfl)]; exact h.1.1.2.2.1
  · rw [if_neg (show ¬ nI 3 = 0 by decide), if_neg (show ¬ nI 3 = 1 by decide), if_neg (show ¬ nI 3 = 2 by decide), if_pos (show nI 3 = 3 from rfl)]; exact h.1.2.1.1
  · rw [if_neg (show ¬ nI 4 = 0 by decide), if_neg (show ¬ nI 4 = 1 by decide), if_neg (show ¬ nI 4 = 2 by decide), if_neg (show ¬ nI 4 = 3 by decide), if_pos (show nI 4 = 4 from rfl)]; exact h.1.2.2.1.1
  · rw [if_neg (show ¬ nI 5 = 0 by decide), if_neg (show ¬ nI 5 = 1 by decide), if_neg (show ¬ nI 5 = 2 by decide), if_neg (show ¬ nI 5 = 3 by decide), if_neg (show ¬ nI 5 = 4 by decide), if_pos (show nI 5 = 5 from rfl)]; exact h.1.2.2.2.1
  · rw [if_neg (show ¬ nI 6 = 0 by decide), if_neg (show ¬ nI 6 = 1 by decide), if_neg (show ¬ nI 6 = 2 by decide), if_neg (show ¬ nI 6 = 3 by decide), if_neg (show ¬ nI 6 = 4 by decide), if_neg (show ¬ nI 6 = 5 by decide)]; exact h.2.2.1.1
theorem counted_n {w : Mm} {S : GS} (h : MI w S) {j : Nat} (hj : j < 7) : fX12_counted w (nI j) = some (nI (sCo S j)) := by
  unfold fX12_counted
  by_cases h6 : j = 6
  · subst h6
    rw [if_pos (show (6 : Int32) ≤ nI 6 by decide), h.2.2.1.1]; rfl
  · rw [if_neg (show ¬ (6 : Int32) ≤ nI j from nI_ge (b := 6) (by omega) (by decide)), rdA_n (by omega) (by decide), bS]
    rcases (show j = 0 ∨ j = 1 ∨ j = 2 ∨ j = 3 ∨ j = 4 ∨ j = 5 by omega) with rfl | rfl | rfl | rfl | rfl | rfl
    · rw [h.1.1.1]; rfl
    · rw [h.1.1.2.1]; rfl
    · rw [h.1.1.2.2.1]; rfl
    · rw [h.1.2.1.1]; rfl
    · rw [h.1.2.2.1.1]; rfl
    · rw [h.1.2.2.2.1]; rfl
theorem op_count {w : Mm} (h : INV w) (x : Int32) : OKi (some (fX11_count w x)) (fun w => fX12_count w x) := by
  unfold fX11_count fX12_count
  rcases rg_0_6 x with ⟨h1, h2⟩ | ⟨j, -, hj, rfl, h1, h2⟩
  · refine ⟨-2, (fX11_bad w (-2)).2, (fX12_bad (fX11_bad w (-2)).2 (-2)).2, ?_, ?_, bad_both (-2) h⟩
    · rw [if_pos h1]; rfl
    · dsimp only; rw [if_pos h2]; rfl
  · obtain ⟨S, s1, s2, s3⟩ := id h
    exact ok_q h (r := nI (sCo S j)) (by rw [if_neg h1, howMany_n s2 (by omega)]) (by rw [if_neg h2, counted_n s3 (by omega), bS])
theorem op_of {w : Mm} (h : INV w) (x y : Int32) : OKi (fX11_of w x y) (fun w => fX12_of w x y) := by
  obtain ⟨S, s1, s2, s3⟩ := id h
  have hv := s1.1.1
  have hn := hv.2.1
  unfold fX11_of fX12_of fX12_of_L20
  rcases rg_c (w := w) hn s2.1.1.2.1 s3.1.1.1 x with ⟨h1, h2⟩ | ⟨k, hk, rfl, h1, h2⟩
  · rw [if_pos h1]
    exact ok_bad' (-2) h (fun w' hw' => by rw [if_pos (h2 w' (by rw [hw' 78 (by decide)]; exact s3.1.1.1))])
  rw [if_neg h1]
  obtain ⟨p1, p2, p3, p4, p5⟩ := s2.1.1.2.2.2 k hk
  obtain ⟨q1, q2, q3, q4, q5⟩ := s3.1.1.2.2.2 k hk
  obtain ⟨k1, k2, k3, k4, k5, k6⟩ := hv.2.2.2 k hk
  have g : ∀ j v, j < 5 → w.1 78 (6 + 5 * k + j) = nI v → fX12_get w (nI k) (nI j) = some (nI v) := fun j v hj e => (mget_n (by omega) hj).trans (by rw [e])
  rcases rg_0_6 y with ⟨h3, h4⟩ | ⟨j, -, hj, rfl, h3, h4⟩
  · have hx := within_iff.mp h3
    have hz : ∀ j : Nat, j ≤ 6 → ¬ y = nI j := fun j hj z => by
      subst z
      rcases hx with z | z
      · exact nI_pos (by omega) z
      · exact nI_nlt (a := 6) hj (by decide) z
    rw [if_neg (show ¬ y = 0 from hz 0 (by decide)), if_neg (show ¬ y = 1 from hz 1 (by decide)), if_neg (show ¬ y = 2 from hz 2 (by decide)), if_neg (show ¬ y = 3 from hz 3 (by decide)), if_neg (show ¬ y = 4 from hz 4 (by decide)), if_neg (show ¬ y = 5 from hz 5 (by decide)), if_neg (show ¬ y = 6 from hz 6 (by decide))]
    exact ok_bad' (-2) h (fun w' hw' => by rw [if_neg (h2 w' (by rw [hw' 78 (by decide)]; exact s3.1.1.1)), if_pos h4])
  · have e2 := h2 w s3.1.1.1
    rcases (show j = 0 ∨ j = 1 ∨ j = 2 ∨ j = 3 ∨ j = 4 ∨ j = 5 ∨ j = 6 by omega) with rfl | rfl | rfl | rfl | rfl | rfl | rfl
    · exact ok_q h (r := nI (kd (vd (gV S)) k)) (by rw [if_pos (show nI 0 = 0 from rfl), rdA_n (by omega) (by decide), bS, show w.1 2 k = _ from p1]) (by rw [if_neg e2, if_neg h4, if_neg (show ¬ nI 0 = 5 by decide), if_neg (show ¬ nI 0 = 6 by decide), g 0 _ (by decide) q1, bS])
    · exact ok_q h (r := nI (ce (vd (gV S)) k)) (by rw [if_neg (show ¬ nI 1 = 0 by decide), if_pos (show nI 1 = 1 from rfl), rdA_n (by omega) (by decide), bS, show w.1 3 k = _ from p2]) (by rw [if_neg e2, if_neg h4, if_neg (show ¬ nI 1 = 5 by decide), if_neg (show ¬ nI 1 = 6 by decide), g 1 _ (by decide) q2, bS])
    · exact ok_q h (r := nI (he (vd (gV S)) k)) (by rw [if_neg (show ¬ nI 2 = 0 by decide), if_neg (show ¬ nI 2 = 1 by decide), if_pos (show nI 2 = 2 from rfl), rdA_n (by omega) (by decide), bS, show w.1 4 k = _ from p3]) (by rw [if_neg e2, if_neg h4, if_neg (show ¬ nI 2 = 5 by decide), if_neg (show ¬ nI 2 = 6 by decide), g 2 _ (by decide) q3, bS])
    · exact ok_q h (r := nI (ow (vd (gV S)) k)) (by rw [if_neg (show ¬ nI 3 = 0 by decide), if_neg (show ¬ nI 3 = 1 by decide), if_neg (show ¬ nI 3 = 2 by decide), if_pos (show nI 3 = 3 from rfl), rdA_n (by omega) (by decide), bS, show w.1 5 k = _ from p4]) (by rw [if_neg e2, if_neg h4, if_neg (show ¬ nI 3 = 5 by decide), if_neg (show ¬ nI 3 = 6 by decide), g 3 _ (by decide) q4, bS])
    · exact ok_q h (r := nI (ta (vd (gV S)) k)) (by rw [if_neg (show ¬ nI 4 = 0 by decide), if_neg (show ¬ nI 4 = 1 by decide), if_neg (show ¬ nI 4 = 2 by decide), if_neg (show ¬ nI 4 = 3 by decide), if_pos (show nI 4 = 4 from rfl), rdA_n (by omega) (by decide), bS, show w.1 6 k = _ from p5]) (by rw [if_neg e2, if_neg h4, if_neg (show ¬ nI 4 = 5 by decide), if_neg (show ¬ nI 4 = 6 by decide), g 4 _ (by decide) q5, bS])
    · have hS : li (vd (gV S)) < 2 ^ 31 := Nat.lt_of_lt_of_le hv.2.2.1 (Nat.pow_le_pow_right (by decide) (by omega))
      exact ok_q h (r := nI (li (vd (gV S)) / 2 ^ k % 2)) (by unfold fX8_litAt; rw [if_neg (show ¬ nI 5 = 0 by decide), if_neg (show ¬ nI 5 = 1 by decide), if_neg (show ¬ nI 5 = 2 by decide), if_neg (show ¬ nI 5 = 3 by decide), if_neg (show ¬ nI 5 = 4 by decide), if_pos (show nI 5 = 5 from rfl), show w.1 1 2 = _ from s2.1.1.2.2.1, nI_bit hS (by omega)]) (by rw [if_neg e2, if_neg h4, if_pos (show nI 5 = 5 from rfl), show w.1 78 2 = _ from s3.1.1.2.2.1, nI_bit hS (by omega)])
    · exact ok_q h (r := nI (sHrs (kd (vd (gV S)) k) (ta (vd (gV S)) k))) (by unfold fX3_hoursOf; rw [if_neg (show ¬ nI 6 = 0 by decide), if_neg (show ¬ nI 6 = 1 by decide), if_neg (show ¬ nI 6 = 2 by decide), if_neg (show ¬ nI 6 = 3 by decide), if_neg (show ¬ nI 6 = 4 by decide), if_neg (show ¬ nI 6 = 5 by decide), if_pos (show nI 6 = 6 from rfl), rdA_n (by omega) (by decide), bS, show w.1 2 k = _ from p1, rdR_n k1 (by decide), bS, rdA_n (by omega) (by decide), bS, show w.1 6 k = _ from p5, hours_n _ k1 _ (by omega), bS]) (by rw [if_neg e2, if_neg h4, if_neg (show ¬ nI 6 = 5 by decide), if_pos (show nI 6 = 6 from rfl), show fX12_get w (nI k) 0 = _ from g 0 _ (by decide) q1, bS, show fX12_get w (nI k) 4 = _ from g 4 _ (by decide) q5, bS, mhours_n _ k1 _ (by omega)])

/-- a refused call, from its two texts -/
theorem ok_full' {w : Mm} (h : INV w) {g : Mm → Option (Int32 × Mm)} (hg : ∀ w', (∀ o, 77 ≤ o → w'.1 o = w.1 o) → g w' = ob2 (some (fX12_full w')) fun a m => some (a, m)) : OKi (ob2 (some (fX11_full w)) fun a m => some (a, m)) g := by
  obtain ⟨r, w1, w2, q1, q2, q3⟩ := ok_full h
  refine ⟨r, w1, w2, q1, ?_, q3⟩
  have : w1 = (fX11_full w).2 := (congrArg Prod.snd (Option.some.inj q1)).symm
  rw [hg w1 (fun o ho => by rw [this]; exact sI_o _ (by omega))]
  exact q2
theorem ok_no' {w : Mm} (h : INV w) {g : Mm → Option (Int32 × Mm)} (hg : ∀ w', (∀ o, 77 ≤ o → w'.1 o = w.1 o) → g w' = ob2 (some (fX12_no w')) fun a m => some (a, m)) : OKi (ob2 (some (fX11_no w)) fun a m => some (a, m)) g := by
  obtain ⟨r, w1, w2, q1, q2, q3⟩ := ok_no h
  refine ⟨r, w1, w2, q1, ?_, q3⟩
  have : w1 = (fX11_no w).2 := (congrArg Prod.snd (Option.some.inj q1)).symm
  rw [hg w1 (fun o ho => by rw [this]; exact sI_o _ (by omega))]
  exact q2
theorem ok_bad' {w : Mm} (x : Int32) (h : INV w) {g : Mm → Option (Int32 × Mm)} (hg : ∀ w', (∀ o, 77 ≤ o → w'.1 o = w.1 o) → g w' = ob2 (some (fX12_bad w' x)) fun a m => some (a, m)) : OKi (ob2 (some (fX11_bad w x)) fun a m => some (a, m)) g := by
  obtain ⟨r, w1, w2, q1, q2, q3⟩ := ok_bad x h
  refine ⟨r, w1, w2, q1, ?_, q3⟩
  have : w1 = (fX11_bad w x).2 := (congrArg Prod.snd (Option.some.inj q1)).symm
  rw [hg w1 (fun o ho => by rw [this]; exact sI_o _ (by omega))]
  exact q2
theorem op_reading {w : Mm} (h : INV w) (x y z : Int32) : OKi (fX11_reading w x y z) (fun w => fX12_reading w x y z) := by
  unfold fX11_reading fX12_reading fX11_isCell fX12_isCell fX11_isHour fX12_isHour fX11_reading_L24 fX12_reading_L26
  rcases rg_0_63 x with ⟨h1, h2⟩ | ⟨c, -, hc, rfl, h1, h2⟩
  · rw [if_pos h1]; simp only [if_pos h2]; exact ok_bad (-2) h
  rw [if_neg h1]; simp only [if_neg h2]
  rcases rg_0_11 y with ⟨h1, h2⟩ | ⟨t, -, ht, rfl, h1, h2⟩
  · rw [if_pos h1]; simp only [if_pos h2]; exact ok_bad (-2) h
  rw [if_neg h1]; simp only [if_neg h2]
  rcases rg_0_23 z with ⟨h1, h2⟩ | ⟨v, -, hv, rfl, h1, h2⟩
  · rw [if_pos h1]; simp only [if_pos h2]; exact ok_bad (-2) h
  rw [if_neg h1]; simp only [if_neg h2]
  obtain ⟨⟨⟨d, Wr, ⟨nr, rc, rh, rl⟩, Ur⟩, Sr⟩, s1, s2, s3⟩ := id h
  have hw8 : w.1 1 10 = nI nr := s2.1.2.2.1.1
  have hm3 : w.1 78 4 = nI nr := s3.1.2.2.1.1
  have hnr : nr ≤ 6 := s1.1.2.2.1.1
  by_cases h6 : nr = 6
  · subst h6
    rw [hw8, if_neg (show ¬ nI 6 < 6 by decide)]
    exact ok_full' h (fun w' hw' => by rw [if_pos (by rw [hw' 78 (by decide), hm3]; rfl)])
  · rw [hw8, if_pos (show nI nr < 6 from nI_lt (b := 6) (by omega) (by decide))]
    unfold fX8_addReading
    have e8 : (sI w 8 nr (nI c)).1 1 10 = nI nr := by rw [sI_o _ (by decide)]; exact hw8
    have e9 : (sI (sI w 8 nr (nI c)) 9 nr (nI t)).1 1 10 = nI nr := by rw [sI_o _ (by decide)]; exact e8
    have e10 : (sI (sI (sI w 8 nr (nI c)) 9 nr (nI t)) 10 nr (nI v)).1 1 10 = nI nr := by rw [sI_o _ (by decide)]; exact e9
    have e11 : (sI (sI (sI (sI w 8 nr (nI c)) 9 nr (nI t)) 10 nr (nI v)) 1 10 (nI (nr + 1))).1 1 10 = nI (nr + 1) := by rw [sI_1, if_pos ⟨rfl, rfl⟩]
    rw [hw8, if_neg (show ¬ 6 ≤ nI nr from nI_ge (b := 6) (by omega) (by decide)), wrA_n (by omega) (by decide), bS]
    rw [show ((1 : Nat) + 7) = 8 from rfl, show ((1 : Nat) + 8) = 9 from rfl, show ((1 : Nat) + 9) = 10 from rfl]
    rw [e8, wrA_n (by omega) (by decide), bS, e9, wrA_n (by omega) (by decide), bS, bS, e10, nI_1, e11, oS]
    generalize hw1 : sI (sI (sI (sI w 8 nr (nI c)) 9 nr (nI t)) 10 nr (nI v)) 1 10 (nI (nr + 1)) = w1 at e11 ⊢
    have hf : ∀ o, o ≠ 1 → o ≠ 8 → o ≠ 9 → o ≠ 10 → w1.1 o = w.1 o := fun o o1 o2 o3 o4 => by rw [← hw1, sI_o _ o1, sI_o _ o4, sI_o _ o3, sI_o _ o2]
    have e : ∀ i, i ≠ 10 → w1.1 1 i = w.1 1 i := fun i hi => by rw [← hw1, sI_1, if_neg (fun z => hi z.2), sI_o _ (by decide), sI_o _ (by decide), sI_o _ (by decide)]
    have h2 : w1.2 = w.2 := by rw [← hw1]; rfl
    have m1 : MI w1 ((d, Wr, (nr, rc, rh, rl), Ur), Sr) := s3.mem (fun o ho => hf o (by omega) (by omega) (by omega) (by omega)) (by rw [h2])
    have e3 : w1.1 78 4 = nI nr := m1.1.2.2.1.1
    have e47 : 47 + 3 * nI nr = nI (47 + 3 * nr) := by rw [show (47 : Int32) = nI 47 from rfl, show (3 : Int32) = nI 3 from rfl, pk_mul, nI_add]
    refine ⟨nI (nr + 1), w1, sI (sI (sI (sI w1 78 (47 + 3 * nr) (nI c)) 78 (47 + 3 * nr + 1) (nI t)) 78 (47 + 3 * nr + 2) (nI v)) 78 4 (nI (nr + 1)), rfl, ?_, ⟨((d, Wr, (nr + 1, uN rc nr c, uN rh nr t, uN rl nr v), Ur), Sr), ?_, ?_, ?_⟩⟩
    · dsimp only
      rw [e3, if_neg (show ¬ nI nr = 6 from fun z => h6 ((nI_eq (b := 6) (by omega) (by decide)).mp z)), e47, show (1 : Int32) = nI 1 from rfl, show (2 : Int32) = nI 2 from rfl, nI_add, nI_add, wrA_n (by omega) (by decide), bS, wrA_n (by omega) (by decide), bS, wrA_n (by omega) (by decide), bS, bS]
      have e5 : (sI (sI (sI w1 78 (47 + 3 * nr) (nI c)) 78 (47 + 3 * nr + 1) (nI t)) 78 (47 + 3 * nr + 2) (nI v)).1 78 4 = nI nr := by rw [sI_1, if_neg (by omega), sI_1, if_neg (by omega), sI_1, if_neg (by omega)]; exact e3
      rw [e5, nI_add, sI_1, if_pos ⟨rfl, rfl⟩]
    · refine ⟨⟨s1.1.1, s1.1.2.1, ⟨by show nr + 1 ≤ 6; omega, fun i hi => ?_⟩, s1.1.2.2.2⟩, s1.2⟩
      show uN rc nr c i < 64 ∧ uN rh nr t i < 12 ∧ uN rl nr v i ≤ 23
      by_cases ei : i = nr
      · rw [ei, uN_s, uN_s, uN_s]; omega
      · rw [uN_n ei, uN_n ei, uN_n ei]; exact s1.1.2.2.1.2 i (by have : i < nr + 1 := hi; show i < nr; omega)
    · have c1 : CI w1 ((d, Wr, (nr + 1, uN rc nr c, uN rh nr t, uN rl nr v), Ur), Sr) := by
        refine s2.setV (fun o ho => hf o (by omega) (by omega) (by omega) (by omega)) (by rw [h2]) (CV_iff.mpr ?_)
        obtain ⟨a1, a2, a3, a4⟩ := CV_iff.mp s2.1
        refine ⟨a1.fr (e 0 (by decide)) (e 1 (by decide)) (e 2 (by decide)) (fun j _ _ => hf _ (by omega) (by omega) (by omega) (by omega)), a2.fr (e 8 (by decide)) (hf _ (by decide) (by decide) (by decide) (by decide)), ⟨e11, fun i hi => ?_⟩, a4.fr (e 14 (by decide)) (fun j _ _ => hf _ (by omega) (by omega) (by omega) (by omega))⟩
        have hi : i < nr + 1 := hi
        show w1.1 8 i = nI (uN rc nr c i) ∧ w1.1 9 i = nI (uN rh nr t i) ∧ w1.1 10 i = nI (uN rl nr v i)
        have b8 : w1.1 8 i = if i = nr then nI c else w.1 8 i := by rw [← hw1]; simp [sI_1]
        have b9 : w1.1 9 i = if i = nr then nI t else w.1 9 i := by rw [← hw1]; simp [sI_1]
        have b10 : w1.1 10 i = if i = nr then nI v else w.1 10 i := by rw [← hw1]; simp [sI_1]
        rw [b8, b9, b10]
        by_cases ei : i = nr
        · rw [if_pos ei, if_pos ei, if_pos ei, ei, uN_s, uN_s, uN_s]; exact ⟨rfl, rfl, rfl⟩
        · rw [if_neg ei, if_neg ei, if_neg ei, uN_n ei, uN_n ei, uN_n ei]
          exact a3.2 i (by show i < nr; omega)
      exact c1.mem (fun o ho => by rw [sI_o _ (by omega), sI_o _ (by omega), sI_o _ (by omega), sI_o _ (by omega)]) rfl
    · refine m1.setV (fun o ho => by rw [sI_o _ (by omega), sI_o _ (by omega), sI_o _ (by omega), sI_o _ (by omega)]) rfl (MV_iff.mpr ?_)
      rw [sI_78, sI_78, sI_78, sI_78]
      obtain ⟨a1, a2, a3, a4⟩ := MV_iff.mp m1.1
      generalize hq : upd (upd (upd (upd (w1.1 78) (47 + 3 * nr) (nI c)) (47 + 3 * nr + 1) (nI t)) (47 + 3 * nr + 2) (nI v)) 4 (nI (nr + 1)) = q
      have u : ∀ i, i ≠ 4 → i ≠ 47 + 3 * nr → i ≠ 47 + 3 * nr + 1 → i ≠ 47 + 3 * nr + 2 → q i = w1.1 78 i := fun i i1 i2 i3 i4 => by rw [← hq, pk_un i1, pk_un i4, pk_un i3, pk_un i2]
      refine ⟨a1.fr s1.1.1.2.1 (fun i hi => u i (by omega) (by omega) (by omega) (by omega)), a2.fr s1.1.2.1.1 (fun i hi => u i (by omega) (by omega) (by omega) (by omega)), ⟨by rw [← hq]; exact pk_us, fun i hi => ?_⟩, a4.fr s1.1.1.2.1 (fun i hi => u i (by omega) (by omega) (by omega) (by omega))⟩
      have hi : i < nr + 1 := hi
      show _ = nI (uN rc nr c i) ∧ _ = nI (uN rh nr t i) ∧ _ = nI (uN rl nr v i)
      by_cases ei : i = nr
      · subst ei
        rw [← hq, uN_s, uN_s, uN_s, pk_un (by omega), pk_un (by omega), pk_un (by omega), pk_us, pk_un (by omega), pk_un (by omega), pk_us, pk_un (by omega), pk_us]
        exact ⟨rfl, rfl, rfl⟩
      · rw [uN_n ei, uN_n ei, uN_n ei, u _ (by omega) (by omega) (by omega) (by omega), u _ (by omega) (by omega) (by omega) (by omega), u _ (by omega) (by omega) (by omega) (by omega)]
        exact a3.2 i (by show i < nr; omega)
/-! the text -/
theorem CI.setT {w w' : Mm} {S : GS} {n : Nat} {b : Nat → Nat} (h : CI w S) (hf : ∀ o, (o ≤ 36 ∨ o = 50) → w'.1 o = w.1 o) (h2 : w'.2 0 = w.2 0) (hn : w'.1 51 1 = nI n) (hb : ∀ i, i < n → w'.1 52 i = nI (b i)) : CI w' (S.1, S.2.1, (n, b), S.2.2.2) := by
  obtain ⟨a1, a2, a3, a4, a5⟩ := h
  refine ⟨a1.fr (fun j hj => hf _ (by omega)), fun i hi => ?_, ⟨hn, hb⟩, ?_, ?_⟩
  · rw [hf 50 (by decide)]
    exact ⟨(a2 i hi).1, fun V hV => ⟨((a2 i hi).2 V hV).1, ((a2 i hi).2 V hV).2.fr (fun j hj => hf _ (by omega))⟩⟩
  · rw [h2]; exact a4
  · rw [hf 0 (by decide)]; exact a5
theorem MI.setT {w w' : Mm} {S : GS} {n : Nat} {b : Nat → Nat} (h : MI w S) (hf : ∀ o, (o = 78 ∨ o = 79 ∨ o = 80 ∨ o = 81) → w'.1 o = w.1 o) (h2 : w'.2 77 = w.2 77) (hn : w'.1 77 16 = nI n) (hb : ∀ i, i < n → w'.1 89 i = nI (b i)) : MI w' (S.1, S.2.1, (n, b), S.2.2.2) := by
  obtain ⟨a1, a2, a3, a4, a5⟩ := h
  refine ⟨by rw [hf 78 (by decide)]; exact a1, fun i hi => ?_, ⟨hn, hb⟩, ?_, ?_⟩
  · rw [hf 80 (by decide), hf 79 (by decide)]; exact a2 i hi
  · rw [h2]; exact a4
  · rw [hf 81 (by decide)]; exact a5
theorem op_clear {w : Mm} (h : INV w) : OKi (some (fX11_clear w)) (fun w => some (fX12_clear w)) := by
  obtain ⟨S, s1, s2, s3⟩ := h
  have m1 : MI (sI w 51 1 0) S := s3.mem (fun o ho => sI_o _ (by omega)) rfl
  refine ⟨nI (gN S), sI w 51 1 0, sI (sI w 51 1 0) 77 16 0, ?_, ?_, ⟨(S.1, S.2.1, (0, gB S), S.2.2.2), ?_, ?_, ?_⟩⟩
  · unfold fX11_clear; rw [s2.2.2.1.1]
  · unfold fX12_clear; dsimp only; rw [m1.2.2.1.1]
  · exact ⟨s1.1, s1.2.1, Nat.zero_le _, fun i hi => absurd hi (by show ¬ i < 0; omega)⟩
  · have c1 : CI (sI w 51 1 0) (S.1, S.2.1, (0, gB S), S.2.2.2) := s2.setT (fun o ho => sI_o _ (by omega)) rfl (by rw [sI_1, if_pos ⟨rfl, rfl⟩]; rfl) (fun i hi => absurd hi (by omega))
    exact c1.mem (fun o ho => sI_o _ (by omega)) rfl
  · exact m1.setT (fun o ho => sI_o _ (by omega)) rfl (by rw [sI_1, if_pos ⟨rfl, rfl⟩]; rfl) (fun i hi => absurd hi (by omega))
theorem byte_n : ∀ j, j < 128 → vp_nar .byte ((nI j).toInt8.toInt32) = nI j := by decide +kernel
theorem op_type {w : Mm} (h : INV w) (x : Int32) : OKi (fX11_type w x) (fun w => fX12_type w x) := by
  unfold fX11_type fX12_type
  rcases rg_0_127 x with ⟨h1, h2⟩ | ⟨c, -, hc, rfl, h1, h2⟩
  · rw [if_pos h1]; simp only [if_pos h2]; exact ok_bad (-2) h
  rw [if_neg h1]; simp only [if_neg h2]
  obtain ⟨S, s1, s2, s3⟩ := id h
  have hn := s1.2.2.1
  have e1 : w.1 51 1 = nI (gN S) := s2.2.2.1.1
  have e2 : w.1 77 16 = nI (gN S) := s3.2.2.1.1
  by_cases h6 : gN S = 150
  · rw [e1, h6, if_neg (show ¬ nI 150 < 150 by decide)]
    exact ok_full' h (fun w' hw' => by rw [if_pos (by rw [hw' 77 (by decide), e2, h6]; rfl)])
  · rw [e1, if_pos (show nI (gN S) < 150 from nI_lt (b := 150) (by omega) (by decide))]
    unfold fX5_append
    rw [e1, if_neg (show ¬ 150 ≤ nI (gN S) from nI_ge (b := 150) (by omega) (by decide)), wrA_n (by omega) (by decide), bS, byte_n c (by omega), bS]
    have e3 : (sI w 52 (gN S) (nI c)).1 51 1 = nI (gN S) := by rw [sI_o _ (by decide)]; exact e1
    rw [e3, nI_1, sI_1, if_pos ⟨rfl, rfl⟩, oS]
    generalize hw1 : sI (sI w 52 (gN S) (nI c)) 51 1 (nI (gN S + 1)) = w1
    have hf : ∀ o, o ≠ 51 → o ≠ 52 → w1.1 o = w.1 o := fun o o1 o2 => by rw [← hw1, sI_o _ o1, sI_o _ o2]
    have h2 : w1.2 = w.2 := by rw [← hw1]; rfl
    have m1 : MI w1 S := s3.mem (fun o ho => hf o (by omega) (by omega)) (by rw [h2])
    have e4 : w1.1 77 16 = nI (gN S) := m1.2.2.1.1
    refine ⟨nI (gN S + 1), w1, sI (sI w1 89 (gN S) (nI c)) 77 16 (nI (gN S + 1)), rfl, ?_, ⟨(S.1, S.2.1, (gN S + 1, uN (gB S) (gN S) c), S.2.2.2), ?_, ?_, ?_⟩⟩
    · dsimp only
      rw [e4, if_neg (show ¬ nI (gN S) = 150 from fun z => h6 ((nI_eq (b := 150) (by omega) (by decide)).mp z)), wrA_n (by omega) (by decide), bS, bS]
      have e5 : (sI w1 89 (gN S) (nI c)).1 77 16 = nI (gN S) := by rw [sI_o _ (by decide)]; exact e4
      rw [e5, nI_1, sI_1, if_pos ⟨rfl, rfl⟩]
    · refine ⟨s1.1, s1.2.1, by show gN S + 1 ≤ 150; omega, fun i hi => ?_⟩
      have hi : i < gN S + 1 := hi
      show uN (gB S) (gN S) c i < 128
      by_cases ei : i = gN S
      · rw [ei, uN_s]; omega
      · rw [uN_n ei]; exact s1.2.2.2 i (by omega)
    · have c1 : CI w1 (S.1, S.2.1, (gN S + 1, uN (gB S) (gN S) c), S.2.2.2) := s2.setT (fun o ho => hf o (by omega) (by omega)) (by rw [h2]) (by rw [← hw1, sI_1, if_pos ⟨rfl, rfl⟩]) (fun i hi => by
        rw [← hw1, sI_o _ (by decide), sI_1]
        by_cases ei : i = gN S
        · rw [if_pos ⟨rfl, ei⟩, ei, uN_s]
        · rw [if_neg (fun z => ei z.2), uN_n ei]; exact s2.2.2.1.2 i (by omega))
      exact c1.mem (fun o ho => by rw [sI_o _ (by omega), sI_o _ (by omega)]) rfl
    · exact m1.setT (fun o ho => by rw [sI_o _ (by omega), sI_o _ (by omega)]) rfl (by rw [sI_1, if_pos ⟨rfl, rfl⟩]) (fun i hi => by
        rw [sI_o _ (by decide), sI_1]
        by_cases ei : i = gN S
        · rw [if_pos ⟨rfl, ei⟩, ei, uN_s]
        · rw [if_neg (fun z => ei z.2), uN_n ei]; exact m1.2.2.1.2 i (by omega))

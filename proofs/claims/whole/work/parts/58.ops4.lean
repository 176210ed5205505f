/-! ===== a candle comes ===== -/
theorem pow_lt7 {n k : Nat} (h : n ≤ 7) (hk : k < 2 ^ n) : k < 2 ^ 31 := Nat.lt_of_lt_of_le hk (Nat.pow_le_pow_right (by decide) (by omega))
theorem or_bit_lt {l n : Nat} (h : l < 2 ^ n) : l ||| 2 ^ n < 2 ^ (n + 1) :=
  Nat.or_lt_two_pow (Nat.lt_of_lt_of_le h (Nat.pow_le_pow_right (by decide) (by omega))) (Nat.pow_lt_pow_right (by decide) (by omega))
/-- the candles with one more -/
def addD (d : VD) (k c h o t : Nat) : VD := (fo d, nn d + 1, li d ||| 2 ^ nn d, uN (kd d) (nn d) k, uN (ce d) (nn d) c, uN (he d) (nn d) h, uN (ow d) (nn d) o, uN (ta d) (nn d) t)
theorem addD_ok {d : VD} (hv : VOK d) (hn : nn d < 7) {k c h o t : Nat} (h1 : k < 6) (h2 : c < 64) (h3 : 1 ≤ h ∧ h ≤ 20) (h4 : o < 4) (h5 : t ≤ 12) : VOK (addD d k c h o t) := by
  refine ⟨hv.1, by show nn d + 1 ≤ 7; omega, or_bit_lt hv.2.2.1, fun i hi => ?_⟩
  have hi : i < nn d + 1 := hi
  show uN (kd d) (nn d) k i < 6 ∧ uN (ce d) (nn d) c i < 64 ∧ 1 ≤ uN (he d) (nn d) h i ∧ uN (he d) (nn d) h i ≤ 20 ∧ uN (ow d) (nn d) o i < 4 ∧ uN (ta d) (nn d) t i ≤ 12
  by_cases e : i = nn d
  · rw [e, uN_s, uN_s, uN_s, uN_s, uN_s]; exact ⟨h1, h2, h3.1, h3.2, h4, h5⟩
  · rw [uN_n e, uN_n e, uN_n e, uN_n e, uN_n e]; exact hv.2.2.2 i (by omega)
theorem add_ok {w : Mm} {v : Nat} {d : VD} (ha : CVa w v d) (hv : VOK d) (hn : nn d < 7) {k c h o t : Nat} : ∃ w', fX8_add v w (nI k) (nI c) (nI h) (nI o) (nI t) = some (nI (nn d), w') ∧ Fr [v, v + 1, v + 2, v + 3, v + 4, v + 5] w w' ∧ CVa w' v (addD d k c h o t) ∧ w'.1 v 14 = 0 ∧ w'.1 v 8 = w.1 v 8 ∧ w'.1 v 10 = w.1 v 10 := by
  obtain ⟨a1, a2, a3, a4⟩ := ha
  have hl := pow_lt7 hv.2.1 hv.2.2.1
  unfold fX8_add
  rw [a2, if_pos (show nI (nn d) < 7 from nI_lt (b := 7) (by omega) (by decide)), wrA_n (by omega) (by decide), bS, wrA_n (by omega) (by decide), bS, wrA_n (by omega) (by decide), bS, wrA_n (by omega) (by decide), bS, wrA_n (by omega) (by decide), bS, bS, bS, bS]
  have e2 : (sI (sI (sI (sI (sI w (v + 1) (nn d) (nI k)) (v + 2) (nn d) (nI c)) (v + 3) (nn d) (nI h)) (v + 4) (nn d) (nI o)) (v + 5) (nn d) (nI t)).1 v 2 = nI (li d) := by
    rw [sI_o _ (by omega), sI_o _ (by omega), sI_o _ (by omega), sI_o _ (by omega), sI_o _ (by omega)]; exact a3
  rw [e2, nI_shl (by omega), nI_or hl (Nat.pow_lt_pow_right (by decide) (by omega)), nI_1]
  generalize hm : sI (sI (sI (sI (sI w (v + 1) (nn d) (nI k)) (v + 2) (nn d) (nI c)) (v + 3) (nn d) (nI h)) (v + 4) (nn d) (nI o)) (v + 5) (nn d) (nI t) = m
  have hmv : m.1 v = w.1 v := by rw [← hm, sI_o _ (by omega), sI_o _ (by omega), sI_o _ (by omega), sI_o _ (by omega), sI_o _ (by omega)]
  have hmo : ∀ o', o' ∉ [v + 1, v + 2, v + 3, v + 4, v + 5] → m.1 o' = w.1 o' := fun o' ho => by
    simp only [List.mem_cons, List.not_mem_nil, or_false] at ho
    rw [← hm, sI_o _ (by omega), sI_o _ (by omega), sI_o _ (by omega), sI_o _ (by omega), sI_o _ (by omega)]
  have hm2 : m.2 = w.2 := by rw [← hm]; rfl
  have b1 : ∀ i, m.1 (v + 1) i = if i = nn d then nI k else w.1 (v + 1) i := fun i => by rw [← hm, sI_o _ (by omega), sI_o _ (by omega), sI_o _ (by omega), sI_o _ (by omega), sI_1]; simp
  have b2 : ∀ i, m.1 (v + 2) i = if i = nn d then nI c else w.1 (v + 2) i := fun i => by rw [← hm, sI_o _ (by omega), sI_o _ (by omega), sI_o _ (by omega), sI_1, sI_o _ (by omega)]; simp
  have b3 : ∀ i, m.1 (v + 3) i = if i = nn d then nI h else w.1 (v + 3) i := fun i => by rw [← hm, sI_o _ (by omega), sI_o _ (by omega), sI_1, sI_o _ (by omega), sI_o _ (by omega)]; simp
  have b4 : ∀ i, m.1 (v + 4) i = if i = nn d then nI o else w.1 (v + 4) i := fun i => by rw [← hm, sI_o _ (by omega), sI_1, sI_o _ (by omega), sI_o _ (by omega), sI_o _ (by omega)]; simp
  have b5 : ∀ i, m.1 (v + 5) i = if i = nn d then nI t else w.1 (v + 5) i := fun i => by rw [← hm, sI_1, sI_o _ (by omega), sI_o _ (by omega), sI_o _ (by omega), sI_o _ (by omega)]; simp
  have f : ∀ o', o' ≠ v → (sI (sI (sI m v 2 (nI (li d ||| 2 ^ nn d))) v 1 (nI (nn d + 1))) v 14 0).1 o' = m.1 o' := fun o' ho => by rw [sI_o _ ho, sI_o _ ho, sI_o _ ho]
  refine ⟨_, rfl, ⟨fun o' ho => ?_, hm2⟩, ⟨?_, ?_, ?_, fun i hi => ?_⟩, ?_, ?_, ?_⟩
  · have h9 : o' ≠ v ∧ o' ∉ [v + 1, v + 2, v + 3, v + 4, v + 5] := by simp only [List.mem_cons, List.not_mem_nil, or_false] at ho ⊢; omega
    rw [f o' h9.1, hmo o' h9.2]
  · rw [sI_1, if_neg (by omega), sI_1, if_neg (by omega), sI_1, if_neg (by omega), hmv]; exact a1
  · rw [sI_1, if_neg (by omega), sI_1, if_pos ⟨rfl, rfl⟩]; rfl
  · rw [sI_1, if_neg (by omega), sI_1, if_neg (by omega), sI_1, if_pos ⟨rfl, rfl⟩]; rfl
  · have hi : i < nn d + 1 := hi
    show _ = nI (uN (kd d) (nn d) k i) ∧ _ = nI (uN (ce d) (nn d) c i) ∧ _ = nI (uN (he d) (nn d) h i) ∧ _ = nI (uN (ow d) (nn d) o i) ∧ _ = nI (uN (ta d) (nn d) t i)
    rw [f _ (by omega), f _ (by omega), f _ (by omega), f _ (by omega), f _ (by omega), b1, b2, b3, b4, b5]
    by_cases e : i = nn d
    · rw [if_pos e, if_pos e, if_pos e, if_pos e, if_pos e, e, uN_s, uN_s, uN_s, uN_s, uN_s]; exact ⟨rfl, rfl, rfl, rfl, rfl⟩
    · rw [if_neg e, if_neg e, if_neg e, if_neg e, if_neg e, uN_n e, uN_n e, uN_n e, uN_n e, uN_n e]; exact a4 i (by omega)
  · rw [sI_1, if_pos ⟨rfl, rfl⟩]
  · rw [sI_1, if_neg (by omega), sI_1, if_neg (by omega), sI_1, if_neg (by omega), hmv]
  · rw [sI_1, if_neg (by omega), sI_1, if_neg (by omega), sI_1, if_neg (by omega), hmv]
theorem upd_at (f : Nat → Int32) (k : Nat) (x : Int32) (j : Nat) : upd f k x j = if j = k then x else f j := rfl
theorem sI_s (w : Mm) (a i : Nat) (v : Int32) : (sI w a i v).1 a = upd (w.1 a) i v := by simp [sI, sA]
theorem layCandle_ok {w : Mm} {a n : Nat} (hn0 : 65 ≤ n) (hn1 : n < 2 ^ 31) {d : VD} (ha : MVa (w.1 a) d) (hv : VOK d) (hn : nn d < 7) {k c h o t : Nat} : ∃ w', fX12_layCandle a n w (nI k) (nI c) (nI h) (nI o) (nI t) = some w' ∧ Fr [a] w w' ∧ MVa (w'.1 a) (addD d k c h o t) ∧ ∀ i, (i = 3 ∨ i = 4 ∨ i = 5 ∨ 41 ≤ i) → w'.1 a i = w.1 a i := by
  obtain ⟨a1, a2, a3, a4⟩ := ha
  have hl := pow_lt7 hv.2.1 hv.2.2.1
  have r0 : ∀ m : Mm, rdA m a n 0 = some (m.1 a 0) := fun m => rdA_n (j := 0) (by omega) hn1
  have r2 : ∀ m : Mm, rdA m a n 2 = some (m.1 a 2) := fun m => rdA_n (j := 2) (by omega) hn1
  have w0' : ∀ (m : Mm) (x : Int32), wrA m a n 0 x = some (sI m a 0 x) := fun m x => wrA_n (j := 0) (by omega) hn1
  have w2' : ∀ (m : Mm) (x : Int32), wrA m a n 2 x = some (sI m a 2 x) := fun m x => wrA_n (j := 2) (by omega) hn1
  have i0 : ∀ j, (6 + 5 * nI (nn d)) + nI j = nI (6 + 5 * nn d + j) := fun j => nI_5k _ _
  have ww : ∀ (m : Mm) (j : Nat) (x : Int32), j < 5 → wrA m a n ((6 + 5 * nI (nn d)) + nI j) x = some (sI m a (6 + 5 * nn d + j) x) := fun m j x hj => by rw [i0]; exact wrA_n (by omega) hn1
  unfold fX12_layCandle
  rw [r0, bS, a1, show wrA w a n ((6 + 5 * nI (nn d)) + 0) (nI k) = _ from ww w 0 _ (by decide), bS, show ∀ m, wrA m a n ((6 + 5 * nI (nn d)) + 1) (nI c) = _ from fun m => ww m 1 _ (by decide), bS, show ∀ m, wrA m a n ((6 + 5 * nI (nn d)) + 2) (nI h) = _ from fun m => ww m 2 _ (by decide), bS, show ∀ m, wrA m a n ((6 + 5 * nI (nn d)) + 3) (nI o) = _ from fun m => ww m 3 _ (by decide), bS, show ∀ m, wrA m a n ((6 + 5 * nI (nn d)) + 4) (nI t) = _ from fun m => ww m 4 _ (by decide), bS]
  generalize hm : sI (sI (sI (sI (sI w a (6 + 5 * nn d + 0) (nI k)) a (6 + 5 * nn d + 1) (nI c)) a (6 + 5 * nn d + 2) (nI h)) a (6 + 5 * nn d + 3) (nI o)) a (6 + 5 * nn d + 4) (nI t) = m
  have hq : ∀ i, m.1 a i = if i = 6 + 5 * nn d + 4 then nI t else if i = 6 + 5 * nn d + 3 then nI o else if i = 6 + 5 * nn d + 2 then nI h else if i = 6 + 5 * nn d + 1 then nI c else if i = 6 + 5 * nn d then nI k else w.1 a i := fun i => by
    rw [← hm, sI_1, sI_1, sI_1, sI_1, sI_1]; simp only [true_and, Nat.add_zero]
  have hmo : ∀ o', o' ≠ a → m.1 o' = w.1 o' := fun o' ho => by rw [← hm, sI_o _ ho, sI_o _ ho, sI_o _ ho, sI_o _ ho, sI_o _ ho]
  have hm2 : m.2 = w.2 := by rw [← hm]; rfl
  have q0 : m.1 a 0 = nI (nn d) := by rw [hq]; rw [if_neg (by omega), if_neg (by omega), if_neg (by omega), if_neg (by omega), if_neg (by omega)]; exact a1
  have q2 : m.1 a 2 = nI (li d) := by rw [hq]; rw [if_neg (by omega), if_neg (by omega), if_neg (by omega), if_neg (by omega), if_neg (by omega)]; exact a3
  have q3 : ∀ x, (sI m a 2 x).1 a 0 = nI (nn d) := fun x => by rw [sI_1, if_neg (by omega)]; exact q0
  rw [r2, bS, r0, bS, q2, q0, w2', bS, r0, bS, q3, w0', bS, nI_shl (by omega), nI_or hl (Nat.pow_lt_pow_right (by decide) (by omega)), nI_1]
  have hz : ∀ i, i ≠ 0 → i ≠ 2 → (sI (sI m a 2 (nI (li d ||| 2 ^ nn d))) a 0 (nI (nn d + 1))).1 a i = m.1 a i := fun i i1 i2 => by rw [sI_1, if_neg (by omega), sI_1, if_neg (by omega)]
  refine ⟨_, rfl, ⟨fun o' ho => ?_, hm2⟩, ⟨?_, ?_, ?_, fun i hi => ?_⟩, fun i hi => ?_⟩
  · have h9 : o' ≠ a := fun z => ho (by rw [z]; exact List.mem_cons_self)
    rw [sI_o _ h9, sI_o _ h9, hmo o' h9]
  · rw [sI_1, if_pos ⟨rfl, rfl⟩]; rfl
  · rw [hz 1 (by decide) (by decide), hq, if_neg (by omega), if_neg (by omega), if_neg (by omega), if_neg (by omega), if_neg (by omega)]; exact a2
  · rw [sI_1, if_neg (by omega), sI_1, if_pos ⟨rfl, rfl⟩]; rfl
  · have hi : i < nn d + 1 := hi
    show _ = nI (uN (kd d) (nn d) k i) ∧ _ = nI (uN (ce d) (nn d) c i) ∧ _ = nI (uN (he d) (nn d) h i) ∧ _ = nI (uN (ow d) (nn d) o i) ∧ _ = nI (uN (ta d) (nn d) t i)
    rw [hz _ (by omega) (by omega), hz _ (by omega) (by omega), hz _ (by omega) (by omega), hz _ (by omega) (by omega), hz _ (by omega) (by omega), hq, hq, hq, hq, hq]
    by_cases e : i = nn d
    · subst e
      rw [uN_s, uN_s, uN_s, uN_s, uN_s]
      refine ⟨?_, ?_, ?_, ?_, ?_⟩
      · rw [if_neg (by omega), if_neg (by omega), if_neg (by omega), if_neg (by omega), if_pos rfl]
      · rw [if_neg (by omega), if_neg (by omega), if_neg (by omega), if_pos rfl]
      · rw [if_neg (by omega), if_neg (by omega), if_pos rfl]
      · rw [if_neg (by omega), if_pos rfl]
      · rw [if_pos rfl]
    · rw [uN_n e, uN_n e, uN_n e, uN_n e, uN_n e]
      obtain ⟨z1, z2, z3, z4, z5⟩ := a4 i (by omega)
      refine ⟨?_, ?_, ?_, ?_, ?_⟩
      · rw [if_neg (by omega), if_neg (by omega), if_neg (by omega), if_neg (by omega), if_neg (by omega)]; exact z1
      · rw [if_neg (by omega), if_neg (by omega), if_neg (by omega), if_neg (by omega), if_neg (by omega)]; exact z2
      · rw [if_neg (by omega), if_neg (by omega), if_neg (by omega), if_neg (by omega), if_neg (by omega)]; exact z3
      · rw [if_neg (by omega), if_neg (by omega), if_neg (by omega), if_neg (by omega), if_neg (by omega)]; exact z4
      · rw [if_neg (by omega), if_neg (by omega), if_neg (by omega), if_neg (by omega), if_neg (by omega)]; exact z5
  · rw [hz i (by omega) (by omega), hq, if_neg (by omega), if_neg (by omega), if_neg (by omega), if_neg (by omega), if_neg (by omega)]
theorem op_candle {w : Mm} (h : INV w) (x1 x2 x3 x4 x5 : Int32) : OKi (fX11_candle w x1 x2 x3 x4 x5) (fun w => fX12_candle w x1 x2 x3 x4 x5) := by
  unfold fX11_candle fX12_candle fX11_isCell fX12_isCell fX12_isLight fX11_isOwner fX12_isOwner fX11_candle_L45 fX12_candle_L47
  rcases rg_0_5 x1 with ⟨h1, h2⟩ | ⟨k, -, hk, rfl, h1, h2⟩
  · rw [if_pos h1]; simp only [if_pos h2]; exact ok_bad (-2) h
  rw [if_neg h1]; simp only [if_neg h2]
  rcases rg_0_63 x2 with ⟨h1, h2⟩ | ⟨c, -, hc, rfl, h1, h2⟩
  · rw [if_pos h1]; simp only [if_pos h2]; exact ok_bad (-2) h
  rw [if_neg h1]; simp only [if_neg h2]
  rcases rg_1_20 x3 with ⟨h1, h2⟩ | ⟨t, ht1, ht, rfl, h1, h2⟩
  · rw [if_pos h1]; simp only [if_pos h2]; exact ok_bad (-2) h
  rw [if_neg h1]; simp only [if_neg h2]
  rcases rg_0_3 x4 with ⟨h1, h2⟩ | ⟨o, -, ho, rfl, h1, h2⟩
  · rw [if_pos h1]; simp only [if_pos h2]; exact ok_bad (-2) h
  rw [if_neg h1]; simp only [if_neg h2]
  rcases rg_0_12 x5 with ⟨h1, h2⟩ | ⟨l, -, hl, rfl, h1, h2⟩
  · rw [if_pos h1]; simp only [if_pos h2]; exact ok_bad (-2) h
  rw [if_neg h1]; simp only [if_neg h2]
  obtain ⟨⟨⟨d, Wr, Rr, ⟨ns, oc, ol⟩⟩, Sr⟩, s1, s2, s3⟩ := id h
  have hv : VOK d := s1.1.1
  have hn := hv.2.1
  have c1 : w.1 1 1 = nI (nn d) := s2.1.1.2.1
  have m1 : w.1 78 0 = nI (nn d) := s3.1.1.1
  by_cases h7 : nn d = 7
  · rw [c1, h7, if_neg (show ¬ nI 7 < 7 by decide)]
    exact ok_full' h (fun w' hw' => by unfold fX12_candles; rw [if_pos (by rw [hw' 78 (by decide), m1, h7]; rfl)])
  · rw [c1, if_pos (show nI (nn d) < 7 from nI_lt (b := 7) (by omega) (by decide))]
    obtain ⟨a1, a2, a3, a4⟩ := CV_iff.mp s2.1
    obtain ⟨w1, e1, e2, e3, e4, e5, e6⟩ := add_ok (d := d) (k := k) (c := c) (h := t) (o := o) (t := l) a1 hv (by omega)
    rw [e1, oS]
    have hf : ∀ o', 7 ≤ o' → w1.1 o' = w.1 o' := fun o' ho' => e2.1 o' (by simp only [List.mem_cons, List.not_mem_nil, or_false]; omega)
    have f0 : w1.1 0 = w.1 0 := e2.1 0 (by decide)
    have m2 : MI w1 ((d, Wr, Rr, (ns, oc, ol)), Sr) := s3.mem (fun o' ho' => hf o' (by omega)) (by rw [e2.2])
    obtain ⟨b1, b2, b3, b4⟩ := MV_iff.mp m2.1
    obtain ⟨w2, g1, g2, g3, g4⟩ := layCandle_ok (d := d) (a := 78) (n := 129) (by decide) (by decide) (k := k) (c := c) (h := t) (o := o) (t := l) b1 hv (by omega)
    have m3 : w1.1 78 0 = nI (nn d) := m2.1.1.1
    have q0 : (sI w2 78 5 0).1 78 0 = nI (nn d + 1) := by rw [sI_1, if_neg (by decide)]; exact g3.1
    refine ⟨nI (nn d), w1, sI w2 78 5 0, rfl, ?_, ⟨((addD d k c t o l, Wr, Rr, (0, oc, ol)), Sr), ?_, ?_, ?_⟩⟩
    · dsimp only
      unfold fX12_candles
      rw [m3, if_neg (show ¬ nI (nn d) = 7 from fun z => h7 ((nI_eq (b := 7) (by omega) (by decide)).mp z)), g1, bS, bS, q0, nI_pred]
    · exact ⟨⟨addD_ok hv (by omega) (by omega) (by omega) ⟨by omega, by omega⟩ (by omega) (by omega), s1.1.2.1, s1.1.2.2.1, ⟨Nat.zero_le _, fun s hs => absurd hs (by show ¬ s < 0; omega)⟩⟩, s1.2⟩
    · have cc : CI w1 ((addD d k c t o l, Wr, Rr, (0, oc, ol)), Sr) := by
        refine s2.setV (fun o' ho' => ?_) (by rw [e2.2]) (CV_iff.mpr ⟨e3, a2.fr e5 (hf _ (by decide)), a3.fr e6 (fun j _ _ => hf _ (by omega)), ⟨e4, fun s hs => absurd hs (by show ¬ s < 0; omega)⟩⟩)
        rcases Nat.eq_zero_or_pos o' with z | z
        · rw [z]; exact f0
        · exact hf o' (by omega)
      exact cc.mem (fun o' ho' => by rw [sI_o _ (by omega), g2.1 o' (by simp only [List.mem_cons, List.not_mem_nil, or_false]; omega)]) (by rw [sI_2, g2.2])
    · refine m2.setV (fun o' ho' => by rw [sI_o _ (by omega), g2.1 o' (by simp only [List.mem_cons, List.not_mem_nil, or_false]; omega)]) (by rw [sI_2, g2.2]) (MV_iff.mpr ?_)
      rw [sI_78]
      refine ⟨g3.fr (by show nn d + 1 ≤ 7; omega) (fun i hi => pk_un (by omega)), b2.fr s1.1.2.1.1 (fun i hi => by rw [pk_un (by omega)]; exact g4 i (by omega)), b3.fr s1.1.2.2.1.1 (fun i hi => by rw [pk_un (by omega)]; exact g4 i (by omega)), ⟨pk_us, fun s hs => absurd hs (by show ¬ s < 0; omega)⟩⟩

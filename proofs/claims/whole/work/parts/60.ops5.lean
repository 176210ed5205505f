/-! ===== move, light, undo ===== -/
def mvD (d : VD) (f : Nat → Nat) (l : Nat) : VD := (fo d, nn d, l, kd d, f, he d, ow d, ta d)
theorem mvD_ok {d : VD} (hv : VOK d) {f : Nat → Nat} {l : Nat} (hl : l < 2 ^ nn d) (hf : ∀ k, k < nn d → f k < 64) : VOK (mvD d f l) :=
  ⟨hv.1, hv.2.1, hl, fun k hk => ⟨(hv.2.2.2 k hk).1, hf k hk, (hv.2.2.2 k hk).2.2⟩⟩
theorem op_move {N : Nat} (hN : 1000 ≤ N) {w : Mm} (h : INV w) (x y : Int32) : OKi (fX11_move w x y) (fun w => fX12_move N w x y) := by
  unfold fX11_move fX12_move fX11_isCell fX12_isCell fX11_move_L18 fX12_move_L15
  obtain ⟨⟨⟨d, Wr, Rr, ⟨ns, oc, ol⟩⟩, Sr⟩, s1, s2, s3⟩ := id h
  have hv : VOK d := s1.1.1
  have hn := hv.2.1
  have c1 : w.1 1 1 = nI (nn d) := s2.1.1.2.1
  have m1 : w.1 78 0 = nI (nn d) := s3.1.1.1
  rcases rg_c hn c1 m1 x with ⟨h1, h2⟩ | ⟨k, hk, rfl, h1, h2⟩
  · rw [if_pos h1]; exact ok_bad' (-2) h (fun w' hw' => by rw [if_pos (h2 w' (by rw [hw' 78 (by decide)]; exact m1))])
  rw [if_neg h1]
  rcases rg_0_63 y with ⟨h3, h4⟩ | ⟨c, -, hc, rfl, h3, h4⟩
  · rw [if_pos h3]; exact ok_bad' (-2) h (fun w' hw' => by rw [if_neg (h2 w' (by rw [hw' 78 (by decide)]; exact m1)), if_pos h4])
  rw [if_neg h3]
  obtain ⟨a1, a2, a3, a4⟩ := CV_iff.mp s2.1
  obtain ⟨w1, e1, e2, e3, e4⟩ := remember_ok (l := li d) (c := ce d) a4 s1.1.2.2.2.1 hn (fun i hi => (a1.2.2.2 i hi).2.1) a1.2.2.1
  have b3 : w1.1 3 = w.1 3 := e2.1 3 (by decide)
  have a5 : w1.1 3 k = nI (ce d k) := by rw [b3]; exact (a1.2.2.2 k hk).2.1
  rw [e1, bS, rdA_n (by omega) (by decide), bS, wrA_n (by omega) (by decide), bS, a5]
  generalize hw2 : sI w1 3 k (nI c) = w2
  have hf : ∀ o, o ≠ 1 → o ≠ 3 → o ≠ 11 → o ≠ 12 → w2.1 o = w.1 o := fun o o1 o3 o11 o12 => by
    rw [← hw2, sI_o _ o3, e2.1 o (by simp only [List.mem_cons, List.not_mem_nil, or_false]; omega)]
  have hx : w2.2 = w.2 := by rw [← hw2, sI_2, e2.2]
  have m2 : MI w2 ((d, Wr, Rr, (ns, oc, ol)), Sr) := s3.mem (fun o ho => hf o (by omega) (by omega) (by omega) (by omega)) (by rw [hx])
  obtain ⟨b1, b2, b3, b4⟩ := MV_iff.mp m2.1
  obtain ⟨w3, g1, g2, g3, g4⟩ := keep_ok hN (l := li d) (c := ce d) s1.1.2.2.2.1 hn b4 b1.2.2.1 (fun i hi => (b1.2.2.2 i hi).2.1)
  have gk : fX12_get w2 (nI k) 1 = some (nI (ce d k)) := (mget_n (j := 1) (by omega) (by omega)).trans (by rw [(b1.2.2.2 k hk).2.1]; rfl)
  have e6 : ((6 + (5 * nI k)) + 1 : Int32) = nI (6 + 5 * k + 1) := by rw [show (6 : Int32) = nI 6 from rfl, show (5 : Int32) = nI 5 from rfl, pk_mul, nI_add, nI_1]
  refine ⟨nI (ce d k), w2, sI w3 78 (6 + 5 * k + 1) (nI c), rfl, ?_, ⟨((mvD d (uN (ce d) k c) (li d), Wr, Rr, (remN ns, remC ns oc (ce d), remL ns ol (li d))), Sr), ?_, ?_, ?_⟩⟩
  · dsimp only
    rw [if_neg (h2 w2 m2.1.1.1), if_neg h4, gk, bS, g1, bS, e6, wrA_n (by omega) (by decide), bS]
  · refine ⟨⟨mvD_ok hv hv.2.2.1 (fun i hi => ?_), s1.1.2.1, s1.1.2.2.1, remOK s1.1.2.2.2.1 s1.1.2.2.2.2 hv.2.2.1 (fun i hi => (hv.2.2.2 i hi).2.1)⟩, s1.2⟩
    by_cases e : i = k
    · rw [e, uN_s]; omega
    · rw [uN_n e]; exact (hv.2.2.2 i hi).2.1
  · have cc : CI w2 ((mvD d (uN (ce d) k c) (li d), Wr, Rr, (remN ns, remC ns oc (ce d), remL ns ol (li d))), Sr) := by
      have u : ∀ i, i ≠ 14 → w2.1 1 i = w.1 1 i := fun i hi => by rw [← hw2, sI_o _ (by decide), e3 i hi]
      refine s2.setV (fun o ho => hf o (by omega) (by omega) (by omega) (by omega)) (by rw [hx]) (CV_iff.mpr ⟨⟨?_, ?_, ?_, fun i hi => ⟨?_, ?_, ?_, ?_, ?_⟩⟩, a2.fr (u 8 (by decide)) (hf _ (by decide) (by decide) (by decide) (by decide)), a3.fr (u 10 (by decide)) (fun j _ _ => hf _ (by omega) (by omega) (by omega) (by omega)), ?_⟩)
      · rw [u 0 (by decide)]; exact a1.1
      · rw [u 1 (by decide)]; exact a1.2.1
      · rw [u 2 (by decide)]; exact a1.2.2.1
      · rw [hf _ (by decide) (by decide) (by decide) (by decide)]; exact (a1.2.2.2 i hi).1
      · show w2.1 3 i = nI (uN (ce d) k c i)
        rw [← hw2, sI_1]
        by_cases e : i = k
        · rw [if_pos ⟨rfl, e⟩, e, uN_s]
        · rw [if_neg (fun z => e z.2), uN_n e, e2.1 3 (by decide)]; exact (a1.2.2.2 i hi).2.1
      · rw [hf _ (by decide) (by decide) (by decide) (by decide)]; exact (a1.2.2.2 i hi).2.2.1
      · rw [hf _ (by decide) (by decide) (by decide) (by decide)]; exact (a1.2.2.2 i hi).2.2.2.1
      · rw [hf _ (by decide) (by decide) (by decide) (by decide)]; exact (a1.2.2.2 i hi).2.2.2.2
      · exact e4.fr (by rw [← hw2, sI_o _ (by decide)]) (fun j _ _ => by rw [← hw2, sI_o _ (by omega)])
    exact cc.mem (fun o ho => by rw [sI_o _ (by omega), g2.1 o (by simp only [List.mem_cons, List.not_mem_nil, or_false]; omega)]) (by rw [sI_2, g2.2])
  · refine m2.setV (fun o ho => by rw [sI_o _ (by omega), g2.1 o (by simp only [List.mem_cons, List.not_mem_nil, or_false]; omega)]) (by rw [sI_2, g2.2]) (MV_iff.mpr ?_)
    rw [sI_78]
    have u : ∀ i, i < 65 → i ≠ 5 → i ≠ 6 + 5 * k + 1 → upd (w3.1 78) (6 + 5 * k + 1) (nI c) i = w2.1 78 i := fun i i1 i2 i3 => by rw [pk_un i3]; exact g3 i i1 i2
    refine ⟨⟨?_, ?_, ?_, fun i hi => ⟨?_, ?_, ?_, ?_, ?_⟩⟩, b2.fr s1.1.2.1.1 (fun i hi => u i (by omega) (by omega) (by omega)), b3.fr s1.1.2.2.1.1 (fun i hi => u i (by omega) (by omega) (by omega)), g4.fr hn (fun i hi => pk_un (by omega))⟩
    · rw [u 0 (by omega) (by omega) (by omega)]; exact b1.1
    · rw [u 1 (by omega) (by omega) (by omega)]; exact b1.2.1
    · rw [u 2 (by omega) (by omega) (by omega)]; exact b1.2.2.1
    · have hi' : i < nn d := hi
      rw [u _ (by omega) (by omega) (by omega)]; exact (b1.2.2.2 i hi).1
    · have hi' : i < nn d := hi
      show _ = nI (uN (ce d) k c i)
      by_cases e : i = k
      · rw [e, pk_us, uN_s]
      · rw [uN_n e, u _ (by omega) (by omega) (by omega)]; exact (b1.2.2.2 i hi).2.1
    · have hi' : i < nn d := hi
      rw [u _ (by omega) (by omega) (by omega)]; exact (b1.2.2.2 i hi).2.2.1
    · have hi' : i < nn d := hi
      rw [u _ (by omega) (by omega) (by omega)]; exact (b1.2.2.2 i hi).2.2.2.1
    · have hi' : i < nn d := hi
      rw [u _ (by omega) (by omega) (by omega)]; exact (b1.2.2.2 i hi).2.2.2.2
theorem op_light {N : Nat} (hN : 1000 ≤ N) {w : Mm} (h : INV w) (x y : Int32) : OKi (fX11_light w x y) (fun w => fX12_light N w x y) := by
  unfold fX11_light fX12_light fX11_light_L20 fX12_light_L18 fX8_litAt
  obtain ⟨⟨⟨d, Wr, Rr, ⟨ns, oc, ol⟩⟩, Sr⟩, s1, s2, s3⟩ := id h
  have hv : VOK d := s1.1.1
  have hn := hv.2.1
  have c1 : w.1 1 1 = nI (nn d) := s2.1.1.2.1
  have m1 : w.1 78 0 = nI (nn d) := s3.1.1.1
  rcases rg_c hn c1 m1 x with ⟨h1, h2⟩ | ⟨k, hk, rfl, h1, h2⟩
  · rw [if_pos h1]; exact ok_bad' (-2) h (fun w' hw' => by rw [if_pos (h2 w' (by rw [hw' 78 (by decide)]; exact m1))])
  rw [if_neg h1]
  rcases rg_0_1 y with ⟨h3, h4⟩ | ⟨c, -, hc, rfl, h3, h4⟩
  · rw [if_pos h3]; exact ok_bad' (-2) h (fun w' hw' => by rw [if_neg (h2 w' (by rw [hw' 78 (by decide)]; exact m1)), if_pos h4])
  rw [if_neg h3]
  obtain ⟨a1, a2, a3, a4⟩ := CV_iff.mp s2.1
  have hli : li d < 2 ^ 7 := Nat.lt_of_lt_of_le hv.2.2.1 (Nat.pow_le_pow_right (by decide) hn)
  have e0 : w.1 1 2 = nI (li d) := a1.2.2.1
  have e78 : w.1 78 2 = nI (li d) := s3.1.1.2.2.1
  rw [e0, nI_bit (show li d < 2 ^ 31 by omega) (by omega)]
  by_cases hb : nI (li d / 2 ^ k % 2) = nI c
  · rw [if_pos hb]
    exact ok_no' h (fun w' hw' => by rw [if_neg (h2 w' (by rw [hw' 78 (by decide)]; exact m1)), if_neg h4, hw' 78 (by decide), e78, nI_bit (show li d < 2 ^ 31 by omega) (by omega), if_pos hb])
  rw [if_neg hb]
  obtain ⟨w1, e1, e2, e3, e4⟩ := remember_ok (l := li d) (c := ce d) a4 s1.1.2.2.2.1 hn (fun i hi => (a1.2.2.2 i hi).2.1) a1.2.2.1
  have h2k : (2 : Nat) ^ k < 2 ^ nn d := Nat.pow_lt_pow_right (by decide) hk
  have h2n : (2 : Nat) ^ nn d ≤ 2 ^ 7 := Nat.pow_le_pow_right (by decide) hn
  have hl' : li d ^^^ 2 ^ k < 2 ^ nn d := Nat.xor_lt_two_pow hv.2.2.1 h2k
  have ex : nI (li d) ^^^ (1 <<< (nI k &&& 31)) = nI (li d ^^^ 2 ^ k) := by rw [nI_shl (by omega), nI_xor (by omega) (by omega)]
  have e12 : w1.1 1 2 = nI (li d) := by rw [e3 2 (by decide)]; exact e0
  rw [e1, bS, bS, e12, ex]
  generalize hw2 : sI w1 1 2 (nI (li d ^^^ 2 ^ k)) = w2
  have hf : ∀ o, o ≠ 1 → o ≠ 11 → o ≠ 12 → w2.1 o = w.1 o := fun o o1 o11 o12 => by
    rw [← hw2, sI_o _ o1, e2.1 o (by simp only [List.mem_cons, List.not_mem_nil, or_false]; omega)]
  have hx : w2.2 = w.2 := by rw [← hw2, sI_2, e2.2]
  have m2 : MI w2 ((d, Wr, Rr, (ns, oc, ol)), Sr) := s3.mem (fun o ho => hf o (by omega) (by omega) (by omega)) (by rw [hx])
  obtain ⟨b1, b2, b3, b4⟩ := MV_iff.mp m2.1
  obtain ⟨w3, g1, g2, g3, g4⟩ := keep_ok hN (l := li d) (c := ce d) s1.1.2.2.2.1 hn b4 b1.2.2.1 (fun i hi => (b1.2.2.2 i hi).2.1)
  have e32 : w3.1 78 2 = nI (li d) := by rw [g3 2 (by decide) (by decide)]; exact b1.2.2.1
  refine ⟨1, w2, sI w3 78 2 (nI (li d ^^^ 2 ^ k)), rfl, ?_, ⟨((mvD d (ce d) (li d ^^^ 2 ^ k), Wr, Rr, (remN ns, remC ns oc (ce d), remL ns ol (li d))), Sr), ?_, ?_, ?_⟩⟩
  · dsimp only
    rw [if_neg (h2 w2 m2.1.1.1), if_neg h4, show w2.1 78 2 = nI (li d) from b1.2.2.1, nI_bit (show li d < 2 ^ 31 by omega) (by omega), if_neg hb, g1, bS, bS, e32, ex]
  · exact ⟨⟨mvD_ok hv hl' (fun i hi => (hv.2.2.2 i hi).2.1), s1.1.2.1, s1.1.2.2.1, remOK s1.1.2.2.2.1 s1.1.2.2.2.2 hv.2.2.1 (fun i hi => (hv.2.2.2 i hi).2.1)⟩, s1.2⟩
  · have cc : CI w2 ((mvD d (ce d) (li d ^^^ 2 ^ k), Wr, Rr, (remN ns, remC ns oc (ce d), remL ns ol (li d))), Sr) := by
      have u : ∀ i, i ≠ 14 → i ≠ 2 → w2.1 1 i = w.1 1 i := fun i hi h2' => by rw [← hw2, sI_1, if_neg (by omega), e3 i hi]
      refine s2.setV (fun o ho => hf o (by omega) (by omega) (by omega)) (by rw [hx]) (CV_iff.mpr ⟨⟨?_, ?_, ?_, fun i hi => ?_⟩, a2.fr (u 8 (by decide) (by decide)) (hf _ (by decide) (by decide) (by decide)), a3.fr (u 10 (by decide) (by decide)) (fun j _ _ => hf _ (by omega) (by omega) (by omega)), ?_⟩)
      · rw [u 0 (by decide) (by decide)]; exact a1.1
      · rw [u 1 (by decide) (by decide)]; exact a1.2.1
      · rw [← hw2, sI_1, if_pos ⟨rfl, rfl⟩]; rfl
      · rw [hf _ (by decide) (by decide) (by decide), hf _ (by decide) (by decide) (by decide), hf _ (by decide) (by decide) (by decide), hf _ (by decide) (by decide) (by decide), hf _ (by decide) (by decide) (by decide)]; exact a1.2.2.2 i hi
      · exact e4.fr (by rw [← hw2, sI_1, if_neg (by decide)]) (fun j _ _ => by rw [← hw2, sI_o _ (by omega)])
    exact cc.mem (fun o ho => by rw [sI_o _ (by omega), g2.1 o (by simp only [List.mem_cons, List.not_mem_nil, or_false]; omega)]) (by rw [sI_2, g2.2])
  · refine m2.setV (fun o ho => by rw [sI_o _ (by omega), g2.1 o (by simp only [List.mem_cons, List.not_mem_nil, or_false]; omega)]) (by rw [sI_2, g2.2]) (MV_iff.mpr ?_)
    rw [sI_78]
    have u : ∀ i, i < 65 → i ≠ 5 → i ≠ 2 → upd (w3.1 78) 2 (nI (li d ^^^ 2 ^ k)) i = w2.1 78 i := fun i i1 i2 i3 => by rw [pk_un i3]; exact g3 i i1 i2
    refine ⟨⟨?_, ?_, pk_us, fun i hi => ?_⟩, b2.fr s1.1.2.1.1 (fun i hi => u i (by omega) (by omega) (by omega)), b3.fr s1.1.2.2.1.1 (fun i hi => u i (by omega) (by omega) (by omega)), g4.fr hn (fun i hi => pk_un (by omega))⟩
    · rw [u 0 (by omega) (by omega) (by omega)]; exact b1.1
    · rw [u 1 (by omega) (by omega) (by omega)]; exact b1.2.1
    · have hi' : i < nn d := hi
      rw [u _ (by omega) (by omega) (by omega), u _ (by omega) (by omega) (by omega), u _ (by omega) (by omega) (by omega), u _ (by omega) (by omega) (by omega), u _ (by omega) (by omega) (by omega)]; exact b1.2.2.2 i hi
theorem undo_in {N n : Nat} (hn : n < 8) (q : Nat → Int32) : ∀ (r n0 i : Nat) (w : Mm), i + r = 7 → r < n0 → (∀ j, j < 6 ∨ 41 ≤ j ∨ (j - 6) % 5 ≠ 1 → w.1 78 j = q j) → (∀ k, k < i → w.1 78 (6 + 5 * k + 1) = q (65 + 8 * n + k)) → ∃ w', fX12_undo_L39 N n0 w (nI (65 + 8 * n)) (nI i) = some (q (65 + 8 * n + 7), w') ∧ Fr [78] w w' ∧ w'.1 78 2 = q (65 + 8 * n + 7) ∧ (∀ k, k < 7 → w'.1 78 (6 + 5 * k + 1) = q (65 + 8 * n + k)) ∧ ∀ j, j ≠ 2 → (j < 6 ∨ 41 ≤ j ∨ (j - 6) % 5 ≠ 1) → w'.1 78 j = q j := by
  intro r
  induction r with
  | zero =>
    intro n0 i w hi hr h1 h2
    obtain ⟨n1, rfl⟩ : ∃ n1, n0 = n1 + 1 := ⟨n0 - 1, by omega⟩
    have e7 : nI (65 + 8 * n) + 7 = nI (65 + 8 * n + 7) := by rw [show (7 : Int32) = nI 7 from rfl, nI_add]
    refine ⟨sI w 78 2 (q (65 + 8 * n + 7)), ?_, Fr.sI (by decide), by rw [sI_1, if_pos ⟨rfl, rfl⟩], fun k hk => by rw [sI_1, if_neg (by omega)]; exact h2 k (by omega), fun j j2 hj => by rw [sI_1, if_neg (by omega)]; exact h1 j hj⟩
    rw [fX12_undo_L39, if_pos (show (7 : Int32) ≤ nI i from nI_le (a := 7) (by omega) (by omega)), e7, rdA_n (by omega) (by decide), bS, bS, h1 _ (by omega), sI_1, if_pos ⟨rfl, rfl⟩]
  | succ r ih =>
    intro n0 i w hi hr h1 h2
    obtain ⟨n1, rfl⟩ : ∃ n1, n0 = n1 + 1 := ⟨n0 - 1, by omega⟩
    have e6 : ((6 + (5 * nI i)) + 1 : Int32) = nI (6 + 5 * i + 1) := by rw [show (6 : Int32) = nI 6 from rfl, show (5 : Int32) = nI 5 from rfl, pk_mul, nI_add, nI_1]
    obtain ⟨w', g1, g2, g3⟩ := ih n1 (i + 1) (sI w 78 (6 + 5 * i + 1) (q (65 + 8 * n + i))) (by omega) (by omega) (fun j hj => by rw [sI_1, if_neg (by omega)]; exact h1 j hj) (fun k hk => by
      rw [sI_1]
      by_cases e : k = i
      · rw [if_pos ⟨rfl, by omega⟩, e]
      · rw [if_neg (by omega)]; exact h2 k (by omega))
    refine ⟨w', ?_, (Fr.sI (by decide)).then g2, g3⟩
    rw [fX12_undo_L39, if_neg (show ¬ (7 : Int32) ≤ nI i from nI_ge (b := 7) (by omega) (by decide)), nI_add, rdA_n (by omega) (by decide), bS, h1 _ (by omega), e6, wrA_n (by omega) (by decide), bS, nI_1]
    exact g1
theorem op_undo {N : Nat} (hN : 1000 ≤ N) {w : Mm} (h : INV w) : OKi (fX11_undo w) (fun w => fX12_undo N w) := by
  unfold fX11_undo fX12_undo
  obtain ⟨⟨⟨d, Wr, Rr, ⟨ns, oc, ol⟩⟩, Sr⟩, s1, s2, s3⟩ := id h
  have hv : VOK d := s1.1.1
  have hn := hv.2.1
  have hns : ns ≤ 8 := s1.1.2.2.2.1
  obtain ⟨a1, a2, a3, a4⟩ := CV_iff.mp s2.1
  have e14 : w.1 1 14 = nI ns := a4.1
  have e5 : w.1 78 5 = nI ns := s3.1.2.2.2.1
  rcases Nat.eq_zero_or_pos ns with z | z
  · subst z
    rw [e14, if_neg (show ¬ 0 < nI 0 by decide)]
    exact ok_no' h (fun w' hw' => by rw [if_pos (by rw [hw' 78 (by decide), e5]; rfl)])
  obtain ⟨n, rfl⟩ : ∃ n, ns = n + 1 := ⟨ns - 1, by omega⟩
  rw [e14, if_pos (show 0 < nI (n + 1) from nI_lt (a := 0) (by omega) (by omega))]
  have gb : fX8_goBack 1 w = some (sI (sA (sI w 1 14 (nI n)) 3 (va_cpy (w.1 11) (w.1 3) (n * 7) 0 7)) 1 2 (w.1 12 n)) := by
    unfold fX8_goBack
    have f14 : (sI w 1 14 (nI n)).1 1 14 = nI n := by rw [sI_1, if_pos ⟨rfl, rfl⟩]
    have e7 : nI n * 7 = nI (n * 7) := by rw [show (7 : Int32) = nI 7 from rfl, pk_mul]
    have ec : cpA (sI w 1 14 (nI n)) (1 + 10) 56 (1 + 2) 7 (nI (n * 7)) 0 7 = some (sA (sI w 1 14 (nI n)) (1 + 2) (va_cpy ((sI w 1 14 (nI n)).1 (1 + 10)) ((sI w 1 14 (nI n)).1 (1 + 2)) (n * 7) 0 7)) := cpA_n (sp := n * 7) (dp := 0) (n := 7) (by omega) (by omega) (by decide) (by decide)
    rw [e14, if_neg (show ¬ nI (n + 1) ≤ 0 from nI_ge (a := 0) (b := n + 1) (by omega) (by omega)), nI_pred, bS, f14, e7, ec, bS, sA_o _ (show (1 : Nat) ≠ 1 + 2 by decide), f14, rdA_n (by omega) (by decide), bS, bS, sI_o _ (show (1 + 10 : Nat) ≠ 1 by decide), sI_o _ (show (1 + 2 : Nat) ≠ 1 by decide), sA_o _ (show (1 + 11 : Nat) ≠ 1 + 2 by decide), sI_o _ (show (1 + 11 : Nat) ≠ 1 by decide)]
  have e12 : w.1 12 n = nI (ol n) := (a4.2 n (by show n < n + 1; omega)).1
  rw [gb, bS, e12]
  generalize hw2 : sI (sA (sI w 1 14 (nI n)) 3 (va_cpy (w.1 11) (w.1 3) (n * 7) 0 7)) 1 2 (nI (ol n)) = w2
  have hf : ∀ o, o ≠ 1 → o ≠ 3 → w2.1 o = w.1 o := fun o o1 o3 => by rw [← hw2, sI_o _ o1, sA_o _ o3, sI_o _ o1]
  have hx : w2.2 = w.2 := by rw [← hw2]; rfl
  have u : ∀ i, i ≠ 14 → i ≠ 2 → w2.1 1 i = w.1 1 i := fun i h1 h2 => by rw [← hw2, sI_1, if_neg (by omega), sA_o _ (by decide), sI_1, if_neg (by omega)]
  have u2 : w2.1 1 2 = nI (ol n) := by rw [← hw2, sI_1, if_pos ⟨rfl, rfl⟩]
  have u14 : w2.1 1 14 = nI n := by rw [← hw2, sI_1, if_neg (by decide), sA_o _ (by decide), sI_1, if_pos ⟨rfl, rfl⟩]
  have u3 : ∀ i, i < nn d → w2.1 3 i = nI (oc n i) := fun i hi => by
    rw [← hw2, sI_o _ (by decide), sA_same, pk_cpy_in (by omega) (by omega), show n * 7 + (i - 0) = 7 * n + i by omega]
    exact (a4.2 n (by show n < n + 1; omega)).2 i hi
  have m2 : MI w2 ((d, Wr, Rr, (n + 1, oc, ol)), Sr) := s3.mem (fun o ho => hf o (by omega) (by omega)) (by rw [hx])
  obtain ⟨b1, b2, b3, b4⟩ := MV_iff.mp m2.1
  have e65 : 65 + 8 * nI n = nI (65 + 8 * n) := by rw [show (65 : Int32) = nI 65 from rfl, show (8 : Int32) = nI 8 from rfl, pk_mul, nI_add]
  have v5 : w2.1 78 5 = nI (n + 1) := b4.1
  have x5 : (sI w2 78 5 (nI n)).1 78 5 = nI n := by rw [sI_1, if_pos ⟨rfl, rfl⟩]
  have hq : ∀ j, j ≠ 5 → (sI w2 78 5 (nI n)).1 78 j = w2.1 78 j := fun j hj => by rw [sI_1, if_neg (fun z => hj z.2)]
  obtain ⟨w3, g1, g2, g3, g4, g5⟩ := undo_in (N := N) (n := n) (by omega) ((sI w2 78 5 (nI n)).1 78) 7 N 0 (sI w2 78 5 (nI n)) rfl (by omega) (fun j _ => rfl) (fun k hk => absurd hk (by omega))
  have q7 : (sI w2 78 5 (nI n)).1 78 (65 + 8 * n + 7) = nI (ol n) := by rw [hq _ (by omega)]; exact (b4.2 n (by show n < n + 1; omega)).1
  have qk : ∀ k, k < nn d → (sI w2 78 5 (nI n)).1 78 (65 + 8 * n + k) = nI (oc n k) := fun k hk => by rw [hq _ (by omega)]; exact (b4.2 n (by show n < n + 1; omega)).2 k hk
  rw [u2]
  refine ⟨nI (ol n), w2, w3, rfl, ?_, ⟨((mvD d (oc n) (ol n), Wr, Rr, (n, oc, ol)), Sr), ?_, ?_, ?_⟩⟩
  · dsimp only
    rw [v5, if_neg (show ¬ nI (n + 1) = 0 from fun z => absurd ((nI_eq (b := 0) (by omega) (by decide)).mp z) (by omega)), nI_pred, bS, x5, e65, show (0 : Int32) = nI 0 from rfl, g1, q7]
  · have hs := s1.1.2.2.2.2 n (by show n < n + 1; omega)
    exact ⟨⟨mvD_ok hv hs.1 hs.2, s1.1.2.1, s1.1.2.2.1, ⟨by show n ≤ 8; omega, fun s hs' => s1.1.2.2.2.2 s (by have : s < n := hs'; show s < n + 1; omega)⟩⟩, s1.2⟩
  · have cc : CI w2 ((mvD d (oc n) (ol n), Wr, Rr, (n, oc, ol)), Sr) := by
      refine s2.setV (fun o ho => hf o (by omega) (by omega)) (by rw [hx]) (CV_iff.mpr ⟨⟨?_, ?_, u2, fun i hi => ⟨?_, u3 i hi, ?_, ?_, ?_⟩⟩, a2.fr (u 8 (by decide) (by decide)) (hf _ (by decide) (by decide)), a3.fr (u 10 (by decide) (by decide)) (fun j _ _ => hf _ (by omega) (by omega)), ⟨u14, fun s hs => ?_⟩⟩)
      · rw [u 0 (by decide) (by decide)]; exact a1.1
      · rw [u 1 (by decide) (by decide)]; exact a1.2.1
      · rw [hf _ (by decide) (by decide)]; exact (a1.2.2.2 i hi).1
      · rw [hf _ (by decide) (by decide)]; exact (a1.2.2.2 i hi).2.2.1
      · rw [hf _ (by decide) (by decide)]; exact (a1.2.2.2 i hi).2.2.2.1
      · rw [hf _ (by decide) (by decide)]; exact (a1.2.2.2 i hi).2.2.2.2
      · have hs' : s < n := hs
        rw [hf _ (by decide) (by decide), hf _ (by decide) (by decide)]; exact a4.2 s (by show s < n + 1; omega)
    exact cc.mem (fun o ho => by rw [g2.1 o (by simp only [List.mem_cons, List.not_mem_nil, or_false]; omega), sI_o _ (by omega)]) (by rw [g2.2, sI_2])
  · refine m2.setV (fun o ho => by rw [g2.1 o (by simp only [List.mem_cons, List.not_mem_nil, or_false]; omega), sI_o _ (by omega)]) (by rw [g2.2, sI_2]) (MV_iff.mpr ?_)
    have t : ∀ j, j ≠ 2 → j ≠ 5 → (j < 6 ∨ 41 ≤ j ∨ (j - 6) % 5 ≠ 1) → w3.1 78 j = w2.1 78 j := fun j j2 j5 hj => by rw [g5 j j2 hj, hq j j5]
    refine ⟨⟨?_, ?_, by rw [g3, q7]; rfl, fun i hi => ⟨?_, ?_, ?_, ?_, ?_⟩⟩, b2.fr s1.1.2.1.1 (fun i hi => t i (by omega) (by omega) (by omega)), b3.fr s1.1.2.2.1.1 (fun i hi => t i (by omega) (by omega) (by omega)), ⟨by rw [g5 5 (by omega) (by omega), x5]; rfl, fun s hs => ?_⟩⟩
    · rw [t 0 (by omega) (by omega) (by omega)]; exact b1.1
    · rw [t 1 (by omega) (by omega) (by omega)]; exact b1.2.1
    · rw [t _ (by omega) (by omega) (by omega)]; exact (b1.2.2.2 i hi).1
    · have hi' : i < nn d := hi
      rw [g4 i (by omega)]; exact qk i hi
    · rw [t _ (by omega) (by omega) (by omega)]; exact (b1.2.2.2 i hi).2.2.1
    · rw [t _ (by omega) (by omega) (by omega)]; exact (b1.2.2.2 i hi).2.2.2.1
    · rw [t _ (by omega) (by omega) (by omega)]; exact (b1.2.2.2 i hi).2.2.2.2
    · have hs' : s < n := hs
      refine ⟨?_, fun k hk => ?_⟩
      · rw [t _ (by omega) (by omega) (by omega)]; exact (b4.2 s (by show s < n + 1; omega)).1
      · rw [t _ (by omega) (by omega) (by omega)]; exact (b4.2 s (by show s < n + 1; omega)).2 k hk

/-! ===== images, and the whole state's number ===== -/
theorem cp_step {m : Mm} {u v n : Nat} (hn : n < 2 ^ 31) : ∃ m', cpA m u n v n 0 0 (nI n) = some m' ∧ (∀ o, o ≠ v → m'.1 o = m.1 o) ∧ (∀ i, i < n → m'.1 v i = m.1 u i) ∧ m'.2 = m.2 := by
  refine ⟨_, cpA_n (sp := 0) (dp := 0) (n := n) (by omega) (by omega) hn hn, fun o ho => sA_o _ ho, fun i hi => ?_, rfl⟩
  rw [sA_same, pk_cpy_in (by omega) (by omega), show 0 + (i - 0) = i by omega]
theorem take_ok {w : Mm} {v u : Nat} {V : VV} (hd : v + 12 ≤ u ∨ u + 12 ≤ v) (h : CV w u V) (hV : VVOK V) : ∃ w', fX8_takeFrom v u w = some w' ∧ (∀ o, (o < v ∨ v + 11 < o) → w'.1 o = w.1 o) ∧ w'.2 = w.2 ∧ CV w' v V := by
  unfold fX8_takeFrom
  have hvu : u ≠ v := by omega
  rw [bS, bS, bS, bS, bS, bS]
  generalize hm : sI (sI (sI (sI (sI (sI w v 0 (w.1 u 0)) v 1 _) v 2 _) v 8 _) v 10 _) v 14 _ = m6
  have f6 : ∀ o, o ≠ v → m6.1 o = w.1 o := fun o ho => by rw [← hm, sI_o _ ho, sI_o _ ho, sI_o _ ho, sI_o _ ho, sI_o _ ho, sI_o _ ho]
  have x6 : m6.2 = w.2 := by rw [← hm]; rfl
  have g6 : ∀ i, i = 0 ∨ i = 1 ∨ i = 2 ∨ i = 8 ∨ i = 10 ∨ i = 14 → m6.1 v i = w.1 u i := by
    intro i hi
    rw [← hm]
    rcases hi with rfl | rfl | rfl | rfl | rfl | rfl <;> simp [sI_1, hvu]
  clear hm
  obtain ⟨m7, e7, f7, t7, x7⟩ := cp_step (m := m6) (u := u + 1) (v := v + 1) (n := 7) (by decide)
  obtain ⟨m8, e8, f8, t8, x8⟩ := cp_step (m := m7) (u := u + 2) (v := v + 2) (n := 7) (by decide)
  obtain ⟨m9, e9, f9, t9, x9⟩ := cp_step (m := m8) (u := u + 3) (v := v + 3) (n := 7) (by decide)
  obtain ⟨m10, e10, f10, t10, x10⟩ := cp_step (m := m9) (u := u + 4) (v := v + 4) (n := 7) (by decide)
  obtain ⟨m11, e11, f11, t11, x11⟩ := cp_step (m := m10) (u := u + 5) (v := v + 5) (n := 7) (by decide)
  obtain ⟨m12, e12, f12, t12, x12⟩ := cp_step (m := m11) (u := u + 6) (v := v + 6) (n := 6) (by decide)
  obtain ⟨m13, e13, f13, t13, x13⟩ := cp_step (m := m12) (u := u + 7) (v := v + 7) (n := 6) (by decide)
  obtain ⟨m14, e14, f14, t14, x14⟩ := cp_step (m := m13) (u := u + 8) (v := v + 8) (n := 6) (by decide)
  obtain ⟨m15, e15, f15, t15, x15⟩ := cp_step (m := m14) (u := u + 9) (v := v + 9) (n := 6) (by decide)
  obtain ⟨m16, e16, f16, t16, x16⟩ := cp_step (m := m15) (u := u + 10) (v := v + 10) (n := 56) (by decide)
  obtain ⟨m17, e17, f17, t17, x17⟩ := cp_step (m := m16) (u := u + 11) (v := v + 11) (n := 8) (by decide)
  refine ⟨m17, ?_, fun o ho => ?_, ?_, ?_⟩
  · rw [show cpA m6 (u + 1) 7 (v + 1) 7 0 0 7 = some m7 from e7, bS, show cpA m7 (u + 2) 7 (v + 2) 7 0 0 7 = some m8 from e8, bS, show cpA m8 (u + 3) 7 (v + 3) 7 0 0 7 = some m9 from e9, bS, show cpA m9 (u + 4) 7 (v + 4) 7 0 0 7 = some m10 from e10, bS, show cpA m10 (u + 5) 7 (v + 5) 7 0 0 7 = some m11 from e11, bS, show cpA m11 (u + 6) 6 (v + 6) 6 0 0 6 = some m12 from e12, bS, show cpA m12 (u + 7) 6 (v + 7) 6 0 0 6 = some m13 from e13, bS, show cpA m13 (u + 8) 6 (v + 8) 6 0 0 6 = some m14 from e14, bS, show cpA m14 (u + 9) 6 (v + 9) 6 0 0 6 = some m15 from e15, bS, show cpA m15 (u + 10) 56 (v + 10) 56 0 0 56 = some m16 from e16, bS, show cpA m16 (u + 11) 8 (v + 11) 8 0 0 8 = some m17 from e17, bS]
  · rw [f17 o (by omega), f16 o (by omega), f15 o (by omega), f14 o (by omega), f13 o (by omega), f12 o (by omega), f11 o (by omega), f10 o (by omega), f9 o (by omega), f8 o (by omega), f7 o (by omega), f6 o (by omega)]
  · rw [x17, x16, x15, x14, x13, x12, x11, x10, x9, x8, x7, x6]
  · have z : ∀ i, m17.1 v i = m6.1 v i := fun i => by rw [f17 v (by omega), f16 v (by omega), f15 v (by omega), f14 v (by omega), f13 v (by omega), f12 v (by omega), f11 v (by omega), f10 v (by omega), f9 v (by omega), f8 v (by omega), f7 v (by omega)]
    have y1 : ∀ i, i < 7 → m17.1 (v + 1) i = w.1 (u + 1) i := fun i hi => by rw [f17 (v + 1) (by omega), f16 (v + 1) (by omega), f15 (v + 1) (by omega), f14 (v + 1) (by omega), f13 (v + 1) (by omega), f12 (v + 1) (by omega), f11 (v + 1) (by omega), f10 (v + 1) (by omega), f9 (v + 1) (by omega), f8 (v + 1) (by omega), t7 i hi, f6 (u + 1) (by omega)]
    have y2 : ∀ i, i < 7 → m17.1 (v + 2) i = w.1 (u + 2) i := fun i hi => by rw [f17 (v + 2) (by omega), f16 (v + 2) (by omega), f15 (v + 2) (by omega), f14 (v + 2) (by omega), f13 (v + 2) (by omega), f12 (v + 2) (by omega), f11 (v + 2) (by omega), f10 (v + 2) (by omega), f9 (v + 2) (by omega), t8 i hi, f7 (u + 2) (by omega), f6 (u + 2) (by omega)]
    have y3 : ∀ i, i < 7 → m17.1 (v + 3) i = w.1 (u + 3) i := fun i hi => by rw [f17 (v + 3) (by omega), f16 (v + 3) (by omega), f15 (v + 3) (by omega), f14 (v + 3) (by omega), f13 (v + 3) (by omega), f12 (v + 3) (by omega), f11 (v + 3) (by omega), f10 (v + 3) (by omega), t9 i hi, f8 (u + 3) (by omega), f7 (u + 3) (by omega), f6 (u + 3) (by omega)]
    have y4 : ∀ i, i < 7 → m17.1 (v + 4) i = w.1 (u + 4) i := fun i hi => by rw [f17 (v + 4) (by omega), f16 (v + 4) (by omega), f15 (v + 4) (by omega), f14 (v + 4) (by omega), f13 (v + 4) (by omega), f12 (v + 4) (by omega), f11 (v + 4) (by omega), t10 i hi, f9 (u + 4) (by omega), f8 (u + 4) (by omega), f7 (u + 4) (by omega), f6 (u + 4) (by omega)]
    have y5 : ∀ i, i < 7 → m17.1 (v + 5) i = w.1 (u + 5) i := fun i hi => by rw [f17 (v + 5) (by omega), f16 (v + 5) (by omega), f15 (v + 5) (by omega), f14 (v + 5) (by omega), f13 (v + 5) (by omega), f12 (v + 5) (by omega), t11 i hi, f10 (u + 5) (by omega), f9 (u + 5) (by omega), f8 (u + 5) (by omega), f7 (u + 5) (by omega), f6 (u + 5) (by omega)]
    have y6 : ∀ i, i < 6 → m17.1 (v + 6) i = w.1 (u + 6) i := fun i hi => by rw [f17 (v + 6) (by omega), f16 (v + 6) (by omega), f15 (v + 6) (by omega), f14 (v + 6) (by omega), f13 (v + 6) (by omega), t12 i hi, f11 (u + 6) (by omega), f10 (u + 6) (by omega), f9 (u + 6) (by omega), f8 (u + 6) (by omega), f7 (u + 6) (by omega), f6 (u + 6) (by omega)]
    have y7 : ∀ i, i < 6 → m17.1 (v + 7) i = w.1 (u + 7) i := fun i hi => by rw [f17 (v + 7) (by omega), f16 (v + 7) (by omega), f15 (v + 7) (by omega), f14 (v + 7) (by omega), t13 i hi, f12 (u + 7) (by omega), f11 (u + 7) (by omega), f10 (u + 7) (by omega), f9 (u + 7) (by omega), f8 (u + 7) (by omega), f7 (u + 7) (by omega), f6 (u + 7) (by omega)]
    have y8 : ∀ i, i < 6 → m17.1 (v + 8) i = w.1 (u + 8) i := fun i hi => by rw [f17 (v + 8) (by omega), f16 (v + 8) (by omega), f15 (v + 8) (by omega), t14 i hi, f13 (u + 8) (by omega), f12 (u + 8) (by omega), f11 (u + 8) (by omega), f10 (u + 8) (by omega), f9 (u + 8) (by omega), f8 (u + 8) (by omega), f7 (u + 8) (by omega), f6 (u + 8) (by omega)]
    have y9 : ∀ i, i < 6 → m17.1 (v + 9) i = w.1 (u + 9) i := fun i hi => by rw [f17 (v + 9) (by omega), f16 (v + 9) (by omega), t15 i hi, f14 (u + 9) (by omega), f13 (u + 9) (by omega), f12 (u + 9) (by omega), f11 (u + 9) (by omega), f10 (u + 9) (by omega), f9 (u + 9) (by omega), f8 (u + 9) (by omega), f7 (u + 9) (by omega), f6 (u + 9) (by omega)]
    have y10 : ∀ i, i < 56 → m17.1 (v + 10) i = w.1 (u + 10) i := fun i hi => by rw [f17 (v + 10) (by omega), t16 i hi, f15 (u + 10) (by omega), f14 (u + 10) (by omega), f13 (u + 10) (by omega), f12 (u + 10) (by omega), f11 (u + 10) (by omega), f10 (u + 10) (by omega), f9 (u + 10) (by omega), f8 (u + 10) (by omega), f7 (u + 10) (by omega), f6 (u + 10) (by omega)]
    have y11 : ∀ i, i < 8 → m17.1 (v + 11) i = w.1 (u + 11) i := fun i hi => by rw [t17 i hi, f16 (u + 11) (by omega), f15 (u + 11) (by omega), f14 (u + 11) (by omega), f13 (u + 11) (by omega), f12 (u + 11) (by omega), f11 (u + 11) (by omega), f10 (u + 11) (by omega), f9 (u + 11) (by omega), f8 (u + 11) (by omega), f7 (u + 11) (by omega), f6 (u + 11) (by omega)]
    obtain ⟨⟨a1, a2, a3, a4⟩, ⟨b1, b2⟩, ⟨c1, c2⟩, ⟨d1, d2⟩⟩ := h
    obtain ⟨p1, ⟨p2, -⟩, ⟨p3, -⟩, ⟨p4, -⟩⟩ := hV
    have p0 := p1.2.1
    refine ⟨⟨by rw [z, g6 0 (by omega)]; exact a1, by rw [z, g6 1 (by omega)]; exact a2, by rw [z, g6 2 (by omega)]; exact a3, fun k hk => ?_⟩, ⟨by rw [z, g6 8 (by omega)]; exact b1, fun i hi => ?_⟩, ⟨by rw [z, g6 10 (by omega)]; exact c1, fun i hi => ?_⟩, ⟨by rw [z, g6 14 (by omega)]; exact d1, fun s hs => ⟨?_, fun k hk => ?_⟩⟩⟩
    · rw [y1 k (by omega), y2 k (by omega), y3 k (by omega), y4 k (by omega), y5 k (by omega)]; exact a4 k hk
    · rw [y6 i (by omega)]; exact b2 i hi
    · rw [y7 i (by omega), y8 i (by omega), y9 i (by omega)]; exact c2 i hi
    · rw [y11 s (by omega)]; exact (d2 s hs).1
    · rw [y10 _ (by omega)]; exact (d2 s hs).2 k hk
theorem MV.cg {q q' : Nat → Int32} {V : VV} (h : MV q V) (hV : VVOK V) (e : ∀ i, i < 129 → q' i = q i) : MV q' V := by
  obtain ⟨⟨a1, a2, a3, a4⟩, ⟨b1, b2⟩, ⟨c1, c2⟩, ⟨d1, d2⟩⟩ := h
  obtain ⟨p1, ⟨p2, -⟩, ⟨p3, -⟩, ⟨p4, -⟩⟩ := hV
  have p0 := p1.2.1
  refine ⟨⟨by rw [e 0 (by omega)]; exact a1, by rw [e 1 (by omega)]; exact a2, by rw [e 2 (by omega)]; exact a3, fun k hk => ?_⟩, ⟨by rw [e 3 (by omega)]; exact b1, fun i hi => ?_⟩, ⟨by rw [e 4 (by omega)]; exact c1, fun i hi => ?_⟩, ⟨by rw [e 5 (by omega)]; exact d1, fun s hs => ⟨?_, fun k hk => ?_⟩⟩⟩
  · rw [e _ (by omega), e _ (by omega), e _ (by omega), e _ (by omega), e _ (by omega)]; exact a4 k hk
  · rw [e _ (by omega)]; exact b2 i hi
  · rw [e _ (by omega), e _ (by omega), e _ (by omega)]; exact c2 i hi
  · rw [e _ (by omega)]; exact (d2 s hs).1
  · rw [e _ (by omega)]; exact (d2 s hs).2 k hk
theorem image_in {N j : Nat} (hj : j < 2) (p q : Nat → Int32) : ∀ (r n0 i : Nat) (w : Mm), i + r = 129 → r < n0 → w.1 78 = q → (∀ t, t < i → w.1 79 (129 * j + t) = q t) → (∀ t, t < 129 * j ∨ 129 * j + 129 ≤ t → w.1 79 t = p t) → ∃ w', fX12_image_L19 N n0 w (nI j) (nI i) = some (1, sI w' 80 j 1) ∧ Fr [79] w w' ∧ (∀ t, t < 129 → w'.1 79 (129 * j + t) = q t) ∧ ∀ t, t < 129 * j ∨ 129 * j + 129 ≤ t → w'.1 79 t = p t := by
  intro r
  induction r with
  | zero =>
    intro n0 i w hi hr h0 h1 h2
    obtain ⟨n1, rfl⟩ : ∃ n1, n0 = n1 + 1 := ⟨n0 - 1, by omega⟩
    refine ⟨w, ?_, Fr.rf, fun t ht => h1 t (by omega), h2⟩
    rw [fX12_image_L19, if_pos (show (129 : Int32) ≤ nI i from nI_le (a := 129) (by omega) (by omega)), wrA_n (by omega) (by decide), bS]
    rfl
  | succ r ih =>
    intro n0 i w hi hr h0 h1 h2
    obtain ⟨n1, rfl⟩ : ∃ n1, n0 = n1 + 1 := ⟨n0 - 1, by omega⟩
    have e1 : 129 * nI j + nI i = nI (129 * j + i) := by rw [show (129 : Int32) = nI 129 from rfl, pk_mul, nI_add]
    obtain ⟨w', g1, g2, g3⟩ := ih n1 (i + 1) (sI w 79 (129 * j + i) (q i)) (by omega) (by omega) (by rw [sI_o _ (by decide)]; exact h0) (fun t ht => by
      rw [sI_1]
      by_cases e : t = i
      · rw [if_pos ⟨rfl, by omega⟩, e]
      · rw [if_neg (by omega)]; exact h1 t (by omega)) (fun t ht => by rw [sI_1, if_neg (by omega)]; exact h2 t ht)
    refine ⟨w', ?_, (Fr.sI (by decide)).then g2, g3⟩
    rw [fX12_image_L19, if_neg (show ¬ (129 : Int32) ≤ nI i from nI_ge (b := 129) (by omega) (by decide)), rdA_n (by omega) (by decide), bS, e1, wrA_n (by omega) (by decide), bS, h0, nI_1]
    exact g1
theorem from_in {N j : Nat} (hj : j < 2) (p : Nat → Int32) : ∀ (r n0 i : Nat) (w : Mm), i + r = 129 → r < n0 → w.1 79 = p → (∀ t, t < i → w.1 78 t = p (129 * j + t)) → ∃ w', fX12_from_L33 N n0 w (nI j) (nI i) = some (1, w') ∧ Fr [78] w w' ∧ ∀ t, t < 129 → w'.1 78 t = p (129 * j + t) := by
  intro r
  induction r with
  | zero =>
    intro n0 i w hi hr h0 h1
    obtain ⟨n1, rfl⟩ : ∃ n1, n0 = n1 + 1 := ⟨n0 - 1, by omega⟩
    refine ⟨w, ?_, Fr.rf, fun t ht => h1 t (by omega)⟩
    rw [fX12_from_L33, if_pos (show (129 : Int32) ≤ nI i from nI_le (a := 129) (by omega) (by omega))]
  | succ r ih =>
    intro n0 i w hi hr h0 h1
    obtain ⟨n1, rfl⟩ : ∃ n1, n0 = n1 + 1 := ⟨n0 - 1, by omega⟩
    have e1 : 129 * nI j + nI i = nI (129 * j + i) := by rw [show (129 : Int32) = nI 129 from rfl, pk_mul, nI_add]
    obtain ⟨w', g1, g2, g3⟩ := ih n1 (i + 1) (sI w 78 i (p (129 * j + i))) (by omega) (by omega) (by rw [sI_o _ (by decide)]; exact h0) (fun t ht => by
      rw [sI_1]
      by_cases e : t = i
      · rw [if_pos ⟨rfl, e⟩, e]
      · rw [if_neg (by omega)]; exact h1 t (by omega))
    refine ⟨w', ?_, (Fr.sI (by decide)).then g2, g3⟩
    rw [fX12_from_L33, if_neg (show ¬ (129 : Int32) ≤ nI i from nI_ge (b := 129) (by omega) (by decide)), e1, rdA_n (by omega) (by decide), bS, wrA_n (by omega) (by decide), bS, h0, nI_1]
    exact g1
theorem op_image {N : Nat} (hN : 1000 ≤ N) {w : Mm} (h : INV w) (x : Int32) : OKi (fX11_image w x) (fun w => fX12_image N w x) := by
  unfold fX11_image fX12_image
  rcases rg_0_1 x with ⟨h1, h2⟩ | ⟨j, -, hj, rfl, h1, h2⟩
  · rw [if_pos h1]; simp only [if_pos h2]; exact ok_bad (-2) h
  rw [if_neg h1]; simp only [if_neg h2]
  obtain ⟨⟨V, I, Sr⟩, s1, s2, s3⟩ := h
  obtain ⟨w1, e1, e2, e3, e4⟩ := take_ok (v := 13 + 12 * j) (u := 1) (by omega) s2.1 s1.1
  rw [rdR_n (by omega) (by decide), bS, e1, bS, wrA_n (by omega) (by decide), bS]
  generalize hw2 : sI w1 50 j (vp_nar .boolean 1) = w2
  have hf : ∀ o, (o < 13 + 12 * j ∨ 13 + 12 * j + 11 < o) → o ≠ 50 → w2.1 o = w.1 o := fun o ho h50 => by rw [← hw2, sI_o _ h50]; exact e2 o ho
  have hx : w2.2 = w.2 := by rw [← hw2, sI_2, e3]
  have m2 : MI w2 (V, I, Sr) := s3.mem (fun o ho => hf o (by omega) (by omega)) (by rw [hx])
  obtain ⟨w3, g1, g2, g3, g4⟩ := image_in (N := N) (j := j) (by omega) (w2.1 79) (w2.1 78) 129 N 0 w2 rfl (by omega) rfl (fun t ht => absurd ht (by omega)) (fun t _ => rfl)
  refine ⟨1, w2, sI w3 80 j 1, rfl, g1, ⟨(V, fun i => if i = j then some V else I i, Sr), ⟨s1.1, fun i V' hi hV => ?_, s1.2.2⟩, ?_, ?_⟩⟩
  · have hV' : (if i = j then some V else I i) = some V' := hV
    by_cases e : i = j
    · rw [if_pos e] at hV'; rw [← Option.some.inj hV']; exact s1.1
    · rw [if_neg e] at hV'; exact s1.2.1 i V' hi hV'
  · have cc : CI w2 (V, fun i => if i = j then some V else I i, Sr) := by
      obtain ⟨c1, c2, c3, c4, c5⟩ := s2
      refine ⟨c1.fr (fun i hi => hf _ (by omega) (by omega)), fun i hi => ?_, ?_, ?_, ?_⟩
      · show ((if i = j then some V else I i) = none → _) ∧ ∀ V', (if i = j then some V else I i) = some V' → _
        by_cases e : i = j
        · rw [if_pos e]
          refine ⟨fun z => absurd z (Option.some_ne_none V), fun V' z => ?_⟩
          rw [← Option.some.inj z, e]
          refine ⟨by rw [← hw2, sI_1, if_pos ⟨rfl, rfl⟩]; rfl, e4.fr (fun i hi => by rw [← hw2, sI_o _ (by omega)])⟩
        · rw [if_neg e]
          have e50 : w2.1 50 i = w.1 50 i := by rw [← hw2, sI_1, if_neg (fun z => e z.2), e2 50 (by omega)]
          rw [e50]
          exact ⟨(c2 i hi).1, fun V' z => ⟨((c2 i hi).2 V' z).1, ((c2 i hi).2 V' z).2.fr (fun t ht => hf _ (by omega) (by omega))⟩⟩
      · rw [hf 51 (by omega) (by omega), hf 52 (by omega) (by omega)]; exact c3
      · rw [hx]; exact c4
      · rw [hf 0 (by omega) (by omega)]; exact c5
    exact cc.mem (fun o ho => by rw [sI_o _ (by omega), g2.1 o (by simp only [List.mem_cons, List.not_mem_nil, or_false]; omega)]) (by rw [sI_2, g2.2])
  · have k : ∀ o, o ≠ 79 → o ≠ 80 → (sI w3 80 j 1).1 o = w2.1 o := fun o o1 o2 => by rw [sI_o _ o2, g2.1 o (by simp only [List.mem_cons, List.not_mem_nil, or_false]; omega)]
    have k79 : (sI w3 80 j 1).1 79 = w3.1 79 := sI_o _ (by decide)
    obtain ⟨c1, c2, c3, c4, c5⟩ := m2
    refine ⟨by rw [k 78 (by decide) (by decide)]; exact c1, fun i hi => ?_, ?_, ?_, ?_⟩
    · show ((if i = j then some V else I i) = none → _) ∧ ∀ V', (if i = j then some V else I i) = some V' → _
      rw [k79]
      by_cases e : i = j
      · rw [if_pos e]
        refine ⟨fun z => absurd z (Option.some_ne_none V), fun V' z => ?_⟩
        rw [← Option.some.inj z, e]
        exact ⟨by rw [sI_1, if_pos ⟨rfl, rfl⟩], c1.cg s1.1 (fun t ht => g3 t ht)⟩
      · rw [if_neg e, sI_1, if_neg (fun z => e z.2), g2.1 80 (by decide)]
        exact ⟨(c2 i hi).1, fun V' z => ⟨((c2 i hi).2 V' z).1, ((c2 i hi).2 V' z).2.cg (s1.2.1 i V' hi z) (fun t ht => g4 _ (by omega))⟩⟩
    · rw [k 77 (by decide) (by decide), k 89 (by decide) (by decide)]; exact c3
    · rw [sI_2, g2.2]; exact c4
    · rw [k 81 (by decide) (by decide)]; exact c5
theorem op_from {N : Nat} (hN : 1000 ≤ N) {w : Mm} (h : INV w) (x : Int32) : OKi (fX11_from w x) (fun w => fX12_from N w x) := by
  unfold fX11_from fX12_from
  rcases rg_0_1 x with ⟨h1, h2⟩ | ⟨j, -, hj, rfl, h1, h2⟩
  · rw [if_pos h1]; simp only [if_pos h2]; exact ok_bad (-2) h
  rw [if_neg h1]; simp only [if_neg h2]
  obtain ⟨⟨V, I, Sr⟩, s1, s2, s3⟩ := id h
  rw [rdA_n (by omega) (by decide), bS]
  rcases e : I j with _ | V'
  · have e50 : w.1 50 j = 0 := (s2.2.1 j (by omega)).1 e
    have e80 : w.1 80 j = 0 := (s3.2.1 j (by omega)).1 e
    rw [if_pos e50]
    exact ok_no' h (fun w' hw' => by rw [rdA_n (by omega) (by decide), bS, if_pos (by rw [hw' 80 (by decide)]; exact e80)])
  · obtain ⟨e50, c1⟩ := (s2.2.1 j (by omega)).2 V' e
    have hV' : VVOK V' := s1.2.1 j V' (by omega) e
    rw [if_neg (by rw [e50]; decide)]
    obtain ⟨w1, f1, f2, f3, f4⟩ := take_ok (v := 1) (u := 13 + 12 * j) (by omega) c1 hV'
    rw [rdR_n (by omega) (by decide), bS, f1, bS]
    have m2 : MI w1 (V, I, Sr) := s3.mem (fun o ho => f2 o (by omega)) (by rw [f3])
    obtain ⟨e80, d1⟩ := (m2.2.1 j (by omega)).2 V' e
    obtain ⟨w3, g1, g2, g3⟩ := from_in (N := N) (j := j) (by omega) (w1.1 79) 129 N 0 w1 rfl (by omega) rfl (fun t ht => absurd ht (by omega))
    refine ⟨1, w1, w3, rfl, ?_, ⟨(V', I, Sr), ⟨hV', s1.2⟩, ?_, ?_⟩⟩
    · dsimp only
      rw [rdA_n (by omega) (by decide), bS, if_neg (by rw [e80]; decide)]
      exact g1
    · have cc : CI w1 (V', I, Sr) := s2.setV (fun o ho => f2 o (by omega)) (by rw [f3]) f4
      exact cc.mem (fun o ho => g2.1 o (by simp only [List.mem_cons, List.not_mem_nil, or_false]; omega)) (by rw [g2.2])
    · exact m2.setV (fun o ho => g2.1 o (by simp only [List.mem_cons, List.not_mem_nil, or_false]; omega)) (by rw [g2.2]) (d1.cg hV' g3)
/-! a number made of many -/
def hs (x : Int64) (q : Nat → Int32) : Nat → Int64
  | 0 => x
  | k + 1 => (31 : Int64) * hs x q k + (q k).toInt64
theorem sums_n {N b n : Nat} {w : Mm} (hb : b + n ≤ 129) (x : Int64) : ∀ (r n0 i : Nat), i + r = n → r < n0 → fX12_sums_L6 N w n0 (nI b) (nI n) (hs x (fun k => w.1 78 (b + k)) i) (nI i) = some (hs x (fun k => w.1 78 (b + k)) n) := by
  intro r
  induction r with
  | zero =>
    intro n0 i hi hr
    obtain ⟨n1, rfl⟩ : ∃ n1, n0 = n1 + 1 := ⟨n0 - 1, by omega⟩
    rw [fX12_sums_L6, if_pos (nI_le (by omega) (by omega)), show i = n by omega]
  | succ r ih =>
    intro n0 i hi hr
    obtain ⟨n1, rfl⟩ : ∃ n1, n0 = n1 + 1 := ⟨n0 - 1, by omega⟩
    rw [fX12_sums_L6, if_neg (nI_ge (by omega) (by omega)), nI_add, rdA_n (by omega) (by decide), bS, nI_1]
    exact ih n1 (i + 1) (by omega) (by omega)
theorem mix3_n {N n : Nat} {w : Mm} (hn : n ≤ 6) (x : Int64) {q : Nat → Int32} (h0 : w.1 1 10 = nI n) (hq : ∀ k, k < n → w.1 8 k = q (3 * k) ∧ w.1 9 k = q (3 * k + 1) ∧ w.1 10 k = q (3 * k + 2)) : ∀ (r n0 i : Nat), i + r = n → r < n0 → fX8_mix_L131 N 1 w n0 (hs x q (3 * i)) (nI i) = some (hs x q (3 * n)) := by
  intro r
  induction r with
  | zero =>
    intro n0 i hi hr
    obtain ⟨n1, rfl⟩ : ∃ n1, n0 = n1 + 1 := ⟨n0 - 1, by omega⟩
    rw [fX8_mix_L131, h0, if_pos (nI_le (by omega) (by omega)), show i = n by omega]
  | succ r ih =>
    intro n0 i hi hr
    obtain ⟨n1, rfl⟩ : ∃ n1, n0 = n1 + 1 := ⟨n0 - 1, by omega⟩
    obtain ⟨q1, q2, q3⟩ := hq i (by omega)
    rw [fX8_mix_L131, h0, if_neg (nI_ge (by omega) (by omega)), rdA_n (by omega) (by decide), bS, rdA_n (by omega) (by decide), bS]
    unfold fX8_mix_L170
    rw [rdA_n (by omega) (by decide), bS, nI_1, show w.1 (1 + 7) i = _ from q1, show w.1 (1 + 8) i = _ from q2, show w.1 (1 + 9) i = _ from q3]
    exact ih n1 (i + 1) (by omega) (by omega)
theorem mix2_n {N n : Nat} {w : Mm} (hn : n ≤ 6) (x : Int64) {q : Nat → Int32} (h0 : w.1 1 8 = nI n) (hq : ∀ k, k < n → w.1 7 k = q k) : ∀ (r n0 i : Nat), i + r = n → r < n0 → fX8_mix_L98 N 1 w n0 (hs x q i) (nI i) = fX8_mix_L131 N 1 w N (hs x q n) 0 := by
  intro r
  induction r with
  | zero =>
    intro n0 i hi hr
    obtain ⟨n1, rfl⟩ : ∃ n1, n0 = n1 + 1 := ⟨n0 - 1, by omega⟩
    rw [fX8_mix_L98, h0, if_pos (nI_le (by omega) (by omega)), show i = n by omega]
  | succ r ih =>
    intro n0 i hi hr
    obtain ⟨n1, rfl⟩ : ∃ n1, n0 = n1 + 1 := ⟨n0 - 1, by omega⟩
    rw [fX8_mix_L98, h0, if_neg (nI_ge (by omega) (by omega)), rdA_n (by omega) (by decide), bS, nI_1, show w.1 (1 + 6) i = _ from hq i (by omega)]
    exact ih n1 (i + 1) (by omega) (by omega)
theorem mix1_n {N n : Nat} {w : Mm} (hn : n ≤ 7) (x : Int64) {q : Nat → Int32} (h0 : w.1 1 1 = nI n) (hq : ∀ k, k < n → w.1 2 k = q (5 * k) ∧ w.1 3 k = q (5 * k + 1) ∧ w.1 4 k = q (5 * k + 2) ∧ w.1 5 k = q (5 * k + 3) ∧ w.1 6 k = q (5 * k + 4)) : ∀ (r n0 i : Nat), i + r = n → r < n0 → fX8_mix_L5 N 1 w n0 (hs x q (5 * i)) (nI i) = fX8_mix_L98 N 1 w N (hs x q (5 * n)) 0 := by
  intro r
  induction r with
  | zero =>
    intro n0 i hi hr
    obtain ⟨n1, rfl⟩ : ∃ n1, n0 = n1 + 1 := ⟨n0 - 1, by omega⟩
    rw [fX8_mix_L5, h0, if_pos (nI_le (by omega) (by omega)), show i = n by omega]
  | succ r ih =>
    intro n0 i hi hr
    obtain ⟨n1, rfl⟩ : ∃ n1, n0 = n1 + 1 := ⟨n0 - 1, by omega⟩
    obtain ⟨q1, q2, q3, q4, q5⟩ := hq i (by omega)
    rw [fX8_mix_L5, h0, if_neg (nI_ge (by omega) (by omega)), rdA_n (by omega) (by decide), bS, rdA_n (by omega) (by decide), bS]
    unfold fX8_mix_L44 fX8_mix_L74
    rw [rdA_n (by omega) (by decide), bS, rdA_n (by omega) (by decide), bS, rdA_n (by omega) (by decide), bS, nI_1, show w.1 (1 + 1) i = _ from q1, show w.1 (1 + 2) i = _ from q2, show w.1 (1 + 3) i = _ from q3, show w.1 (1 + 4) i = _ from q4, show w.1 (1 + 5) i = _ from q5]
    exact ih n1 (i + 1) (by omega) (by omega)
theorem dg_end {N : Nat} {w : Mm} {S : GS} (s1 : SOK S) (s2 : CI w S) (s3 : MI w S) (hN : 1000 ≤ N) (n0 : Nat) (x : Int64) : ∃ a, fX11_digest_L6 N w (n0 + 1) x (nI 7) = some a ∧ fX12_digest_L6 N w (n0 + 1) x (nI 7) = some a := by
  obtain ⟨⟨a1, a2, a3, a4⟩, ⟨b1, b2⟩, ⟨c1, c2⟩, -⟩ := s2.1
  obtain ⟨⟨x1, x2, x3, x4⟩, ⟨y1, y2⟩, ⟨z1, z2⟩, -⟩ := s3.1
  have h7 := s1.1.1.2.1
  have h6 := s1.1.2.1.1
  have h6' := s1.1.2.2.1.1
  have e5 : 5 * nI (nn (vd (gV S))) = nI (5 * nn (vd (gV S))) := by rw [show (5 : Int32) = nI 5 from rfl, pk_mul]
  have e3 : 3 * nI (nR (gV S)) = nI (3 * nR (gV S)) := by rw [show (3 : Int32) = nI 3 from rfl, pk_mul]
  let q1 : Nat → Int32 := fun k => w.1 78 (6 + k)
  let q2 : Nat → Int32 := fun k => w.1 78 (41 + k)
  let q3 : Nat → Int32 := fun k => w.1 78 (47 + k)
  have t1 := mix1_n (N := N) (w := w) h7 x (q := q1) a2 (fun k hk => by
    obtain ⟨u1, u2, u3, u4, u5⟩ := a4 k hk
    obtain ⟨v1, v2, v3, v4, v5⟩ := x4 k hk
    exact ⟨u1.trans v1.symm, u2.trans v2.symm, u3.trans v3.symm, u4.trans v4.symm, u5.trans v5.symm⟩) _ N 0 (Nat.zero_add _) (by omega)
  have t2 := mix2_n (N := N) (w := w) h6 (hs x q1 (5 * nn (vd (gV S)))) (q := q2) b1 (fun k hk => (b2 k hk).trans (y2 k hk).symm) _ N 0 (Nat.zero_add _) (by omega)
  have t3 := mix3_n (N := N) (w := w) h6' (hs (hs x q1 (5 * nn (vd (gV S)))) q2 (nW (gV S))) (q := q3) c1 (fun k hk => by
    obtain ⟨u1, u2, u3⟩ := c2 k hk
    obtain ⟨v1, v2, v3⟩ := z2 k hk
    exact ⟨u1.trans v1.symm, u2.trans v2.symm, u3.trans v3.symm⟩) _ N 0 (Nat.zero_add _) (by omega)
  have r1 := sums_n (N := N) (w := w) (b := 6) (n := 5 * nn (vd (gV S))) (by omega) x _ N 0 (Nat.zero_add _) (by omega)
  have r2 := sums_n (N := N) (w := w) (b := 41) (n := nW (gV S)) (by omega) (hs x q1 (5 * nn (vd (gV S)))) _ N 0 (Nat.zero_add _) (by omega)
  have r3 := sums_n (N := N) (w := w) (b := 47) (n := 3 * nR (gV S)) (by omega) (hs (hs x q1 (5 * nn (vd (gV S)))) q2 (nW (gV S))) _ N 0 (Nat.zero_add _) (by omega)
  refine ⟨(31 : Int64) * ((31 : Int64) * hs (hs (hs x q1 (5 * nn (vd (gV S)))) q2 (nW (gV S))) q3 (3 * nR (gV S)) + (gF S).1) + (gF S).2, ?_, ?_⟩
  · rw [fX11_digest_L6, if_pos (show (6 : Int32) < nI 7 by decide)]
    unfold fX8_mix
    rw [show fX8_mix_L5 N 1 w N x 0 = _ from t1, show fX8_mix_L98 N 1 w N (hs x q1 (5 * nn (vd (gV S)))) 0 = _ from t2, show fX8_mix_L131 N 1 w N (hs (hs x q1 (5 * nn (vd (gV S)))) q2 (nW (gV S))) 0 = _ from t3, bS, s2.2.2.2.1.1, s2.2.2.2.1.2]
  · rw [fX12_digest_L6, if_pos (show (7 : Int32) ≤ nI 7 by decide)]
    unfold fX12_sums fX12_candles
    rw [x1, e5, show fX12_sums_L6 N w N 6 (nI (5 * nn (vd (gV S)))) x 0 = _ from r1, bS, y1, show fX12_sums_L6 N w N 41 (nI (nW (gV S))) (hs x q1 (5 * nn (vd (gV S)))) 0 = _ from r2, bS, z1, e3, show fX12_sums_L6 N w N 47 (nI (3 * nR (gV S))) (hs (hs x q1 (5 * nn (vd (gV S)))) q2 (nW (gV S))) 0 = _ from r3, bS, s3.2.2.2.1.1, s3.2.2.2.1.2]
theorem dg_n {N : Nat} {w : Mm} {S : GS} (s1 : SOK S) (s2 : CI w S) (s3 : MI w S) (hN : 1000 ≤ N) : ∀ (r n0 i : Nat) (x : Int64), i + r = 7 → r < n0 → ∃ a, fX11_digest_L6 N w n0 x (nI i) = some a ∧ fX12_digest_L6 N w n0 x (nI i) = some a := by
  intro r
  induction r with
  | zero =>
    intro n0 i x hi hr
    obtain ⟨n1, rfl⟩ : ∃ n1, n0 = n1 + 1 := ⟨n0 - 1, by omega⟩
    rw [show i = 7 by omega]
    exact dg_end s1 s2 s3 hN n1 x
  | succ r ih =>
    intro n0 i x hi hr
    obtain ⟨n1, rfl⟩ : ∃ n1, n0 = n1 + 1 := ⟨n0 - 1, by omega⟩
    obtain ⟨a, g1, g2⟩ := ih n1 (i + 1) ((31 : Int64) * x + (nI (sCo S i)).toInt64) (by omega) (by omega)
    refine ⟨a, ?_, ?_⟩
    · rw [fX11_digest_L6, if_neg (show ¬ (6 : Int32) < nI i from nI_nlt (a := 6) (by omega) (by decide))]
      unfold fX11_digest_L25
      rw [howMany_n s2 (by omega), nI_1]
      exact g1
    · rw [fX12_digest_L6, if_neg (show ¬ (7 : Int32) ≤ nI i from nI_ge (b := 7) (by omega) (by decide)), counted_n s3 (by omega), bS, nI_1]
      exact g2
theorem op_digest {N : Nat} (hN : 1000 ≤ N) {w : Mm} (h : INV w) : ∃ a, fX11_digest N w = some a ∧ fX12_digest N w = some a := by
  obtain ⟨S, s1, s2, s3⟩ := h
  exact dg_n s1 s2 s3 hN 7 N 0 991 rfl (by omega)

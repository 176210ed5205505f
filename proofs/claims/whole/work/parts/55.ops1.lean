/-! ===== calls of few lines ===== -/
theorem CI.setV {w w' : Mm} {S : GS} {V' : VV} (h : CI w S) (hf : ∀ o, (o = 0 ∨ (13 ≤ o ∧ o ≤ 36) ∨ o = 50 ∨ o = 51 ∨ o = 52) → w'.1 o = w.1 o) (h2 : w'.2 0 = w.2 0) (hV : CV w' 1 V') : CI w' (V', S.2) := by
  obtain ⟨a1, a2, a3, a4, a5⟩ := h
  refine ⟨hV, fun i hi => ?_, ?_, ?_, ?_⟩
  · rw [hf 50 (by decide)]
    exact ⟨(a2 i hi).1, fun V hV => ⟨((a2 i hi).2 V hV).1, ((a2 i hi).2 V hV).2.fr (fun j hj => hf _ (by omega))⟩⟩
  · rw [hf 51 (by decide), hf 52 (by decide)]; exact a3
  · rw [h2]; exact a4
  · rw [hf 0 (by decide)]; exact a5
theorem MI.setV {w w' : Mm} {S : GS} {V' : VV} (h : MI w S) (hf : ∀ o, (o = 77 ∨ o = 79 ∨ o = 80 ∨ o = 81 ∨ o = 89) → w'.1 o = w.1 o) (h2 : w'.2 77 = w.2 77) (hV : MV (w'.1 78) V') : MI w' (V', S.2) := by
  unfold MI
  rw [hf 77 (by decide), hf 79 (by decide), hf 80 (by decide), hf 81 (by decide), hf 89 (by decide), h2]
  exact ⟨hV, h.2⟩
theorem CI.mem {w w' : Mm} {S : GS} (h : CI w S) (hf : ∀ o, o ≤ 76 → w'.1 o = w.1 o) (h2 : w'.2 0 = w.2 0) : CI w' S := h.fr (fun o ho => hf o (by omega)) (by rw [hf 51 (by decide)]) h2
theorem MI.mem {w w' : Mm} {S : GS} (h : MI w S) (hf : ∀ o, 77 ≤ o → w'.1 o = w.1 o) (h2 : w'.2 77 = w.2 77) : MI w' S := h.fr (fun o ho => hf o (by omega)) (by rw [hf 77 (by decide)]) h2
theorem sI_78 (w : Mm) (i : Nat) (v : Int32) : (sI w 78 i v).1 78 = upd (w.1 78) i v := by simp [sI, sA]
/-! a picture's four pieces -/
def CVa (w : Mm) (v : Nat) (d : VD) : Prop := w.1 v 0 = nI (fo d) ∧ w.1 v 1 = nI (nn d) ∧ w.1 v 2 = nI (li d) ∧ ∀ k, k < nn d → w.1 (v + 1) k = nI (kd d k) ∧ w.1 (v + 2) k = nI (ce d k) ∧ w.1 (v + 3) k = nI (he d k) ∧ w.1 (v + 4) k = nI (ow d k) ∧ w.1 (v + 5) k = nI (ta d k)
def CVw (w : Mm) (v : Nat) (n : Nat) (f : Nat → Nat) : Prop := w.1 v 8 = nI n ∧ ∀ i, i < n → w.1 (v + 6) i = nI (f i)
def CVr (w : Mm) (v : Nat) (n : Nat) (f g h : Nat → Nat) : Prop := w.1 v 10 = nI n ∧ ∀ i, i < n → w.1 (v + 7) i = nI (f i) ∧ w.1 (v + 8) i = nI (g i) ∧ w.1 (v + 9) i = nI (h i)
def CVu (w : Mm) (v : Nat) (m n : Nat) (f : Nat → Nat → Nat) (g : Nat → Nat) : Prop := w.1 v 14 = nI n ∧ ∀ s, s < n → w.1 (v + 11) s = nI (g s) ∧ ∀ k, k < m → w.1 (v + 10) (7 * s + k) = nI (f s k)
theorem CV_iff {w : Mm} {v : Nat} {V : VV} : CV w v V ↔ CVa w v (vd V) ∧ CVw w v (nW V) (wA V) ∧ CVr w v (nR V) (rC V) (rH V) (rL V) ∧ CVu w v (nn (vd V)) (nS V) (oC V) (oL V) := Iff.rfl
theorem CVa.fr {w w' : Mm} {v : Nat} {d : VD} (h : CVa w v d) (h0 : w'.1 v 0 = w.1 v 0) (h1 : w'.1 v 1 = w.1 v 1) (h2 : w'.1 v 2 = w.1 v 2) (hf : ∀ j, 1 ≤ j → j ≤ 5 → w'.1 (v + j) = w.1 (v + j)) : CVa w' v d := by
  unfold CVa
  rw [h0, h1, h2, hf 1 (by decide) (by decide), hf 2 (by decide) (by decide), hf 3 (by decide) (by decide), hf 4 (by decide) (by decide), hf 5 (by decide) (by decide)]
  exact h
theorem CVw.fr {w w' : Mm} {v n : Nat} {f : Nat → Nat} (h : CVw w v n f) (h0 : w'.1 v 8 = w.1 v 8) (hf : w'.1 (v + 6) = w.1 (v + 6)) : CVw w' v n f := by
  unfold CVw
  rw [h0, hf]
  exact h
theorem CVr.fr {w w' : Mm} {v n : Nat} {f g h : Nat → Nat} (hh : CVr w v n f g h) (h0 : w'.1 v 10 = w.1 v 10) (hf : ∀ j, 7 ≤ j → j ≤ 9 → w'.1 (v + j) = w.1 (v + j)) : CVr w' v n f g h := by
  unfold CVr
  rw [h0, hf 7 (by decide) (by decide), hf 8 (by decide) (by decide), hf 9 (by decide) (by decide)]
  exact hh
theorem CVu.fr {w w' : Mm} {v m n : Nat} {f : Nat → Nat → Nat} {g : Nat → Nat} (h : CVu w v m n f g) (h0 : w'.1 v 14 = w.1 v 14) (hf : ∀ j, 10 ≤ j → j ≤ 11 → w'.1 (v + j) = w.1 (v + j)) : CVu w' v m n f g := by
  unfold CVu
  rw [h0, hf 10 (by decide) (by decide), hf 11 (by decide) (by decide)]
  exact h
def MVa (q : Nat → Int32) (d : VD) : Prop := q 0 = nI (nn d) ∧ q 1 = nI (fo d) ∧ q 2 = nI (li d) ∧ ∀ k, k < nn d → q (6 + 5 * k) = nI (kd d k) ∧ q (6 + 5 * k + 1) = nI (ce d k) ∧ q (6 + 5 * k + 2) = nI (he d k) ∧ q (6 + 5 * k + 3) = nI (ow d k) ∧ q (6 + 5 * k + 4) = nI (ta d k)
def MVw (q : Nat → Int32) (n : Nat) (f : Nat → Nat) : Prop := q 3 = nI n ∧ ∀ i, i < n → q (41 + i) = nI (f i)
def MVr (q : Nat → Int32) (n : Nat) (f g h : Nat → Nat) : Prop := q 4 = nI n ∧ ∀ i, i < n → q (47 + 3 * i) = nI (f i) ∧ q (47 + 3 * i + 1) = nI (g i) ∧ q (47 + 3 * i + 2) = nI (h i)
def MVu (q : Nat → Int32) (m n : Nat) (f : Nat → Nat → Nat) (g : Nat → Nat) : Prop := q 5 = nI n ∧ ∀ s, s < n → q (65 + 8 * s + 7) = nI (g s) ∧ ∀ k, k < m → q (65 + 8 * s + k) = nI (f s k)
theorem MV_iff {q : Nat → Int32} {V : VV} : MV q V ↔ MVa q (vd V) ∧ MVw q (nW V) (wA V) ∧ MVr q (nR V) (rC V) (rH V) (rL V) ∧ MVu q (nn (vd V)) (nS V) (oC V) (oL V) := Iff.rfl
theorem MVa.fr {q q' : Nat → Int32} {d : VD} (h : MVa q d) (hd : nn d ≤ 7) (hf : ∀ i, (i ≤ 2 ∨ (6 ≤ i ∧ i ≤ 40)) → q' i = q i) : MVa q' d := by
  refine ⟨by rw [hf 0 (by omega)]; exact h.1, by rw [hf 1 (by omega)]; exact h.2.1, by rw [hf 2 (by omega)]; exact h.2.2.1, fun k hk => ?_⟩
  rw [hf _ (by omega), hf _ (by omega), hf _ (by omega), hf _ (by omega), hf _ (by omega)]
  exact h.2.2.2 k hk
theorem MVw.fr {q q' : Nat → Int32} {n : Nat} {f : Nat → Nat} (h : MVw q n f) (hd : n ≤ 6) (hf : ∀ i, (i = 3 ∨ (41 ≤ i ∧ i ≤ 46)) → q' i = q i) : MVw q' n f :=
  ⟨by rw [hf 3 (by omega)]; exact h.1, fun i hi => by rw [hf _ (by omega)]; exact h.2 i hi⟩
theorem MVr.fr {q q' : Nat → Int32} {n : Nat} {f g h : Nat → Nat} (hh : MVr q n f g h) (hd : n ≤ 6) (hf : ∀ i, (i = 4 ∨ (47 ≤ i ∧ i ≤ 64)) → q' i = q i) : MVr q' n f g h :=
  ⟨by rw [hf 4 (by omega)]; exact hh.1, fun i hi => by rw [hf _ (by omega), hf _ (by omega), hf _ (by omega)]; exact hh.2 i hi⟩
theorem MVu.fr {q q' : Nat → Int32} {m n : Nat} {f : Nat → Nat → Nat} {g : Nat → Nat} (h : MVu q m n f g) (hm : m ≤ 7) (hf : ∀ i, (i = 5 ∨ 65 ≤ i) → q' i = q i) : MVu q' m n f g :=
  ⟨by rw [hf 5 (by omega)]; exact h.1, fun s hs => ⟨by rw [hf _ (by omega)]; exact (h.2 s hs).1, fun k hk => by rw [hf _ (by omega)]; exact (h.2 s hs).2 k hk⟩⟩
theorem op_fog {w : Mm} (h : INV w) (x : Int32) : OKi (some (fX11_fog w x)) (fun w => some (fX12_fog w x)) := by
  unfold fX11_fog fX12_fog
  rcases rg_0_9 x with ⟨h1, h2⟩ | ⟨j, -, hj, rfl, h1, h2⟩
  · refine ⟨-2, (fX11_bad w (-2)).2, (fX12_bad (fX11_bad w (-2)).2 (-2)).2, ?_, ?_, bad_both (-2) h⟩
    · rw [if_pos h1]; rfl
    · dsimp only; rw [if_pos h2]; rfl
  · obtain ⟨⟨⟨⟨f, d⟩, Vr⟩, Sr⟩, s1, s2, s3⟩ := h
    refine ⟨nI f, sI w 1 0 (nI j), sI (sI w 1 0 (nI j)) 78 1 (nI j), ?_, ?_, ⟨(((j, d), Vr), Sr), ?_, ?_, ?_⟩⟩
    · rw [if_neg h1, show w.1 1 0 = nI f from s2.1.1.1]
    · dsimp only; rw [if_neg h2, sI_o _ (by decide), show w.1 78 1 = nI f from s3.1.1.2.1]
    · obtain ⟨⟨⟨a1, a2⟩, a3⟩, a4⟩ := s1
      exact ⟨⟨⟨hj, a2⟩, a3⟩, a4⟩
    · have h4 : CI (sI w 1 0 (nI j)) (((j, d), Vr), Sr) := by
        refine s2.setV (fun o ho => sI_o w (by omega)) rfl ?_
        obtain ⟨⟨a1, a2⟩, a3⟩ := s2.1
        have e : ∀ i, i ≠ 0 → (sI w 1 0 (nI j)).1 1 i = w.1 1 i := fun i hi => by rw [sI_1, if_neg (fun z => hi z.2)]
        unfold CV
        rw [e 1 (by decide), e 2 (by decide), e 8 (by decide), e 10 (by decide), e 14 (by decide), sI_o w (show 1 + 1 ≠ 1 by decide), sI_o w (show 1 + 2 ≠ 1 by decide), sI_o w (show 1 + 3 ≠ 1 by decide), sI_o w (show 1 + 4 ≠ 1 by decide), sI_o w (show 1 + 5 ≠ 1 by decide), sI_o w (show 1 + 6 ≠ 1 by decide), sI_o w (show 1 + 7 ≠ 1 by decide), sI_o w (show 1 + 8 ≠ 1 by decide), sI_o w (show 1 + 9 ≠ 1 by decide), sI_o w (show 1 + 10 ≠ 1 by decide), sI_o w (show 1 + 11 ≠ 1 by decide)]
        exact ⟨⟨by rw [sI_1, if_pos ⟨rfl, rfl⟩]; rfl, a2⟩, a3⟩
      exact h4.mem (fun o ho => sI_o _ (by omega)) rfl
    · have h4 : MI (sI w 1 0 (nI j)) (((f, d), Vr), Sr) := s3.mem (fun o ho => sI_o _ (by omega)) rfl
      refine h4.setV (fun o ho => sI_o _ (by omega)) rfl ?_
      rw [sI_78]
      have h5 := h4.1
      generalize (sI w 1 0 (nI j)).1 78 = q at h5 ⊢
      obtain ⟨⟨a1, a2, a3, a3'⟩, a4, a5, a6⟩ := h5
      have e : ∀ i, i ≠ 1 → upd q 1 (nI j) i = q i := fun i hi => pk_un hi
      refine ⟨⟨?_, pk_us, ?_, fun k hk => ?_⟩, ⟨?_, fun i hi => ?_⟩, ⟨?_, fun i hi => ?_⟩, ?_, fun s hs => ⟨?_, fun k hk => ?_⟩⟩
      · rw [e 0 (by decide)]; exact a1
      · rw [e 2 (by decide)]; exact a3
      · rw [e _ (by omega), e _ (by omega), e _ (by omega), e _ (by omega), e _ (by omega)]; exact a3' k hk
      · rw [e 3 (by decide)]; exact a4.1
      · rw [e _ (by omega)]; exact a4.2 i hi
      · rw [e 4 (by decide)]; exact a5.1
      · rw [e _ (by omega), e _ (by omega), e _ (by omega)]; exact a5.2 i hi
      · rw [e 5 (by decide)]; exact a6.1
      · rw [e _ (by omega)]; exact (a6.2 s hs).1
      · rw [e _ (by omega)]; exact (a6.2 s hs).2 k hk
/-! no candles, and so on: what a fresh valley is -/
def freshV (f : Nat) : VV := ((f, 0, 0, fun _ => 0, fun _ => 0, fun _ => 0, fun _ => 0, fun _ => 0), (0, fun _ => 0), (0, fun _ => 0, fun _ => 0, fun _ => 0), (0, fun _ _ => 0, fun _ => 0))
theorem freshV_ok {f : Nat} (h : f ≤ 9) : VVOK (freshV f) := by
  refine ⟨⟨h, Nat.zero_le _, Nat.zero_lt_one, fun k hk => absurd hk (by show ¬ k < 0; omega)⟩, ⟨Nat.zero_le _, fun k hk => absurd hk (by show ¬ k < 0; omega)⟩, ⟨Nat.zero_le _, fun k hk => absurd hk (by show ¬ k < 0; omega)⟩, ⟨Nat.zero_le _, fun k hk => absurd hk (by show ¬ k < 0; omega)⟩⟩
theorem startAnew_at {w : Mm} {v : Nat} {x : Int32} (i : Nat) : (fX8_startAnew v w x).1 v i = if i = 14 then 0 else if i = 10 then 0 else if i = 8 then 0 else if i = 2 then 0 else if i = 1 then 0 else if i = 0 then x else w.1 v i := by
  unfold fX8_startAnew
  rw [sI_1, sI_1, sI_1, sI_1, sI_1, sI_1]
  simp only [true_and]
theorem startAnew_o {w : Mm} {v : Nat} {x : Int32} {o : Nat} (h : o ≠ v) : (fX8_startAnew v w x).1 o = w.1 o := by
  unfold fX8_startAnew
  rw [sI_o _ h, sI_o _ h, sI_o _ h, sI_o _ h, sI_o _ h, sI_o _ h]
theorem startAnew_cv {w : Mm} {v f : Nat} : CV (fX8_startAnew v w (nI f)) v (freshV f) := by
  have z : ∀ k, ¬ k < nn (vd (freshV f)) := fun k hk => absurd hk (by show ¬ k < 0; omega)
  refine ⟨⟨by rw [startAnew_at]; rfl, by rw [startAnew_at]; rfl, by rw [startAnew_at]; rfl, fun k hk => absurd hk (z k)⟩, ⟨by rw [startAnew_at]; rfl, fun k hk => absurd hk (z k)⟩, ⟨by rw [startAnew_at]; rfl, fun k hk => absurd hk (z k)⟩, ⟨by rw [startAnew_at]; rfl, fun k hk => absurd hk (z k)⟩⟩
theorem begin_n {N a n : Nat} (hn : 65 ≤ n) (hn2 : n < 2 ^ 31) {f : Int32} : ∀ (r n0 i : Nat) (w : Mm), i + r = 65 → r < n0 → (∀ j, j < i → w.1 a j = 0) → ∃ w', fX12_begin_L2 N a n n0 w f (nI i) = some w' ∧ Fr [a] w w' ∧ (∀ j, j < 65 → w'.1 a j = if j = 1 then f else 0) ∧ ∀ j, 65 ≤ j → w'.1 a j = w.1 a j := by
  intro r
  induction r with
  | zero =>
    intro n0 i w hi hr hj
    obtain ⟨n1, rfl⟩ : ∃ n1, n0 = n1 + 1 := ⟨n0 - 1, by omega⟩
    refine ⟨sI w a 1 f, ?_, Fr.sI (List.mem_cons_self), fun j h65 => ?_, fun j h65 => by rw [sI_1, if_neg (by omega)]⟩
    · rw [fX12_begin_L2, if_pos (show (65 : Int32) ≤ nI i from nI_le (a := 65) (by omega) (by omega))]
      rw [show (1 : Int32) = nI 1 from rfl, wrA_n (by omega) hn2, bS]
    · rw [sI_1]
      by_cases e : j = 1
      · rw [if_pos ⟨rfl, e⟩, if_pos e]
      · rw [if_neg (fun z => e z.2), if_neg e, hj j (by omega)]
  | succ r ih =>
    intro n0 i w hi hr hj
    obtain ⟨n1, rfl⟩ : ∃ n1, n0 = n1 + 1 := ⟨n0 - 1, by omega⟩
    obtain ⟨w', e1, e2, e3, e4⟩ := ih n1 (i + 1) (sI w a i 0) (by omega) (by omega) (fun j hj2 => by
      rw [sI_1]
      by_cases e : j = i
      · rw [if_pos ⟨rfl, e⟩]
      · rw [if_neg (fun z => e z.2)]; exact hj j (by omega))
    refine ⟨w', ?_, (Fr.sI (List.mem_cons_self)).then e2, e3, fun j h65 => by rw [e4 j h65, sI_1, if_neg (by omega)]⟩
    rw [fX12_begin_L2, if_neg (show ¬ (65 : Int32) ≤ nI i from nI_ge (b := 65) (by omega) (by decide)), wrA_n (by omega) hn2, bS, nI_1]
    exact e1
theorem fresh_mv {q : Nat → Int32} {f : Nat} (h : ∀ j, j < 65 → q j = if j = 1 then nI f else 0) : MV q (freshV f) := by
  have z : ∀ k, ¬ k < nn (vd (freshV f)) := fun k hk => absurd hk (by show ¬ k < 0; omega)
  refine ⟨⟨by rw [h 0 (by decide)]; rfl, by rw [h 1 (by decide)]; rfl, by rw [h 2 (by decide)]; rfl, fun k hk => absurd hk (z k)⟩, ⟨by rw [h 3 (by decide)]; rfl, fun k hk => absurd hk (z k)⟩, ⟨by rw [h 4 (by decide)]; rfl, fun k hk => absurd hk (z k)⟩, ⟨by rw [h 5 (by decide)]; rfl, fun k hk => absurd hk (z k)⟩⟩
theorem op_valley {N : Nat} (hN : 1000 ≤ N) {w : Mm} (h : INV w) (x : Int32) : OKi (some (fX11_valley w x)) (fun w => fX12_valley N w x) := by
  unfold fX11_valley fX12_valley
  rcases rg_0_9 x with ⟨h1, h2⟩ | ⟨j, -, hj, rfl, h1, h2⟩
  · refine ⟨-2, (fX11_bad w (-2)).2, (fX12_bad (fX11_bad w (-2)).2 (-2)).2, ?_, ?_, bad_both (-2) h⟩
    · rw [if_pos h1]; rfl
    · dsimp only; rw [if_pos h2]; rfl
  · obtain ⟨S, s1, s2, s3⟩ := h
    obtain ⟨w2, e1, e2, e3, e4⟩ := begin_n (N := N) (a := 78) (n := 129) (by decide) (by decide) (f := nI j) 65 N 0 (fX8_startAnew 1 w (nI j)) rfl (by omega) (fun j hj => absurd hj (by omega))
    have m1 : MI (fX8_startAnew 1 w (nI j)) S := s3.mem (fun o ho => startAnew_o (by omega)) rfl
    refine ⟨nI (nn (vd (gV S))), fX8_startAnew 1 w (nI j), w2, ?_, ?_, ⟨(freshV j, S.2), ⟨freshV_ok hj, s1.2⟩, ?_, ?_⟩⟩
    · rw [if_neg h1, show w.1 1 1 = nI (nn (vd (gV S))) from s2.1.1.2.1]
    · dsimp only
      rw [if_neg h2, show fX12_begin N 78 129 (fX8_startAnew 1 w (nI j)) (nI j) = some w2 from e1, bS]
      unfold fX12_candles
      rw [show (fX8_startAnew 1 w (nI j)).1 78 0 = nI (nn (vd (gV S))) from m1.1.1.1]
    · have c1 : CI (fX8_startAnew 1 w (nI j)) (freshV j, S.2) := s2.setV (fun o ho => startAnew_o (by omega)) rfl startAnew_cv
      exact c1.mem (fun o ho => e2.1 o (by simp; omega)) (by rw [e2.2])
    · exact m1.setV (fun o ho => e2.1 o (by simp; omega)) (by rw [e2.2]) (fresh_mv e3)

/-! wanted cells, readings -/
theorem op_forget {w : Mm} (h : INV w) : OKi (some (fX11_forget w)) (fun w => some (fX12_forget w)) := by
  obtain ⟨⟨⟨d, ⟨nw, wa⟩, Vr⟩, Sr⟩, s1, s2, s3⟩ := h
  have m1 : MI (sI w 1 8 0) ((d, (nw, wa), Vr), Sr) := s3.mem (fun o ho => sI_o _ (by omega)) rfl
  refine ⟨nI nw, sI w 1 8 0, sI (sI w 1 8 0) 78 3 0, ?_, ?_, ⟨((d, (0, wa), Vr), Sr), ?_, ?_, ?_⟩⟩
  · unfold fX11_forget; rw [show w.1 1 8 = nI nw from s2.1.2.1.1]
  · unfold fX12_forget; dsimp only; rw [show (sI w 1 8 0).1 78 3 = nI nw from m1.1.2.1.1]
  · exact ⟨⟨s1.1.1, ⟨Nat.zero_le _, fun i hi => absurd hi (by show ¬ i < 0; omega)⟩, s1.1.2.2⟩, s1.2⟩
  · have c1 : CI (sI w 1 8 0) ((d, (0, wa), Vr), Sr) := by
      refine s2.setV (fun o ho => sI_o w (by omega)) rfl (CV_iff.mpr ?_)
      obtain ⟨a1, a2, a3, a4⟩ := CV_iff.mp s2.1
      have e : ∀ i, i ≠ 8 → (sI w 1 8 0).1 1 i = w.1 1 i := fun i hi => by rw [sI_1, if_neg (fun z => hi z.2)]
      exact ⟨a1.fr (e 0 (by decide)) (e 1 (by decide)) (e 2 (by decide)) (fun j _ _ => sI_o w (by omega)), ⟨by rw [sI_1, if_pos ⟨rfl, rfl⟩]; rfl, fun i hi => absurd hi (by show ¬ i < 0; omega)⟩, a3.fr (e 10 (by decide)) (fun j _ _ => sI_o w (by omega)), a4.fr (e 14 (by decide)) (fun j _ _ => sI_o w (by omega))⟩
    exact c1.mem (fun o ho => sI_o _ (by omega)) rfl
  · refine m1.setV (fun o ho => sI_o _ (by omega)) rfl (MV_iff.mpr ?_)
    rw [sI_78]
    obtain ⟨a1, a2, a3, a4⟩ := MV_iff.mp m1.1
    exact ⟨a1.fr s1.1.1.2.1 (fun i hi => pk_un (by omega)), ⟨pk_us, fun i hi => absurd hi (by show ¬ i < 0; omega)⟩, a3.fr s1.1.2.2.1.1 (fun i hi => pk_un (by omega)), a4.fr s1.1.1.2.1 (fun i hi => pk_un (by omega))⟩
theorem op_burnt {w : Mm} (h : INV w) : OKi (some (fX11_burnt w)) (fun w => some (fX12_burnt w)) := by
  obtain ⟨⟨⟨d, Wr, ⟨nr, rc, rh, rl⟩, Ur⟩, Sr⟩, s1, s2, s3⟩ := h
  have m1 : MI (sI w 1 10 0) ((d, Wr, (nr, rc, rh, rl), Ur), Sr) := s3.mem (fun o ho => sI_o _ (by omega)) rfl
  refine ⟨nI nr, sI w 1 10 0, sI (sI w 1 10 0) 78 4 0, ?_, ?_, ⟨((d, Wr, (0, rc, rh, rl), Ur), Sr), ?_, ?_, ?_⟩⟩
  · unfold fX11_burnt; rw [show w.1 1 10 = nI nr from s2.1.2.2.1.1]
  · unfold fX12_burnt; dsimp only; rw [show (sI w 1 10 0).1 78 4 = nI nr from m1.1.2.2.1.1]
  · exact ⟨⟨s1.1.1, s1.1.2.1, ⟨Nat.zero_le _, fun i hi => absurd hi (by show ¬ i < 0; omega)⟩, s1.1.2.2.2⟩, s1.2⟩
  · have c1 : CI (sI w 1 10 0) ((d, Wr, (0, rc, rh, rl), Ur), Sr) := by
      refine s2.setV (fun o ho => sI_o w (by omega)) rfl (CV_iff.mpr ?_)
      obtain ⟨a1, a2, a3, a4⟩ := CV_iff.mp s2.1
      have e : ∀ i, i ≠ 10 → (sI w 1 10 0).1 1 i = w.1 1 i := fun i hi => by rw [sI_1, if_neg (fun z => hi z.2)]
      exact ⟨a1.fr (e 0 (by decide)) (e 1 (by decide)) (e 2 (by decide)) (fun j _ _ => sI_o w (by omega)), a2.fr (e 8 (by decide)) (sI_o w (by decide)), ⟨by rw [sI_1, if_pos ⟨rfl, rfl⟩]; rfl, fun i hi => absurd hi (by show ¬ i < 0; omega)⟩, a4.fr (e 14 (by decide)) (fun j _ _ => sI_o w (by omega))⟩
    exact c1.mem (fun o ho => sI_o _ (by omega)) rfl
  · refine m1.setV (fun o ho => sI_o _ (by omega)) rfl (MV_iff.mpr ?_)
    rw [sI_78]
    obtain ⟨a1, a2, a3, a4⟩ := MV_iff.mp m1.1
    exact ⟨a1.fr s1.1.1.2.1 (fun i hi => pk_un (by omega)), a2.fr s1.1.2.1.1 (fun i hi => pk_un (by omega)), ⟨pk_us, fun i hi => absurd hi (by show ¬ i < 0; omega)⟩, a4.fr s1.1.1.2.1 (fun i hi => pk_un (by omega))⟩
def uN (f : Nat → Nat) (k v : Nat) : Nat → Nat := fun j => if j = k then v else f j
theorem uN_s {f : Nat → Nat} {k v : Nat} : uN f k v k = v := by simp [uN]
theorem uN_n {f : Nat → Nat} {k v j : Nat} (h : j ≠ k) : uN f k v j = f j := by simp [uN, h]
theorem op_want {w : Mm} (h : INV w) (x : Int32) : OKi (fX11_want w x) (fun w => fX12_want w x) := by
  unfold fX11_want fX12_want fX11_isCell fX12_isCell
  rcases rg_0_63 x with ⟨h1, h2⟩ | ⟨c, -, hc, rfl, h1, h2⟩
  · rw [if_pos h1]; simp only [if_pos h2]; exact ok_bad (-2) h
  · rw [if_neg h1]; simp only [if_neg h2]
    obtain ⟨⟨⟨d, ⟨nw, wa⟩, Vr⟩, Sr⟩, s1, s2, s3⟩ := id h
    have hw8 : w.1 1 8 = nI nw := s2.1.2.1.1
    have hm3 : w.1 78 3 = nI nw := s3.1.2.1.1
    have hnw : nw ≤ 6 := s1.1.2.1.1
    by_cases h6 : nw = 6
    · subst h6
      rw [hw8, if_neg (show ¬ nI 6 < 6 by decide)]
      obtain ⟨r, w1, w2, q1, q2, q3⟩ := ok_full h
      refine ⟨r, w1, w2, q1, ?_, q3⟩
      have e : w1.1 78 3 = 6 := by
        have : w1 = (fX11_full w).2 := (congrArg Prod.snd (Option.some.inj q1)).symm
        rw [this]; unfold fX11_full; rw [sI_o _ (by decide), hm3]; rfl
      dsimp only; rw [if_pos e]; exact q2
    · rw [hw8, if_pos (show nI nw < 6 from nI_lt (b := 6) (by omega) (by decide)), wrA_n (by omega) (by decide), bS, bS]
      have e8 : (sI w 7 nw (nI c)).1 1 8 = nI nw := by rw [sI_o _ (by decide)]; exact hw8
      have e1 : (sI (sI w 7 nw (nI c)) 1 8 (nI (nw + 1))).1 1 8 = nI (nw + 1) := by rw [sI_1, if_pos ⟨rfl, rfl⟩]
      rw [e8, nI_1, e1]
      generalize hw1 : sI (sI w 7 nw (nI c)) 1 8 (nI (nw + 1)) = w1
      have hf : ∀ o, o ≠ 1 → o ≠ 7 → w1.1 o = w.1 o := fun o o1 o7 => by rw [← hw1, sI_o _ o1, sI_o _ o7]
      have e : ∀ i, i ≠ 8 → w1.1 1 i = w.1 1 i := fun i hi => by rw [← hw1, sI_1, if_neg (fun z => hi z.2), sI_o _ (by decide)]
      have h2 : w1.2 = w.2 := by rw [← hw1]; rfl
      have m1 : MI w1 ((d, (nw, wa), Vr), Sr) := s3.mem (fun o ho => hf o (by omega) (by omega)) (by rw [h2])
      have e3 : w1.1 78 3 = nI nw := m1.1.2.1.1
      have e41 : 41 + nI nw = nI (41 + nw) := by rw [show (41 : Int32) = nI 41 from rfl, nI_add]
      refine ⟨nI (nw + 1), w1, sI (sI w1 78 (41 + nw) (nI c)) 78 3 (nI (nw + 1)), rfl, ?_, ⟨((d, (nw + 1, uN wa nw c), Vr), Sr), ?_, ?_, ?_⟩⟩
      · dsimp only
        rw [e3, if_neg (show ¬ nI nw = 6 from fun z => h6 ((nI_eq (b := 6) (by omega) (by decide)).mp z)), e41, wrA_n (by omega) (by decide), bS, bS]
        have e5 : (sI w1 78 (41 + nw) (nI c)).1 78 3 = nI nw := by rw [sI_1, if_neg (by omega)]; exact e3
        rw [e5, nI_1, sI_1, if_pos ⟨rfl, rfl⟩]
      · refine ⟨⟨s1.1.1, ⟨by show nw + 1 ≤ 6; omega, fun i hi => ?_⟩, s1.1.2.2⟩, s1.2⟩
        show uN wa nw c i < 64
        by_cases ei : i = nw
        · rw [ei, uN_s]; omega
        · rw [uN_n ei]; exact s1.1.2.1.2 i (by have : i < nw + 1 := hi; show i < nw; omega)
      · have c1 : CI w1 ((d, (nw + 1, uN wa nw c), Vr), Sr) := by
          refine s2.setV (fun o ho => hf o (by omega) (by omega)) (by rw [h2]) (CV_iff.mpr ?_)
          obtain ⟨a1, a2, a3, a4⟩ := CV_iff.mp s2.1
          refine ⟨a1.fr (e 0 (by decide)) (e 1 (by decide)) (e 2 (by decide)) (fun j _ _ => hf _ (by omega) (by omega)), ⟨by rw [← hw1, e1]; rfl, fun i hi => ?_⟩, a3.fr (e 10 (by decide)) (fun j _ _ => hf _ (by omega) (by omega)), a4.fr (e 14 (by decide)) (fun j _ _ => hf _ (by omega) (by omega))⟩
          show w1.1 7 i = nI (uN wa nw c i)
          rw [← hw1, sI_o _ (by decide), sI_1]
          by_cases ei : i = nw
          · rw [if_pos ⟨rfl, ei⟩, ei, uN_s]
          · rw [if_neg (fun z => ei z.2), uN_n ei]; exact a2.2 i (by have : i < nw + 1 := hi; show i < nw; omega)
        exact c1.mem (fun o ho => by rw [sI_o _ (by omega), sI_o _ (by omega)]) rfl
      · refine m1.setV (fun o ho => by rw [sI_o _ (by omega), sI_o _ (by omega)]) rfl (MV_iff.mpr ?_)
        rw [sI_78, sI_78]
        obtain ⟨a1, a2, a3, a4⟩ := MV_iff.mp m1.1
        have u : ∀ i, i ≠ 3 → i ≠ 41 + nw → upd (upd (w1.1 78) (41 + nw) (nI c)) 3 (nI (nw + 1)) i = w1.1 78 i := fun i i3 i4 => by rw [pk_un i3, pk_un i4]
        refine ⟨a1.fr s1.1.1.2.1 (fun i hi => u i (by omega) (by omega)), ⟨pk_us, fun i hi => ?_⟩, a3.fr s1.1.2.2.1.1 (fun i hi => u i (by omega) (by omega)), a4.fr s1.1.1.2.1 (fun i hi => u i (by omega) (by omega))⟩
        have hi : i < nw + 1 := hi
        show _ = nI (uN wa nw c i)
        rw [pk_un (by omega)]
        by_cases ei : i = nw
        · rw [ei, pk_us, uN_s]
        · rw [pk_un (by omega), uN_n ei]; exact a2.2 i (by show i < nw; omega)

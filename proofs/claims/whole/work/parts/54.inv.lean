/-! ===== the whole state, as both sides hold it ===== -/
/-- candles; wanted cells; readings; what may be undone -/
abbrev VV : Type := VD × (Nat × (Nat → Nat)) × (Nat × (Nat → Nat) × (Nat → Nat) × (Nat → Nat)) × (Nat × (Nat → Nat → Nat) × (Nat → Nat))
def vd (V : VV) : VD := V.1
def nW (V : VV) : Nat := V.2.1.1
def wA (V : VV) : Nat → Nat := V.2.1.2
def nR (V : VV) : Nat := V.2.2.1.1
def rC (V : VV) : Nat → Nat := V.2.2.1.2.1
def rH (V : VV) : Nat → Nat := V.2.2.1.2.2.1
def rL (V : VV) : Nat → Nat := V.2.2.1.2.2.2
def nS (V : VV) : Nat := V.2.2.2.1
def oC (V : VV) : Nat → Nat → Nat := V.2.2.2.2.1
def oL (V : VV) : Nat → Nat := V.2.2.2.2.2
def VVOK (V : VV) : Prop := VOK (vd V) ∧ (nW V ≤ 6 ∧ ∀ i, i < nW V → wA V i < 64) ∧ (nR V ≤ 6 ∧ ∀ i, i < nR V → rC V i < 64 ∧ rH V i < 12 ∧ rL V i ≤ 23) ∧ (nS V ≤ 8 ∧ ∀ s, s < nS V → oL V s < 2 ^ nn (vd V) ∧ ∀ k, k < nn (vd V) → oC V s k < 64)
def CV (w : Mm) (v : Nat) (V : VV) : Prop := (w.1 v 0 = nI (fo (vd V)) ∧ w.1 v 1 = nI (nn (vd V)) ∧ w.1 v 2 = nI (li (vd V)) ∧ ∀ k, k < nn (vd V) → w.1 (v + 1) k = nI (kd (vd V) k) ∧ w.1 (v + 2) k = nI (ce (vd V) k) ∧ w.1 (v + 3) k = nI (he (vd V) k) ∧ w.1 (v + 4) k = nI (ow (vd V) k) ∧ w.1 (v + 5) k = nI (ta (vd V) k)) ∧
  (w.1 v 8 = nI (nW V) ∧ ∀ i, i < nW V → w.1 (v + 6) i = nI (wA V i)) ∧
  (w.1 v 10 = nI (nR V) ∧ ∀ i, i < nR V → w.1 (v + 7) i = nI (rC V i) ∧ w.1 (v + 8) i = nI (rH V i) ∧ w.1 (v + 9) i = nI (rL V i)) ∧
  (w.1 v 14 = nI (nS V) ∧ ∀ s, s < nS V → w.1 (v + 11) s = nI (oL V s) ∧ ∀ k, k < nn (vd V) → w.1 (v + 10) (7 * s + k) = nI (oC V s k))
def MV (f : Nat → Int32) (V : VV) : Prop := (f 0 = nI (nn (vd V)) ∧ f 1 = nI (fo (vd V)) ∧ f 2 = nI (li (vd V)) ∧ ∀ k, k < nn (vd V) → f (6 + 5 * k) = nI (kd (vd V) k) ∧ f (6 + 5 * k + 1) = nI (ce (vd V) k) ∧ f (6 + 5 * k + 2) = nI (he (vd V) k) ∧ f (6 + 5 * k + 3) = nI (ow (vd V) k) ∧ f (6 + 5 * k + 4) = nI (ta (vd V) k)) ∧
  (f 3 = nI (nW V) ∧ ∀ i, i < nW V → f (41 + i) = nI (wA V i)) ∧
  (f 4 = nI (nR V) ∧ ∀ i, i < nR V → f (47 + 3 * i) = nI (rC V i) ∧ f (47 + 3 * i + 1) = nI (rH V i) ∧ f (47 + 3 * i + 2) = nI (rL V i)) ∧
  (f 5 = nI (nS V) ∧ ∀ s, s < nS V → f (65 + 8 * s + 7) = nI (oL V s) ∧ ∀ k, k < nn (vd V) → f (65 + 8 * s + k) = nI (oC V s k))
/-- valley; images; text; fraction; status -/
abbrev GS : Type := VV × (Nat → Option VV) × (Nat × (Nat → Nat)) × (Int64 × Int64) × (Int32 × Int32 × Int32)
def gV (S : GS) : VV := S.1
def gI (S : GS) : Nat → Option VV := S.2.1
def gN (S : GS) : Nat := S.2.2.1.1
def gB (S : GS) : Nat → Nat := S.2.2.1.2
def gF (S : GS) : Int64 × Int64 := S.2.2.2.1
def gS (S : GS) : Int32 × Int32 × Int32 := S.2.2.2.2
def SOK (S : GS) : Prop := VVOK (gV S) ∧ (∀ i V, i < 2 → gI S i = some V → VVOK V) ∧ gN S ≤ 150 ∧ ∀ i, i < gN S → gB S i < 128
def CI (w : Mm) (S : GS) : Prop := CV w 1 (gV S) ∧ (∀ i, i < 2 → (gI S i = none → w.1 50 i = 0) ∧ ∀ V, gI S i = some V → w.1 50 i = 1 ∧ CV w (13 + 12 * i) V) ∧ (w.1 51 1 = nI (gN S) ∧ ∀ i, i < gN S → w.1 52 i = nI (gB S i)) ∧ (w.2 0 7 = (gF S).1 ∧ w.2 0 8 = (gF S).2) ∧ w.1 0 9 = (gS S).1 ∧ w.1 0 10 = (gS S).2.1 ∧ w.1 0 11 = (gS S).2.2
def MI (w : Mm) (S : GS) : Prop := MV (w.1 78) (gV S) ∧ (∀ i, i < 2 → (gI S i = none → w.1 80 i = 0) ∧ ∀ V, gI S i = some V → w.1 80 i = 1 ∧ MV (fun j => w.1 79 (129 * i + j)) V) ∧ (w.1 77 16 = nI (gN S) ∧ ∀ i, i < gN S → w.1 89 i = nI (gB S i)) ∧ (w.2 77 4 = (gF S).1 ∧ w.2 77 5 = (gF S).2) ∧ w.1 81 0 = (gS S).1 ∧ w.1 81 1 = (gS S).2.1 ∧ w.1 81 2 = (gS S).2.2
def INV (w : Mm) : Prop := ∃ S, SOK S ∧ CI w S ∧ MI w S
theorem CV.fr {w w' : Mm} {v : Nat} {V : VV} (h : CV w v V) (hf : ∀ j, j ≤ 11 → w'.1 (v + j) = w.1 (v + j)) : CV w' v V := by
  have e0 : w'.1 v = w.1 v := hf 0 (by decide)
  unfold CV
  rw [e0, hf 1 (by decide), hf 2 (by decide), hf 3 (by decide), hf 4 (by decide), hf 5 (by decide), hf 6 (by decide), hf 7 (by decide), hf 8 (by decide), hf 9 (by decide), hf 10 (by decide), hf 11 (by decide)]
  exact h
theorem CI.fr {w w' : Mm} {S : GS} (h : CI w S) (hf : ∀ o, o ≤ 36 ∨ o = 50 ∨ o = 52 → w'.1 o = w.1 o) (h51 : w'.1 51 1 = w.1 51 1) (h2 : w'.2 0 = w.2 0) : CI w' S := by
  obtain ⟨a1, a2, a3, a4, a5⟩ := h
  refine ⟨a1.fr (fun j hj => hf _ (Or.inl (by omega))), fun i hi => ?_, ?_, ?_, ?_⟩
  · rw [hf 50 (by decide)]
    exact ⟨(a2 i hi).1, fun V hV => ⟨((a2 i hi).2 V hV).1, ((a2 i hi).2 V hV).2.fr (fun j hj => hf _ (Or.inl (by omega)))⟩⟩
  · rw [h51, hf 52 (by decide)]; exact a3
  · rw [h2]; exact a4
  · rw [hf 0 (by decide)]; exact a5
theorem MI.fr {w w' : Mm} {S : GS} (h : MI w S) (hf : ∀ o, o = 78 ∨ o = 79 ∨ o = 80 ∨ o = 81 ∨ o = 89 → w'.1 o = w.1 o) (h77 : w'.1 77 16 = w.1 77 16) (h2 : w'.2 77 = w.2 77) : MI w' S := by
  unfold MI
  rw [hf 78 (by decide), hf 79 (by decide), hf 80 (by decide), hf 81 (by decide), hf 89 (by decide), h77, h2]
  exact h
/-- only what nobody can see has changed -/
def isScr (L : List Nat) : Bool := L.all (fun o => decide (37 ≤ o ∧ o ≤ 49) || decide (53 ≤ o ∧ o ≤ 76) || decide (82 ≤ o ∧ o ≤ 88) || decide (90 ≤ o))
theorem scr_no {L : List Nat} (h : isScr L = true) {o : Nat} (ho : o ≤ 36 ∨ o = 50 ∨ o = 51 ∨ o = 52 ∨ o = 77 ∨ o = 78 ∨ o = 79 ∨ o = 80 ∨ o = 81 ∨ o = 89) : o ∉ L := by
  intro hm
  have h1 := List.all_eq_true.mp h o hm
  simp only [Bool.or_eq_true, decide_eq_true_eq] at h1
  omega
theorem CI.scr {w w' : Mm} {S : GS} {L : List Nat} (h : CI w S) (hf : Fr L w w') (hL : isScr L = true) : CI w' S :=
  h.fr (fun o ho => hf.1 o (scr_no hL (by omega))) (by rw [hf.1 51 (scr_no hL (by omega))]) (by rw [hf.2])
theorem MI.scr {w w' : Mm} {S : GS} {L : List Nat} (h : MI w S) (hf : Fr L w w') (hL : isScr L = true) : MI w' S :=
  h.fr (fun o ho => hf.1 o (scr_no hL (by omega))) (by rw [hf.1 77 (scr_no hL (by omega))]) (by rw [hf.2])
/-- the reference's own scratch fields too -/
theorem CI.hand {w w' : Mm} {S : GS} {L : List Nat} (h : CI w S) (hf : Fr (77 :: L) w w') (hL : isScr L = true) : CI w' S :=
  h.fr (fun o ho => hf.1 o (fun z => (List.mem_cons.mp z).elim (fun e => by omega) (scr_no hL (by omega)))) (by rw [hf.1 51 (fun z => (List.mem_cons.mp z).elim (fun e => by omega) (scr_no hL (by omega)))]) (by rw [hf.2])
theorem MI.hand {w w' : Mm} {S : GS} {L : List Nat} (h : MI w S) (hf : Fr (77 :: L) w w') (hL : isScr L = true) (h77 : w'.1 77 16 = w.1 77 16) : MI w' S :=
  h.fr (fun o ho => hf.1 o (fun z => (List.mem_cons.mp z).elim (fun e => by omega) (scr_no hL (by omega)))) h77 (by rw [hf.2])
/-- both answer, alike, and go on -/
def OKi (fx : Option (Int32 × Mm)) (fm : Mm → Option (Int32 × Mm)) : Prop := ∃ r w1 w2, fx = some (r, w1) ∧ fm w1 = some (r, w2) ∧ INV w2
def OKj (fx : Option (Int64 × Mm)) (fm : Mm → Option (Int64 × Mm)) : Prop := ∃ r w1 w2, fx = some (r, w1) ∧ fm w1 = some (r, w2) ∧ INV w2
theorem CV.lp {w : Mm} {V : VV} (h : CV w 1 V) : LPc w (vd V) := h.1
theorem MV.np {w : Mm} {V : VV} (h : MV (w.1 78) V) : NP w (vd V) := h.1
/-! refusals -/
theorem bad_both {w : Mm} (x : Int32) (h : INV w) : INV (fX12_bad (fX11_bad w x).2 x).2 := by
  obtain ⟨⟨V, I, T, F, b, n, f⟩, h1, h2, h3⟩ := h
  refine ⟨(V, I, T, F, b + 1, n, f), h1, ?_, ?_⟩
  · have h4 : CI (sI w 0 9 (w.1 0 9 + 1)) (V, I, T, F, b + 1, n, f) := by
      obtain ⟨a1, a2, a3, a4, a5, a6, a7⟩ := h2
      refine ⟨a1.fr (fun j hj => sI_o w (by omega)), fun i hi => ⟨fun z => ?_, fun V' z => ⟨?_, ((a2 i hi).2 V' z).2.fr (fun j hj => sI_o w (by omega))⟩⟩, ?_, a4, ?_, ?_, ?_⟩
      · rw [sI_o w (by decide)]; exact (a2 i hi).1 z
      · rw [sI_o w (by decide)]; exact ((a2 i hi).2 V' z).1
      · rw [sI_o w (by decide), sI_o w (by decide)]; exact a3
      · rw [sI_1, if_pos ⟨rfl, rfl⟩, a5]; rfl
      · rw [sI_1, if_neg (by decide)]; exact a6
      · rw [sI_1, if_neg (by decide)]; exact a7
    exact h4.fr (fun o ho => sI_o _ (by omega)) (by unfold fX12_bad fX11_bad; rw [sI_o _ (by decide)]) rfl
  · have h4 : MI (fX11_bad w x).2 (V, I, T, F, b, n, f) := h3.fr (fun o ho => sI_o _ (by omega)) (by unfold fX11_bad; rw [sI_o _ (by decide)]) rfl
    obtain ⟨a1, a2, a3, a4, a5, a6, a7⟩ := h4
    unfold fX12_bad
    refine ⟨by rw [sI_o _ (by decide)]; exact a1, fun i hi => ?_, ?_, a4, ?_, ?_, ?_⟩
    · rw [sI_o _ (show (80 : Nat) ≠ 81 by decide), sI_o _ (show (79 : Nat) ≠ 81 by decide)]; exact a2 i hi
    · rw [sI_o _ (show (77 : Nat) ≠ 81 by decide), sI_o _ (show (89 : Nat) ≠ 81 by decide)]; exact a3
    · rw [sI_1, if_pos ⟨rfl, rfl⟩, a5]; rfl
    · rw [sI_1, if_neg (by decide)]; exact a6
    · rw [sI_1, if_neg (by decide)]; exact a7
theorem no_both {w : Mm} (h : INV w) : INV (fX12_no (fX11_no w).2).2 := by
  obtain ⟨⟨V, I, T, F, b, n, f⟩, h1, h2, h3⟩ := h
  refine ⟨(V, I, T, F, b, n + 1, f), h1, ?_, ?_⟩
  · have h4 : CI (sI w 0 10 (w.1 0 10 + 1)) (V, I, T, F, b, n + 1, f) := by
      obtain ⟨a1, a2, a3, a4, a5, a6, a7⟩ := h2
      refine ⟨a1.fr (fun j hj => sI_o w (by omega)), fun i hi => ⟨fun z => ?_, fun V' z => ⟨?_, ((a2 i hi).2 V' z).2.fr (fun j hj => sI_o w (by omega))⟩⟩, ?_, a4, ?_, ?_, ?_⟩
      · rw [sI_o w (by decide)]; exact (a2 i hi).1 z
      · rw [sI_o w (by decide)]; exact ((a2 i hi).2 V' z).1
      · rw [sI_o w (by decide), sI_o w (by decide)]; exact a3
      · rw [sI_1, if_neg (by decide)]; exact a5
      · rw [sI_1, if_pos ⟨rfl, rfl⟩, a6]; rfl
      · rw [sI_1, if_neg (by decide)]; exact a7
    exact h4.fr (fun o ho => sI_o _ (by omega)) (by unfold fX12_no fX11_no; rw [sI_o _ (by decide)]) rfl
  · have h4 : MI (fX11_no w).2 (V, I, T, F, b, n, f) := h3.fr (fun o ho => sI_o _ (by omega)) (by unfold fX11_no; rw [sI_o _ (by decide)]) rfl
    obtain ⟨a1, a2, a3, a4, a5, a6, a7⟩ := h4
    unfold fX12_no
    refine ⟨by rw [sI_o _ (by decide)]; exact a1, fun i hi => ?_, ?_, a4, ?_, ?_, ?_⟩
    · rw [sI_o _ (show (80 : Nat) ≠ 81 by decide), sI_o _ (show (79 : Nat) ≠ 81 by decide)]; exact a2 i hi
    · rw [sI_o _ (show (77 : Nat) ≠ 81 by decide), sI_o _ (show (89 : Nat) ≠ 81 by decide)]; exact a3
    · rw [sI_1, if_neg (by decide)]; exact a5
    · rw [sI_1, if_pos ⟨rfl, rfl⟩, a6]; rfl
    · rw [sI_1, if_neg (by decide)]; exact a7
theorem full_both {w : Mm} (h : INV w) : INV (fX12_full (fX11_full w).2).2 := by
  obtain ⟨⟨V, I, T, F, b, n, f⟩, h1, h2, h3⟩ := h
  refine ⟨(V, I, T, F, b, n, f + 1), h1, ?_, ?_⟩
  · have h4 : CI (sI w 0 11 (w.1 0 11 + 1)) (V, I, T, F, b, n, f + 1) := by
      obtain ⟨a1, a2, a3, a4, a5, a6, a7⟩ := h2
      refine ⟨a1.fr (fun j hj => sI_o w (by omega)), fun i hi => ⟨fun z => ?_, fun V' z => ⟨?_, ((a2 i hi).2 V' z).2.fr (fun j hj => sI_o w (by omega))⟩⟩, ?_, a4, ?_, ?_, ?_⟩
      · rw [sI_o w (by decide)]; exact (a2 i hi).1 z
      · rw [sI_o w (by decide)]; exact ((a2 i hi).2 V' z).1
      · rw [sI_o w (by decide), sI_o w (by decide)]; exact a3
      · rw [sI_1, if_neg (by decide)]; exact a5
      · rw [sI_1, if_neg (by decide)]; exact a6
      · rw [sI_1, if_pos ⟨rfl, rfl⟩, a7]; rfl
    exact h4.fr (fun o ho => sI_o _ (by omega)) (by unfold fX12_full fX11_full; rw [sI_o _ (by decide)]) rfl
  · have h4 : MI (fX11_full w).2 (V, I, T, F, b, n, f) := h3.fr (fun o ho => sI_o _ (by omega)) (by unfold fX11_full; rw [sI_o _ (by decide)]) rfl
    obtain ⟨a1, a2, a3, a4, a5, a6, a7⟩ := h4
    unfold fX12_full
    refine ⟨by rw [sI_o _ (by decide)]; exact a1, fun i hi => ?_, ?_, a4, ?_, ?_, ?_⟩
    · rw [sI_o _ (show (80 : Nat) ≠ 81 by decide), sI_o _ (show (79 : Nat) ≠ 81 by decide)]; exact a2 i hi
    · rw [sI_o _ (show (77 : Nat) ≠ 81 by decide), sI_o _ (show (89 : Nat) ≠ 81 by decide)]; exact a3
    · rw [sI_1, if_neg (by decide)]; exact a5
    · rw [sI_1, if_neg (by decide)]; exact a6
    · rw [sI_1, if_pos ⟨rfl, rfl⟩, a7]; rfl
theorem ok_bad {w : Mm} (x : Int32) (h : INV w) : OKi (ob2 (some (fX11_bad w x)) fun a m => some (a, m)) (fun w => ob2 (some (fX12_bad w x)) fun a m => some (a, m)) := ⟨x, (fX11_bad w x).2, _, rfl, rfl, bad_both x h⟩
theorem ok_no {w : Mm} (h : INV w) : OKi (ob2 (some (fX11_no w)) fun a m => some (a, m)) (fun w => ob2 (some (fX12_no w)) fun a m => some (a, m)) := ⟨-3, (fX11_no w).2, _, rfl, rfl, no_both h⟩
theorem ok_full {w : Mm} (h : INV w) : OKi (ob2 (some (fX11_full w)) fun a m => some (a, m)) (fun w => ob2 (some (fX12_full w)) fun a m => some (a, m)) := ⟨-4, (fX11_full w).2, _, rfl, rfl, full_both h⟩
/-! what a number must be -/
theorem i64_lt {x y : Int32} : x.toInt64 < y.toInt64 ↔ x < y := by
  rw [Int64.lt_iff_toInt_lt, Int32.lt_iff_toInt_lt, Int32.toInt_toInt64, Int32.toInt_toInt64]
theorem in_iff {x a b : Int32} : (fX12_in x.toInt64 a.toInt64 b.toInt64 = 0) ↔ (x < a ∨ b < x) := by
  unfold fX12_in fX12_in_L17
  by_cases h1 : x < a
  · rw [if_pos ((lg_cmp_lt _ _).mpr (i64_lt.mpr h1))]
    exact ⟨fun _ => Or.inl h1, fun _ => rfl⟩
  · rw [if_neg (fun z => h1 (i64_lt.mp ((lg_cmp_lt _ _).mp z)))]
    by_cases h2 : b < x
    · rw [if_pos ((lg_cmp_gt _ _).mpr (i64_lt.mpr h2))]
      exact ⟨fun _ => Or.inr h2, fun _ => rfl⟩
    · rw [if_neg (fun z => h2 (i64_lt.mp ((lg_cmp_gt _ _).mp z)))]
      exact ⟨fun z => absurd z (by decide), fun z => by rcases z with z | z <;> contradiction⟩
theorem within_iff {x a b : Int32} : (fX11_within x a b = 0) ↔ (x < a ∨ b < x) := by
  unfold fX11_within fX11_within_L14
  by_cases h1 : x < a
  · rw [if_pos h1]; exact ⟨fun _ => Or.inl h1, fun _ => rfl⟩
  · rw [if_neg h1]
    by_cases h2 : b < x
    · rw [if_pos h2]; exact ⟨fun _ => Or.inr h2, fun _ => rfl⟩
    · rw [if_neg h2]
      exact ⟨fun z => absurd z (by decide), fun z => by rcases z with z | z <;> contradiction⟩
theorem rng (x : Int32) (a b : Nat) (ha : a < 2 ^ 31) (hb : b < 2 ^ 31) : (x < nI a ∨ nI b < x) ∨ ∃ j, a ≤ j ∧ j ≤ b ∧ x = nI j := by
  by_cases h0 : x < 0
  · exact Or.inl (Or.inl (Int32.lt_of_lt_of_le h0 (nI_pos' ha)))
  · obtain ⟨j, hj, rfl⟩ := nI_of h0
    by_cases h1 : j < a
    · exact Or.inl (Or.inl (nI_lt h1 ha))
    · by_cases h2 : b < j
      · exact Or.inl (Or.inr (nI_lt h2 hj))
      · exact Or.inr ⟨j, by omega, by omega, rfl⟩
theorem rg_0_9 (x : Int32) : (fX11_within x 0 9 = 0 ∧ fX12_in x.toInt64 0 9 = 0) ∨ ∃ j, 0 ≤ j ∧ j ≤ 9 ∧ x = nI j ∧ ¬ fX11_within x 0 9 = 0 ∧ ¬ fX12_in x.toInt64 0 9 = 0 := by
  have hi : (fX12_in x.toInt64 0 9 = 0) ↔ (x < 0 ∨ 9 < x) := in_iff (a := 0) (b := 9)
  have hw : (fX11_within x 0 9 = 0) ↔ (x < 0 ∨ 9 < x) := within_iff
  rw [hi, hw]
  rcases rng x 0 9 (by decide) (by decide) with h | ⟨j, h1, h2, rfl⟩
  · exact Or.inl ⟨h, h⟩
  · have h3 : ¬ (nI j < 0 ∨ 9 < nI j) := by
      intro z
      rcases z with z | z
      · exact nI_nlt (b := 0) h1 (by omega) z
      · exact nI_nlt (a := 9) h2 (by decide) z
    exact Or.inr ⟨j, h1, h2, rfl, h3, h3⟩
theorem rg_0_5 (x : Int32) : (fX11_within x 0 5 = 0 ∧ fX12_in x.toInt64 0 5 = 0) ∨ ∃ j, 0 ≤ j ∧ j ≤ 5 ∧ x = nI j ∧ ¬ fX11_within x 0 5 = 0 ∧ ¬ fX12_in x.toInt64 0 5 = 0 := by
  have hi : (fX12_in x.toInt64 0 5 = 0) ↔ (x < 0 ∨ 5 < x) := in_iff (a := 0) (b := 5)
  have hw : (fX11_within x 0 5 = 0) ↔ (x < 0 ∨ 5 < x) := within_iff
  rw [hi, hw]
  rcases rng x 0 5 (by decide) (by decide) with h | ⟨j, h1, h2, rfl⟩
  · exact Or.inl ⟨h, h⟩
  · have h3 : ¬ (nI j < 0 ∨ 5 < nI j) := by
      intro z
      rcases z with z | z
      · exact nI_nlt (b := 0) h1 (by omega) z
      · exact nI_nlt (a := 5) h2 (by decide) z
    exact Or.inr ⟨j, h1, h2, rfl, h3, h3⟩
theorem rg_0_63 (x : Int32) : (fX11_within x 0 63 = 0 ∧ fX12_in x.toInt64 0 63 = 0) ∨ ∃ j, 0 ≤ j ∧ j ≤ 63 ∧ x = nI j ∧ ¬ fX11_within x 0 63 = 0 ∧ ¬ fX12_in x.toInt64 0 63 = 0 := by
  have hi : (fX12_in x.toInt64 0 63 = 0) ↔ (x < 0 ∨ 63 < x) := in_iff (a := 0) (b := 63)
  have hw : (fX11_within x 0 63 = 0) ↔ (x < 0 ∨ 63 < x) := within_iff
  rw [hi, hw]
  rcases rng x 0 63 (by decide) (by decide) with h | ⟨j, h1, h2, rfl⟩
  · exact Or.inl ⟨h, h⟩
  · have h3 : ¬ (nI j < 0 ∨ 63 < nI j) := by
      intro z
      rcases z with z | z
      · exact nI_nlt (b := 0) h1 (by omega) z
      · exact nI_nlt (a := 63) h2 (by decide) z
    exact Or.inr ⟨j, h1, h2, rfl, h3, h3⟩
theorem rg_1_20 (x : Int32) : (fX11_within x 1 20 = 0 ∧ fX12_in x.toInt64 1 20 = 0) ∨ ∃ j, 1 ≤ j ∧ j ≤ 20 ∧ x = nI j ∧ ¬ fX11_within x 1 20 = 0 ∧ ¬ fX12_in x.toInt64 1 20 = 0 := by
  have hi : (fX12_in x.toInt64 1 20 = 0) ↔ (x < 1 ∨ 20 < x) := in_iff (a := 1) (b := 20)
  have hw : (fX11_within x 1 20 = 0) ↔ (x < 1 ∨ 20 < x) := within_iff
  rw [hi, hw]
  rcases rng x 1 20 (by decide) (by decide) with h | ⟨j, h1, h2, rfl⟩
  · exact Or.inl ⟨h, h⟩
  · have h3 : ¬ (nI j < 1 ∨ 20 < nI j) := by
      intro z
      rcases z with z | z
      · exact nI_nlt (b := 1) h1 (by omega) z
      · exact nI_nlt (a := 20) h2 (by decide) z
    exact Or.inr ⟨j, h1, h2, rfl, h3, h3⟩
theorem rg_0_3 (x : Int32) : (fX11_within x 0 3 = 0 ∧ fX12_in x.toInt64 0 3 = 0) ∨ ∃ j, 0 ≤ j ∧ j ≤ 3 ∧ x = nI j ∧ ¬ fX11_within x 0 3 = 0 ∧ ¬ fX12_in x.toInt64 0 3 = 0 := by
  have hi : (fX12_in x.toInt64 0 3 = 0) ↔ (x < 0 ∨ 3 < x) := in_iff (a := 0) (b := 3)
  have hw : (fX11_within x 0 3 = 0) ↔ (x < 0 ∨ 3 < x) := within_iff
  rw [hi, hw]
  rcases rng x 0 3 (by decide) (by decide) with h | ⟨j, h1, h2, rfl⟩
  · exact Or.inl ⟨h, h⟩
  · have h3 : ¬ (nI j < 0 ∨ 3 < nI j) := by
      intro z
      rcases z with z | z
      · exact nI_nlt (b := 0) h1 (by omega) z
      · exact nI_nlt (a := 3) h2 (by decide) z
    exact Or.inr ⟨j, h1, h2, rfl, h3, h3⟩
theorem rg_0_12 (x : Int32) : (fX11_within x 0 12 = 0 ∧ fX12_in x.toInt64 0 12 = 0) ∨ ∃ j, 0 ≤ j ∧ j ≤ 12 ∧ x = nI j ∧ ¬ fX11_within x 0 12 = 0 ∧ ¬ fX12_in x.toInt64 0 12 = 0 := by
  have hi : (fX12_in x.toInt64 0 12 = 0) ↔ (x < 0 ∨ 12 < x) := in_iff (a := 0) (b := 12)
  have hw : (fX11_within x 0 12 = 0) ↔ (x < 0 ∨ 12 < x) := within_iff
  rw [hi, hw]
  rcases rng x 0 12 (by decide) (by decide) with h | ⟨j, h1, h2, rfl⟩
  · exact Or.inl ⟨h, h⟩
  · have h3 : ¬ (nI j < 0 ∨ 12 < nI j) := by
      intro z
      rcases z with z | z
      · exact nI_nlt (b := 0) h1 (by omega) z
      · exact nI_nlt (a := 12) h2 (by decide) z
    exact Or.inr ⟨j, h1, h2, rfl, h3, h3⟩
theorem rg_0_1 (x : Int32) : (fX11_within x 0 1 = 0 ∧ fX12_in x.toInt64 0 1 = 0) ∨ ∃ j, 0 ≤ j ∧ j ≤ 1 ∧ x = nI j ∧ ¬ fX11_within x 0 1 = 0 ∧ ¬ fX12_in x.toInt64 0 1 = 0 := by
  have hi : (fX12_in x.toInt64 0 1 = 0) ↔ (x < 0 ∨ 1 < x) := in_iff (a := 0) (b := 1)
  have hw : (fX11_within x 0 1 = 0) ↔ (x < 0 ∨ 1 < x) := within_iff
  rw [hi, hw]
  rcases rng x 0 1 (by decide) (by decide) with h | ⟨j, h1, h2, rfl⟩
  · exact Or.inl ⟨h, h⟩
  · have h3 : ¬ (nI j < 0 ∨ 1 < nI j) := by
      intro z
      rcases z with z | z
      · exact nI_nlt (b := 0) h1 (by omega) z
      · exact nI_nlt (a := 1) h2 (by decide) z
    exact Or.inr ⟨j, h1, h2, rfl, h3, h3⟩
theorem rg_0_127 (x : Int32) : (fX11_within x 0 127 = 0 ∧ fX12_in x.toInt64 0 127 = 0) ∨ ∃ j, 0 ≤ j ∧ j ≤ 127 ∧ x = nI j ∧ ¬ fX11_within x 0 127 = 0 ∧ ¬ fX12_in x.toInt64 0 127 = 0 := by
  have hi : (fX12_in x.toInt64 0 127 = 0) ↔ (x < 0 ∨ 127 < x) := in_iff (a := 0) (b := 127)
  have hw : (fX11_within x 0 127 = 0) ↔ (x < 0 ∨ 127 < x) := within_iff
  rw [hi, hw]
  rcases rng x 0 127 (by decide) (by decide) with h | ⟨j, h1, h2, rfl⟩
  · exact Or.inl ⟨h, h⟩
  · have h3 : ¬ (nI j < 0 ∨ 127 < nI j) := by
      intro z
      rcases z with z | z
      · exact nI_nlt (b := 0) h1 (by omega) z
      · exact nI_nlt (a := 127) h2 (by decide) z
    exact Or.inr ⟨j, h1, h2, rfl, h3, h3⟩
theorem rg_0_11 (x : Int32) : (fX11_within x 0 11 = 0 ∧ fX12_in x.toInt64 0 11 = 0) ∨ ∃ j, 0 ≤ j ∧ j ≤ 11 ∧ x = nI j ∧ ¬ fX11_within x 0 11 = 0 ∧ ¬ fX12_in x.toInt64 0 11 = 0 := by
  have hi : (fX12_in x.toInt64 0 11 = 0) ↔ (x < 0 ∨ 11 < x) := in_iff (a := 0) (b := 11)
  have hw : (fX11_within x 0 11 = 0) ↔ (x < 0 ∨ 11 < x) := within_iff
  rw [hi, hw]
  rcases rng x 0 11 (by decide) (by decide) with h | ⟨j, h1, h2, rfl⟩
  · exact Or.inl ⟨h, h⟩
  · have h3 : ¬ (nI j < 0 ∨ 11 < nI j) := by
      intro z
      rcases z with z | z
      · exact nI_nlt (b := 0) h1 (by omega) z
      · exact nI_nlt (a := 11) h2 (by decide) z
    exact Or.inr ⟨j, h1, h2, rfl, h3, h3⟩
theorem rg_0_2 (x : Int32) : (fX11_within x 0 2 = 0 ∧ fX12_in x.toInt64 0 2 = 0) ∨ ∃ j, 0 ≤ j ∧ j ≤ 2 ∧ x = nI j ∧ ¬ fX11_within x 0 2 = 0 ∧ ¬ fX12_in x.toInt64 0 2 = 0 := by
  have hi : (fX12_in x.toInt64 0 2 = 0) ↔ (x < 0 ∨ 2 < x) := in_iff (a := 0) (b := 2)
  have hw : (fX11_within x 0 2 = 0) ↔ (x < 0 ∨ 2 < x) := within_iff
  rw [hi, hw]
  rcases rng x 0 2 (by decide) (by decide) with h | ⟨j, h1, h2, rfl⟩
  · exact Or.inl ⟨h, h⟩
  · have h3 : ¬ (nI j < 0 ∨ 2 < nI j) := by
      intro z
      rcases z with z | z
      · exact nI_nlt (b := 0) h1 (by omega) z
      · exact nI_nlt (a := 2) h2 (by decide) z
    exact Or.inr ⟨j, h1, h2, rfl, h3, h3⟩
theorem rg_0_99 (x : Int32) : (fX11_within x 0 99 = 0 ∧ fX12_in x.toInt64 0 99 = 0) ∨ ∃ j, 0 ≤ j ∧ j ≤ 99 ∧ x = nI j ∧ ¬ fX11_within x 0 99 = 0 ∧ ¬ fX12_in x.toInt64 0 99 = 0 := by
  have hi : (fX12_in x.toInt64 0 99 = 0) ↔ (x < 0 ∨ 99 < x) := in_iff (a := 0) (b := 99)
  have hw : (fX11_within x 0 99 = 0) ↔ (x < 0 ∨ 99 < x) := within_iff
  rw [hi, hw]
  rcases rng x 0 99 (by decide) (by decide) with h | ⟨j, h1, h2, rfl⟩
  · exact Or.inl ⟨h, h⟩
  · have h3 : ¬ (nI j < 0 ∨ 99 < nI j) := by
      intro z
      rcases z with z | z
      · exact nI_nlt (b := 0) h1 (by omega) z
      · exact nI_nlt (a := 99) h2 (by decide) z
    exact Or.inr ⟨j, h1, h2, rfl, h3, h3⟩
theorem rg_0_23 (x : Int32) : (fX11_within x 0 23 = 0 ∧ fX12_in x.toInt64 0 23 = 0) ∨ ∃ j, 0 ≤ j ∧ j ≤ 23 ∧ x = nI j ∧ ¬ fX11_within x 0 23 = 0 ∧ ¬ fX12_in x.toInt64 0 23 = 0 := by
  have hi : (fX12_in x.toInt64 0 23 = 0) ↔ (x < 0 ∨ 23 < x) := in_iff (a := 0) (b := 23)
  have hw : (fX11_within x 0 23 = 0) ↔ (x < 0 ∨ 23 < x) := within_iff
  rw [hi, hw]
  rcases rng x 0 23 (by decide) (by decide) with h | ⟨j, h1, h2, rfl⟩
  · exact Or.inl ⟨h, h⟩
  · have h3 : ¬ (nI j < 0 ∨ 23 < nI j) := by
      intro z
      rcases z with z | z
      · exact nI_nlt (b := 0) h1 (by omega) z
      · exact nI_nlt (a := 23) h2 (by decide) z
    exact Or.inr ⟨j, h1, h2, rfl, h3, h3⟩
theorem rg_0_10 (x : Int32) : (fX11_within x 0 10 = 0 ∧ fX12_in x.toInt64 0 10 = 0) ∨ ∃ j, 0 ≤ j ∧ j ≤ 10 ∧ x = nI j ∧ ¬ fX11_within x 0 10 = 0 ∧ ¬ fX12_in x.toInt64 0 10 = 0 := by
  have hi : (fX12_in x.toInt64 0 10 = 0) ↔ (x < 0 ∨ 10 < x) := in_iff (a := 0) (b := 10)
  have hw : (fX11_within x 0 10 = 0) ↔ (x < 0 ∨ 10 < x) := within_iff
  rw [hi, hw]
  rcases rng x 0 10 (by decide) (by decide) with h | ⟨j, h1, h2, rfl⟩
  · exact Or.inl ⟨h, h⟩
  · have h3 : ¬ (nI j < 0 ∨ 10 < nI j) := by
      intro z
      rcases z with z | z
      · exact nI_nlt (b := 0) h1 (by omega) z
      · exact nI_nlt (a := 10) h2 (by decide) z
    exact Or.inr ⟨j, h1, h2, rfl, h3, h3⟩
theorem rg_0_999999 (x : Int32) : (fX11_within x 0 999999 = 0 ∧ fX12_in x.toInt64 0 999999 = 0) ∨ ∃ j, 0 ≤ j ∧ j ≤ 999999 ∧ x = nI j ∧ ¬ fX11_within x 0 999999 = 0 ∧ ¬ fX12_in x.toInt64 0 999999 = 0 := by
  have hi : (fX12_in x.toInt64 0 999999 = 0) ↔ (x < 0 ∨ 999999 < x) := in_iff (a := 0) (b := 999999)
  have hw : (fX11_within x 0 999999 = 0) ↔ (x < 0 ∨ 999999 < x) := within_iff
  rw [hi, hw]
  rcases rng x 0 999999 (by decide) (by decide) with h | ⟨j, h1, h2, rfl⟩
  · exact Or.inl ⟨h, h⟩
  · have h3 : ¬ (nI j < 0 ∨ 999999 < nI j) := by
      intro z
      rcases z with z | z
      · exact nI_nlt (b := 0) h1 (by omega) z
      · exact nI_nlt (a := 999999) h2 (by decide) z
    exact Or.inr ⟨j, h1, h2, rfl, h3, h3⟩
theorem rg_0_30 (x : Int32) : (fX11_within x 0 30 = 0 ∧ fX12_in x.toInt64 0 30 = 0) ∨ ∃ j, 0 ≤ j ∧ j ≤ 30 ∧ x = nI j ∧ ¬ fX11_within x 0 30 = 0 ∧ ¬ fX12_in x.toInt64 0 30 = 0 := by
  have hi : (fX12_in x.toInt64 0 30 = 0) ↔ (x < 0 ∨ 30 < x) := in_iff (a := 0) (b := 30)
  have hw : (fX11_within x 0 30 = 0) ↔ (x < 0 ∨ 30 < x) := within_iff
  rw [hi, hw]
  rcases rng x 0 30 (by decide) (by decide) with h | ⟨j, h1, h2, rfl⟩
  · exact Or.inl ⟨h, h⟩
  · have h3 : ¬ (nI j < 0 ∨ 30 < nI j) := by
      intro z
      rcases z with z | z
      · exact nI_nlt (b := 0) h1 (by omega) z
      · exact nI_nlt (a := 30) h2 (by decide) z
    exact Or.inr ⟨j, h1, h2, rfl, h3, h3⟩
theorem rg_0_100 (x : Int32) : (fX11_within x 0 100 = 0 ∧ fX12_in x.toInt64 0 100 = 0) ∨ ∃ j, 0 ≤ j ∧ j ≤ 100 ∧ x = nI j ∧ ¬ fX11_within x 0 100 = 0 ∧ ¬ fX12_in x.toInt64 0 100 = 0 := by
  have hi : (fX12_in x.toInt64 0 100 = 0) ↔ (x < 0 ∨ 100 < x) := in_iff (a := 0) (b := 100)
  have hw : (fX11_within x 0 100 = 0) ↔ (x < 0 ∨ 100 < x) := within_iff
  rw [hi, hw]
  rcases rng x 0 100 (by decide) (by decide) with h | ⟨j, h1, h2, rfl⟩
  · exact Or.inl ⟨h, h⟩
  · have h3 : ¬ (nI j < 0 ∨ 100 < nI j) := by
      intro z
      rcases z with z | z
      · exact nI_nlt (b := 0) h1 (by omega) z
      · exact nI_nlt (a := 100) h2 (by decide) z
    exact Or.inr ⟨j, h1, h2, rfl, h3, h3⟩
theorem rg_0_6 (x : Int32) : (fX11_within x 0 6 = 0 ∧ fX12_in x.toInt64 0 6 = 0) ∨ ∃ j, 0 ≤ j ∧ j ≤ 6 ∧ x = nI j ∧ ¬ fX11_within x 0 6 = 0 ∧ ¬ fX12_in x.toInt64 0 6 = 0 := by
  have hi : (fX12_in x.toInt64 0 6 = 0) ↔ (x < 0 ∨ 6 < x) := in_iff (a := 0) (b := 6)
  have hw : (fX11_within x 0 6 = 0) ↔ (x < 0 ∨ 6 < x) := within_iff
  rw [hi, hw]
  rcases rng x 0 6 (by decide) (by decide) with h | ⟨j, h1, h2, rfl⟩
  · exact Or.inl ⟨h, h⟩
  · have h3 : ¬ (nI j < 0 ∨ 6 < nI j) := by
      intro z
      rcases z with z | z
      · exact nI_nlt (b := 0) h1 (by omega) z
      · exact nI_nlt (a := 6) h2 (by decide) z
    exact Or.inr ⟨j, h1, h2, rfl, h3, h3⟩
theorem has_iff {w : Mm} {x : Int32} : (fX8_has 1 w x = 0) ↔ (x < 0 ∨ w.1 1 1 ≤ x) := by
  unfold fX8_has fX8_has_L16
  by_cases h1 : x < 0
  · rw [if_pos h1]; exact ⟨fun _ => Or.inl h1, fun _ => rfl⟩
  · rw [if_neg h1]
    by_cases h2 : w.1 1 1 ≤ x
    · rw [if_pos h2]; exact ⟨fun _ => Or.inr h2, fun _ => rfl⟩
    · rw [if_neg h2]
      exact ⟨fun z => absurd z (by decide), fun z => by rcases z with z | z <;> contradiction⟩
/-- a candle's number, on both sides -/
theorem rg_c {w : Mm} {n : Nat} (hn : n ≤ 7) (h1 : w.1 1 1 = nI n) (h2 : w.1 78 0 = nI n) (x : Int32) : (fX8_has 1 w x = 0 ∧ ∀ w' : Mm, w'.1 78 0 = nI n → fX12_isCandle w' x = 0) ∨ ∃ k, k < n ∧ x = nI k ∧ ¬ fX8_has 1 w x = 0 ∧ ∀ w' : Mm, w'.1 78 0 = nI n → ¬ fX12_isCandle w' x = 0 := by
  have hc : ∀ w' : Mm, w'.1 78 0 = nI n → ((fX12_isCandle w' x = 0) ↔ (x < 0 ∨ nI n - 1 < x)) := by
    intro w' hw
    unfold fX12_isCandle fX12_candles
    rw [hw]
    exact in_iff (a := 0)
  have key : (x < 0 ∨ nI n ≤ x) ∨ ∃ k, k < n ∧ x = nI k := by
    by_cases h0 : x < 0
    · exact Or.inl (Or.inl h0)
    · obtain ⟨j, hj, rfl⟩ := nI_of h0
      by_cases h3 : j < n
      · exact Or.inr ⟨j, h3, rfl⟩
      · exact Or.inl (Or.inr (nI_le (by omega) hj))
  have hm : nI n ≤ x → nI n - 1 < x := by
    intro z
    rcases Nat.eq_zero_or_pos n with e | e
    · subst e
      exact Int32.lt_of_lt_of_le (show nI 0 - 1 < nI 0 by decide) z
    · rw [show (1 : Int32) = nI 1 from rfl, pk_sub e]
      exact Int32.lt_of_lt_of_le (nI_lt (by omega) (by omega)) z
  rcases key with h | ⟨k, hk, rfl⟩
  · refine Or.inl ⟨has_iff.mpr (by rw [h1]; exact h), fun w' hw => (hc w' hw).mpr ?_⟩
    rcases h with h | h
    · exact Or.inl h
    · exact Or.inr (hm h)
  · refine Or.inr ⟨k, hk, rfl, fun z => ?_, fun w' hw z => ?_⟩
    · rcases has_iff.mp z with z | z
      · exact nI_pos (by omega) z
      · rw [h1] at z; exact nI_ge hk (by omega) z
    · rcases (hc w' hw).mp z with z | z
      · exact nI_pos (by omega) z
      · rw [show (1 : Int32) = nI 1 from rfl, pk_sub (by omega)] at z
        exact nI_nlt (by omega) (by omega) z

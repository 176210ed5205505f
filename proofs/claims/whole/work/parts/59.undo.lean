/-! ===== moved, lit, undone ===== -/
/-- what may be undone, with one step more: cells and lit ones as they are now -/
def remN (n : Nat) : Nat := if n < 8 then n + 1 else 8
def remC (n : Nat) (f : Nat → Nat → Nat) (c : Nat → Nat) : Nat → Nat → Nat := fun s => if n < 8 then (if s = n then c else f s) else (if s = 7 then c else f (s + 1))
def remL (n : Nat) (g : Nat → Nat) (l : Nat) : Nat → Nat := fun s => if n < 8 then (if s = n then l else g s) else (if s = 7 then l else g (s + 1))
theorem remL46 {w : Mm} {v m n l : Nat} {f : Nat → Nat → Nat} {g c : Nat → Nat} (h : CVu w v m n f g) (hn : n < 8) (hm : m ≤ 7) (hc : ∀ k, k < m → w.1 (v + 2) k = nI (c k)) (hl : w.1 v 2 = nI l) : ∃ w', fX8_remember_L46 v w = some w' ∧ Fr [v, v + 10, v + 11] w w' ∧ (∀ i, i ≠ 14 → w'.1 v i = w.1 v i) ∧ CVu w' v m (n + 1) (fun s => if s = n then c else f s) (fun s => if s = n then l else g s) := by
  unfold fX8_remember_L46
  have e7 : nI n * 7 = nI (n * 7) := by rw [show (7 : Int32) = nI 7 from rfl, pk_mul]
  have ec : cpA w (v + 2) 7 (v + 10) 56 0 (nI (n * 7)) 7 = some (sA w (v + 10) (va_cpy (w.1 (v + 2)) (w.1 (v + 10)) 0 (n * 7) 7)) := cpA_n (sp := 0) (n := 7) (by omega) (by omega) (by decide) (by decide)
  rw [h.1, e7, ec, bS, sA_o _ (show v ≠ v + 10 by omega), h.1, hl, wrA_n (by omega) (by decide), bS, bS]
  have e14 : (sI (sA w (v + 10) (va_cpy (w.1 (v + 2)) (w.1 (v + 10)) 0 (n * 7) 7)) (v + 11) n (nI l)).1 v 14 = nI n := by rw [sI_o _ (by omega), sA_o _ (by omega)]; exact h.1
  rw [e14, nI_1]
  refine ⟨_, rfl, ⟨fun o ho => ?_, rfl⟩, fun i hi => ?_, ?_, fun s hs => ⟨?_, fun k hk => ?_⟩⟩
  · simp only [List.mem_cons, List.not_mem_nil, or_false] at ho
    rw [sI_o _ (by omega), sI_o _ (by omega), sA_o _ (by omega)]
  · rw [sI_1, if_neg (by omega), sI_o _ (by omega), sA_o _ (by omega)]
  · rw [sI_1, if_pos ⟨rfl, rfl⟩]
  · rw [sI_o _ (by omega), sI_1, sA_o _ (by omega)]
    show _ = nI (if s = n then l else g s)
    by_cases e : s = n
    · rw [if_pos ⟨rfl, e⟩, if_pos e]
    · rw [if_neg (fun z => e z.2), if_neg e]; exact (h.2 s (by omega)).1
  · rw [sI_o _ (by omega), sI_o _ (by omega), sA_same]
    show _ = nI ((if s = n then c else f s) k)
    by_cases e : s = n
    · rw [if_pos e, pk_cpy_in (by omega) (by omega), e, ← hc k hk, show 0 + (7 * n + k - n * 7) = k by omega]
    · rw [if_neg e, pk_cpy_out (by omega)]; exact (h.2 s (by omega)).2 k hk
theorem remember_ok {w : Mm} {v m n l : Nat} {f : Nat → Nat → Nat} {g c : Nat → Nat} (h : CVu w v m n f g) (hn : n ≤ 8) (hm : m ≤ 7) (hc : ∀ k, k < m → w.1 (v + 2) k = nI (c k)) (hl : w.1 v 2 = nI l) : ∃ w', fX8_remember v w = some w' ∧ Fr [v, v + 10, v + 11] w w' ∧ (∀ i, i ≠ 14 → w'.1 v i = w.1 v i) ∧ CVu w' v m (remN n) (remC n f c) (remL n g l) := by
  unfold fX8_remember
  by_cases h8 : n < 8
  · rw [h.1, if_pos (show nI n < 8 from nI_lt (b := 8) h8 (by decide))]
    obtain ⟨w', e1, e2, e3, e4⟩ := remL46 h h8 hm hc hl
    refine ⟨w', e1, e2, e3, ?_⟩
    unfold remN remC remL
    simp only [if_pos h8]
    exact e4
  · have hn8 : n = 8 := by omega
    subst hn8
    have c1 : cpA w (v + 10) 56 (v + 10) 56 7 0 49 = some (sA w (v + 10) (va_cpy (w.1 (v + 10)) (w.1 (v + 10)) 7 0 49)) := cpA_n (sp := 7) (dp := 0) (n := 49) (by decide) (by decide) (by decide) (by decide)
    have c2 : ∀ m : Mm, cpA m (v + 11) 8 (v + 11) 8 1 0 7 = some (sA m (v + 11) (va_cpy (m.1 (v + 11)) (m.1 (v + 11)) 1 0 7)) := fun m => cpA_n (sp := 1) (dp := 0) (n := 7) (by decide) (by decide) (by decide) (by decide)
    rw [h.1, if_neg (show ¬ nI 8 < 8 by decide), c1, bS, c2, bS, bS]
    generalize hw1 : sI (sA (sA w (v + 10) (va_cpy (w.1 (v + 10)) (w.1 (v + 10)) 7 0 49)) (v + 11) (va_cpy ((sA w (v + 10) (va_cpy (w.1 (v + 10)) (w.1 (v + 10)) 7 0 49)).1 (v + 11)) ((sA w (v + 10) (va_cpy (w.1 (v + 10)) (w.1 (v + 10)) 7 0 49)).1 (v + 11)) 1 0 7)) v 14 7 = w1
    have f1 : Fr [v, v + 10, v + 11] w w1 := by
      refine ⟨fun o ho => ?_, by rw [← hw1]; rfl⟩
      simp only [List.mem_cons, List.not_mem_nil, or_false] at ho
      rw [← hw1, sI_o _ (by omega), sA_o _ (by omega), sA_o _ (by omega)]
    have g1 : ∀ i, i ≠ 14 → w1.1 v i = w.1 v i := fun i hi => by rw [← hw1, sI_1, if_neg (by omega), sA_o _ (by omega), sA_o _ (by omega)]
    have u1 : CVu w1 v m 7 (fun s => f (s + 1)) (fun s => g (s + 1)) := by
      refine ⟨by rw [← hw1, sI_1, if_pos ⟨rfl, rfl⟩]; rfl, fun s hs => ⟨?_, fun k hk => ?_⟩⟩
      · rw [← hw1, sI_o _ (by omega), sA_same, pk_cpy_in (by omega) (by omega), sA_o _ (by omega), show 1 + (s - 0) = s + 1 by omega]
        exact (h.2 (s + 1) (by omega)).1
      · rw [← hw1, sI_o _ (by omega), sA_o _ (by omega), sA_same, pk_cpy_in (by omega) (by omega), show 7 + (7 * s + k - 0) = 7 * (s + 1) + k by omega]
        exact (h.2 (s + 1) (by omega)).2 k hk
    obtain ⟨w', e1, e2, e3, e4⟩ := remL46 (l := l) (c := c) u1 (by decide) hm (fun k hk => by rw [f1.1 (v + 2) (by simp)]; exact hc k hk) (by rw [g1 2 (by decide)]; exact hl)
    refine ⟨w', e1, f1.then e2, fun i hi => by rw [e3 i hi, g1 i hi], ?_⟩
    unfold remN remC remL
    simp only [if_neg h8]
    exact e4
theorem remOK {m n l : Nat} {f : Nat → Nat → Nat} {g c : Nat → Nat} (hn : n ≤ 8) (h : ∀ s, s < n → g s < 2 ^ m ∧ ∀ k, k < m → f s k < 64) (hl : l < 2 ^ m) (hc : ∀ k, k < m → c k < 64) : remN n ≤ 8 ∧ ∀ s, s < remN n → remL n g l s < 2 ^ m ∧ ∀ k, k < m → remC n f c s k < 64 := by
  unfold remN remL remC
  by_cases h8 : n < 8
  · simp only [if_pos h8]
    refine ⟨by omega, fun s hs => ?_⟩
    by_cases e : s = n
    · simp only [if_pos e]; exact ⟨hl, hc⟩
    · simp only [if_neg e]; exact h s (by omega)
  · simp only [if_neg h8]
    refine ⟨by omega, fun s hs => ?_⟩
    by_cases e : s = 7
    · simp only [if_pos e]; exact ⟨hl, hc⟩
    · simp only [if_neg e]; exact h (s + 1) (by omega)
/-! the reference's keep -/
theorem keep_in {N : Nat} {n l m : Nat} {f : Nat → Nat → Nat} {g c : Nat → Nat} (hn : n < 8) (hm : m ≤ 7) (q : Nat → Int32) (hq5 : q 5 = nI n) (hq2 : q 2 = nI l) (hu : ∀ s, s < n → q (65 + 8 * s + 7) = nI (g s) ∧ ∀ k, k < m → q (65 + 8 * s + k) = nI (f s k)) (hc : ∀ k, k < m → q (6 + 5 * k + 1) = nI (c k)) : ∀ (r n0 i : Nat) (w : Mm), i + r = 7 → r < n0 → (∀ j, j < 65 ∨ 65 + 8 * n + i ≤ j ∨ j < 65 + 8 * n → w.1 78 j = q j) → (∀ k, k < i → w.1 78 (65 + 8 * n + k) = q (6 + 5 * k + 1)) → ∃ w', fX12_keep_L66 N n0 w (nI (65 + 8 * n)) (nI i) = some w' ∧ Fr [78] w w' ∧ (∀ j, j < 65 → j ≠ 5 → w'.1 78 j = q j) ∧ MVu (w'.1 78) m (n + 1) (fun s => if s = n then c else f s) (fun s => if s = n then l else g s) := by
  intro r
  induction r with
  | zero =>
    intro n0 i w hi hr h1 h2
    obtain ⟨n1, rfl⟩ : ∃ n1, n0 = n1 + 1 := ⟨n0 - 1, by omega⟩
    have e7 : nI (65 + 8 * n) + 7 = nI (65 + 8 * n + 7) := by rw [show (7 : Int32) = nI 7 from rfl, nI_add]
    have e5 : (sI w 78 (65 + 8 * n + 7) (nI l)).1 78 5 = nI n := by rw [sI_1, if_neg (by omega), h1 5 (by omega)]; exact hq5
    refine ⟨sI (sI w 78 (65 + 8 * n + 7) (nI l)) 78 5 (nI (n + 1)), ?_, (Fr.sI (by decide)).then (Fr.sI (by decide)), fun j h65 h5 => ?_, ?_, fun s hs => ⟨?_, fun k hk => ?_⟩⟩
    · rw [fX12_keep_L66, if_pos (show (7 : Int32) ≤ nI i from nI_le (a := 7) (by omega) (by omega)), e7, h1 2 (by omega), hq2, wrA_n (by omega) (by decide), bS, bS, e5, nI_1]
    · rw [sI_1, if_neg (by omega), sI_1, if_neg (by omega)]; exact h1 j (by omega)
    · rw [sI_1, if_pos ⟨rfl, rfl⟩]
    · rw [sI_1, if_neg (by omega), sI_1]
      show _ = nI (if s = n then l else g s)
      by_cases e : s = n
      · rw [if_pos ⟨rfl, by omega⟩, if_pos e]
      · rw [if_neg (by omega), if_neg e, h1 _ (by omega)]; exact (hu s (by omega)).1
    · rw [sI_1, if_neg (by omega), sI_1, if_neg (by omega)]
      show _ = nI ((if s = n then c else f s) k)
      by_cases e : s = n
      · rw [if_pos e, e, h2 k (by omega)]; exact hc k hk
      · rw [if_neg e, h1 _ (by omega)]; exact (hu s (by omega)).2 k hk
  | succ r ih =>
    intro n0 i w hi hr h1 h2
    obtain ⟨n1, rfl⟩ : ∃ n1, n0 = n1 + 1 := ⟨n0 - 1, by omega⟩
    have g1 : fX12_get w (nI i) 1 = some (q (6 + 5 * i + 1)) := (mget_n (j := 1) (by omega) (by omega)).trans (by rw [h1 _ (by omega)])
    obtain ⟨w', e1, e2, e3, e4⟩ := ih n1 (i + 1) (sI w 78 (65 + 8 * n + i) (q (6 + 5 * i + 1))) (by omega) (by omega) (fun j hj => by rw [sI_1, if_neg (by omega)]; exact h1 j (by omega)) (fun k hk => by
      rw [sI_1]
      by_cases e : k = i
      · rw [if_pos ⟨rfl, by omega⟩, e]
      · rw [if_neg (by omega)]; exact h2 k (by omega))
    refine ⟨w', ?_, (Fr.sI (by decide)).then e2, e3, e4⟩
    rw [fX12_keep_L66, if_neg (show ¬ (7 : Int32) ≤ nI i from nI_ge (b := 7) (by omega) (by decide)), g1, bS, nI_add, wrA_n (by omega) (by decide), bS, nI_1]
    exact e1
theorem keep_sh {N : Nat} (q : Nat → Int32) : ∀ (r n0 i : Nat) (w : Mm), i + r = 56 → r < n0 → (∀ j, j < 65 ∨ 65 + i ≤ j → w.1 78 j = q j) → (∀ j, j < i → w.1 78 (65 + j) = q (73 + j)) → ∃ w', fX12_keep_L13 N n0 w (nI i) = fX12_keep_L51 N (sI w' 78 5 7) ∧ Fr [78] w w' ∧ (∀ j, j < 65 → w'.1 78 j = q j) ∧ ∀ j, j < 56 → w'.1 78 (65 + j) = q (73 + j) := by
  intro r
  induction r with
  | zero =>
    intro n0 i w hi hr h1 h2
    obtain ⟨n1, rfl⟩ : ∃ n1, n0 = n1 + 1 := ⟨n0 - 1, by omega⟩
    refine ⟨w, ?_, Fr.rf, fun j hj => h1 j (by omega), fun j hj => h2 j (by omega)⟩
    rw [fX12_keep_L13, if_pos (show (56 : Int32) ≤ nI i from nI_le (a := 56) (by omega) (by omega)), bS]
  | succ r ih =>
    intro n0 i w hi hr h1 h2
    obtain ⟨n1, rfl⟩ : ∃ n1, n0 = n1 + 1 := ⟨n0 - 1, by omega⟩
    have e1 : 73 + nI i = nI (73 + i) := by rw [show (73 : Int32) = nI 73 from rfl, nI_add]
    have e2 : 65 + nI i = nI (65 + i) := by rw [show (65 : Int32) = nI 65 from rfl, nI_add]
    obtain ⟨w', f1, f2, f3, f4⟩ := ih n1 (i + 1) (sI w 78 (65 + i) (q (73 + i))) (by omega) (by omega) (fun j hj => by rw [sI_1, if_neg (by omega)]; exact h1 j (by omega)) (fun j hj => by
      rw [sI_1]
      by_cases e : j = i
      · rw [if_pos ⟨rfl, by omega⟩, e]
      · rw [if_neg (by omega)]; exact h2 j (by omega))
    refine ⟨w', ?_, (Fr.sI (by decide)).then f2, f3, f4⟩
    rw [fX12_keep_L13, if_neg (show ¬ (56 : Int32) ≤ nI i from nI_ge (b := 56) (by omega) (by decide)), e1, e2, rdA_n (by omega) (by decide), bS, h1 (73 + i) (by omega), wrA_n (by omega) (by decide), bS, nI_1]
    exact f1
theorem keep_ok {N : Nat} (hN : 1000 ≤ N) {w : Mm} {m n l : Nat} {f : Nat → Nat → Nat} {g c : Nat → Nat} (hn : n ≤ 8) (hm : m ≤ 7) (h : MVu (w.1 78) m n f g) (hl : w.1 78 2 = nI l) (hc : ∀ k, k < m → w.1 78 (6 + 5 * k + 1) = nI (c k)) : ∃ w', fX12_keep N w = some w' ∧ Fr [78] w w' ∧ (∀ j, j < 65 → j ≠ 5 → w'.1 78 j = w.1 78 j) ∧ MVu (w'.1 78) m (remN n) (remC n f c) (remL n g l) := by
  unfold fX12_keep
  have e65 : ∀ n, 65 + 8 * nI n = nI (65 + 8 * n) := fun n => by rw [show (65 : Int32) = nI 65 from rfl, show (8 : Int32) = nI 8 from rfl, pk_mul, nI_add]
  by_cases h8 : n < 8
  · rw [h.1, if_neg (show ¬ nI n = 8 from fun z => absurd ((nI_eq (b := 8) (by omega) (by decide)).mp z) (by omega))]
    unfold fX12_keep_L51
    rw [h.1, e65]
    obtain ⟨w', e1, e2, e3, e4⟩ := keep_in (N := N) (l := l) (c := c) h8 hm (w.1 78) h.1 hl h.2 hc 7 N 0 w rfl (by omega) (fun j _ => rfl) (fun k hk => absurd hk (by omega))
    refine ⟨w', e1, e2, e3, ?_⟩
    unfold remN remC remL
    simp only [if_pos h8]
    exact e4
  · have hn8 : n = 8 := by omega
    subst hn8
    rw [h.1, if_pos (show nI 8 = 8 from rfl)]
    obtain ⟨w1, a1, a2, a3, a4⟩ := keep_sh (N := N) (w.1 78) 56 N 0 w rfl (by omega) (fun j _ => rfl) (fun j hj => absurd hj (by omega))
    rw [show fX12_keep_L13 N N w 0 = _ from a1]
    unfold fX12_keep_L51
    have z5 : (sI w1 78 5 7).1 78 5 = nI 7 := by rw [sI_1, if_pos ⟨rfl, rfl⟩]; rfl
    rw [z5, e65]
    have u1 : ∀ s, s < 7 → (sI w1 78 5 7).1 78 (65 + 8 * s + 7) = nI (g (s + 1)) ∧ ∀ k, k < m → (sI w1 78 5 7).1 78 (65 + 8 * s + k) = nI (f (s + 1) k) := fun s hs => by
      refine ⟨?_, fun k hk => ?_⟩
      · rw [sI_1, if_neg (by omega), show 65 + 8 * s + 7 = 65 + (8 * s + 7) by omega, a4 _ (by omega), show 73 + (8 * s + 7) = 65 + 8 * (s + 1) + 7 by omega]
        exact (h.2 (s + 1) (by omega)).1
      · rw [sI_1, if_neg (by omega), show 65 + 8 * s + k = 65 + (8 * s + k) by omega, a4 _ (by omega), show 73 + (8 * s + k) = 65 + 8 * (s + 1) + k by omega]
        exact (h.2 (s + 1) (by omega)).2 k hk
    obtain ⟨w', e1, e2, e3, e4⟩ := keep_in (N := N) (l := l) (c := c) (n := 7) (f := fun s => f (s + 1)) (g := fun s => g (s + 1)) (by decide) hm ((sI w1 78 5 7).1 78) z5 (by rw [sI_1, if_neg (by decide), a3 2 (by decide)]; exact hl) u1 (fun k hk => by rw [sI_1, if_neg (by omega), a3 _ (by omega)]; exact hc k hk) 7 N 0 (sI w1 78 5 7) rfl (by omega) (fun j _ => rfl) (fun k hk => absurd hk (by omega))
    refine ⟨w', e1, (a2.then (Fr.sI (by decide))).then e2, fun j h65 h5 => by rw [e3 j h65 h5, sI_1, if_neg (by omega), a3 j h65], ?_⟩
    unfold remN remC remL
    simp only [if_neg h8]
    exact e4

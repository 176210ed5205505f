/-! ===== the text's tokens ===== -/
def isL_ (b : Nat) : Bool := decide (97 ≤ b ∧ b ≤ 122)
def isF_ (b : Nat) : Bool := decide (48 ≤ b ∧ b ≤ 57)
def isB_ (b : Nat) : Bool := decide (b = 32)
theorem letter_n : ∀ b, b < 128 → fX5_isLetter (nI b) = b01 (isL_ b) := by decide +kernel
theorem figure_n : ∀ b, b < 128 → fX5_isFigure (nI b) = b01 (isF_ b) := by decide +kernel
theorem small_n : ∀ b, b < 128 → fX12_isSmall (nI b) = b01 (isL_ b) := by decide +kernel
theorem mfigure_n : ∀ b, b < 128 → fX12_isFigure (nI b) = b01 (isF_ b) := by decide +kernel
def spn (q : Nat → Bool) (B : Nat → Nat) : Nat → Nat → Nat
  | 0, p => p
  | r + 1, p => if q (B p) = true then spn q B r (p + 1) else p
theorem spn_ge (q : Nat → Bool) (B : Nat → Nat) : ∀ r p, p ≤ spn q B r p := by
  intro r
  induction r with
  | zero => intro p; exact Nat.le_refl _
  | succ r ih =>
    intro p
    have := ih (p + 1)
    rw [spn]
    split <;> omega
theorem spn_le (q : Nat → Bool) (B : Nat → Nat) : ∀ r p, spn q B r p ≤ p + r := by
  intro r
  induction r with
  | zero => intro p; exact Nat.le_refl _
  | succ r ih =>
    intro p
    have := ih (p + 1)
    rw [spn]
    split <;> omega
theorem spn_1 {q : Nat → Bool} {B : Nat → Nat} {r p : Nat} (hr : 0 < r) (h : q (B p) = true) : spn q B r p = spn q B (r - 1) (p + 1) := by
  obtain ⟨k, rfl⟩ : ∃ k, r = k + 1 := ⟨r - 1, by omega⟩
  rw [spn, if_pos h]
  rfl
def tS (B : Nat → Nat) (L p : Nat) : Nat := spn isB_ B (L - p) p
def kK (B : Nat → Nat) (L s : Nat) : Nat := if L ≤ s then 0 else if isL_ (B s) = true then 1 else if isF_ (B s) = true then 2 else if B s = 59 then 3 else 4
def kE (B : Nat → Nat) (L s : Nat) : Nat := if L ≤ s then s else if isL_ (B s) = true then spn isL_ B (L - s) s else if isF_ (B s) = true then spn isF_ B (L - s) s else s + 1
def kV (B : Nat → Nat) (s n : Nat) : Nat := if n = 1 then B s - 48 else 10 * (B s - 48) + (B (s + 1) - 48)
def fvI (B : Nat → Nat) (s k : Nat) : Int32 := if k = 0 then 0 else if k ≤ 2 then nI (kV B s k) else -1
theorem tS_ge (B : Nat → Nat) (L p : Nat) : p ≤ tS B L p := spn_ge _ _ _ _
theorem tS_le {B : Nat → Nat} {L p : Nat} (h : p ≤ L) : tS B L p ≤ L := by
  have := spn_le isB_ B (L - p) p
  unfold tS
  omega
theorem kE_le {B : Nat → Nat} {L s : Nat} (h : s ≤ L) : kE B L s ≤ L := by
  have h1 := spn_le isL_ B (L - s) s
  have h2 := spn_le isF_ B (L - s) s
  unfold kE
  split
  · exact h
  · split
    · omega
    · split <;> omega
theorem kE_gt {B : Nat → Nat} {L s : Nat} (h : s < L) : s < kE B L s := by
  unfold kE
  rw [if_neg (by omega)]
  by_cases h1 : isL_ (B s) = true
  · rw [if_pos h1, spn_1 (by omega) h1]
    have := spn_ge isL_ B (L - s - 1) (s + 1)
    omega
  · rw [if_neg h1]
    by_cases h2 : isF_ (B s) = true
    · rw [if_pos h2, spn_1 (by omega) h2]
      have := spn_ge isF_ B (L - s - 1) (s + 1)
      omega
    · rw [if_neg h2]; omega
theorem kE_ge (B : Nat → Nat) (L s : Nat) : s ≤ kE B L s := by
  by_cases h : s < L
  · exact Nat.le_of_lt (kE_gt h)
  · unfold kE
    rw [if_pos (by omega)]
    exact Nat.le_refl _
theorem kK_0 {B : Nat → Nat} {L s : Nat} : kK B L s = 0 ↔ L ≤ s := by
  unfold kK
  constructor
  · intro h
    by_cases q : L ≤ s
    · exact q
    · rw [if_neg q] at h
      split at h
      · omega
      · split at h
        · omega
        · split at h <;> omega
  · intro h
    rw [if_pos h]
theorem kK_le (B : Nat → Nat) (L s : Nat) : kK B L s ≤ 4 := by
  unfold kK
  split
  · omega
  · split
    · omega
    · split
      · omega
      · split <;> omega
theorem fv_st {B : Nat → Nat} {s k : Nat} (hk : k < 2) (h : 48 ≤ B (s + k)) : 10 * fvI B s k + nI (B (s + k)) - 48 = fvI B s (k + 1) := by
  rcases (show k = 0 ∨ k = 1 by omega) with rfl | rfl
  · show (10 : Int32) * (0 : Int32) + nI (B s) - 48 = nI (B s - 48)
    rw [show (10 : Int32) * (0 : Int32) = nI 0 by decide, nI_add, Nat.zero_add, show (48 : Int32) = nI 48 from rfl, pk_sub (by rw [Nat.add_zero] at h; exact h)]
  · show (10 : Int32) * nI (B s - 48) + nI (B (s + 1)) - 48 = nI (10 * (B s - 48) + (B (s + 1) - 48))
    rw [show (10 : Int32) = nI 10 from rfl, pk_mul, nI_add, show (48 : Int32) = nI 48 from rfl, pk_sub (by omega), show 10 * (B s - 48) + B (s + 1) - 48 = 10 * (B s - 48) + (B (s + 1) - 48) by omega]
/-! the class's -/
def TX (w : Mm) (B : Nat → Nat) (L : Nat) : Prop := w.1 51 1 = nI L ∧ ∀ i, i < L → w.1 52 i = nI (B i)
def TB (B : Nat → Nat) (L : Nat) : Prop := L ≤ 150 ∧ ∀ i, i < L → B i < 128
theorem TX.fr {w w' : Mm} {B : Nat → Nat} {L : Nat} (h : TX w B L) (h1 : w'.1 51 1 = w.1 51 1) (h2 : w'.1 52 = w.1 52) : TX w' B L := by
  unfold TX
  rw [h1, h2]
  exact h
theorem adv_sp {N : Nat} {B : Nat → Nat} {L : Nat} (hB : TB B L) : ∀ (r n0 p : Nat) (w : Mm), p + r = L → r < n0 → TX w B L → w.1 51 3 = nI p → ∃ w', fX5_advance_L0 N n0 w = fX5_advance_L38 N w' ∧ Fr [51] w w' ∧ TX w' B L ∧ w'.1 51 3 = nI (spn isB_ B r p) := by
  intro r
  have hL := hB.1
  induction r with
  | zero =>
    intro n0 p w hp hr h h3
    obtain ⟨n1, rfl⟩ : ∃ n1, n0 = n1 + 1 := ⟨n0 - 1, by omega⟩
    refine ⟨w, ?_, Fr.rf, h, h3⟩
    rw [fX5_advance_L0, h.1, h3, if_pos (nI_le (by omega) (by omega))]
  | succ r ih =>
    intro n0 p w hp hr h h3
    obtain ⟨n1, rfl⟩ : ∃ n1, n0 = n1 + 1 := ⟨n0 - 1, by omega⟩
    have hb := hB.2 p (by omega)
    rw [fX5_advance_L0, h.1, h3, if_neg (nI_ge (by omega) (by omega)), rdA_n (by omega) (by decide), bS, h.2 p (by omega), bS, nI_1, spn]
    by_cases q : B p = 32
    · have f1 : Fr [51] w (sI w 51 3 (nI (p + 1))) := Fr.sI (by decide)
      obtain ⟨w', g1, g2, g3, g4⟩ := ih n1 (p + 1) (sI w 51 3 (nI (p + 1))) (by omega) (by omega) (h.fr (by rw [sI_1, if_neg (by decide)]) (sI_o _ (by decide))) (by rw [sI_1, if_pos ⟨rfl, rfl⟩])
      rw [if_pos (by rw [q]; rfl), if_pos (show isB_ (B p) = true from decide_eq_true q)]
      exact ⟨w', g1, f1.then g2, g3, g4⟩
    · rw [if_neg (show ¬ nI (B p) = 32 from fun z => q ((nI_eq (b := 32) (by omega) (by decide)).mp z)), if_neg (show ¬ isB_ (B p) = true from fun z => q (of_decide_eq_true z))]
      exact ⟨w, rfl, Fr.rf, h, h3⟩
theorem adv_let {N : Nat} {B : Nat → Nat} {L : Nat} (hB : TB B L) : ∀ (r n0 p : Nat) (w : Mm), p + r = L → r < n0 → TX w B L → w.1 51 3 = nI p → ∃ w', fX5_advance_L85 N n0 w = some w' ∧ Fr [51] w w' ∧ (∀ i, i ≠ 3 → w'.1 51 i = w.1 51 i) ∧ w'.1 51 3 = nI (spn isL_ B r p) := by
  intro r
  have hL := hB.1
  induction r with
  | zero =>
    intro n0 p w hp hr h h3
    obtain ⟨n1, rfl⟩ : ∃ n1, n0 = n1 + 1 := ⟨n0 - 1, by omega⟩
    refine ⟨w, ?_, Fr.rf, fun _ _ => rfl, h3⟩
    rw [fX5_advance_L85, h.1, h3, if_pos (nI_le (by omega) (by omega))]
  | succ r ih =>
    intro n0 p w hp hr h h3
    obtain ⟨n1, rfl⟩ : ∃ n1, n0 = n1 + 1 := ⟨n0 - 1, by omega⟩
    have hb := hB.2 p (by omega)
    rw [fX5_advance_L85, h.1, h3, if_neg (nI_ge (by omega) (by omega)), rdA_n (by omega) (by decide), bS, h.2 p (by omega), letter_n _ hb, bS, nI_1, spn]
    by_cases q : isL_ (B p) = true
    · have f1 : Fr [51] w (sI w 51 3 (nI (p + 1))) := Fr.sI (by decide)
      obtain ⟨w', g1, g2, g3, g4⟩ := ih n1 (p + 1) (sI w 51 3 (nI (p + 1))) (by omega) (by omega) (h.fr (by rw [sI_1, if_neg (by decide)]) (sI_o _ (by decide))) (by rw [sI_1, if_pos ⟨rfl, rfl⟩])
      rw [if_neg (fun z => by rw [b01_z, q] at z; exact absurd z (by decide)), if_pos q]
      exact ⟨w', g1, f1.then g2, fun i hi => by rw [g3 i hi, sI_1, if_neg (fun z => hi z.2)], g4⟩
    · rw [if_pos (b01_z.mpr (by simpa using q)), if_neg q]
      exact ⟨w, rfl, Fr.rf, fun _ _ => rfl, h3⟩
theorem adv_fig {N : Nat} {B : Nat → Nat} {L s : Nat} (hB : TB B L) : ∀ (r n0 p : Nat) (w : Mm), p + r = L → s ≤ p → r < n0 → TX w B L → w.1 51 3 = nI p → w.1 51 5 = nI s → w.1 51 6 = fvI B s (p - s) → ∃ w', fX5_advance_L149 N n0 w = some w' ∧ Fr [51] w w' ∧ (∀ i, i ≠ 3 → i ≠ 6 → w'.1 51 i = w.1 51 i) ∧ w'.1 51 3 = nI (spn isF_ B r p) ∧ w'.1 51 6 = fvI B s (spn isF_ B r p - s) := by
  intro r
  have hL := hB.1
  induction r with
  | zero =>
    intro n0 p w hp hs hr h h3 h5 h6
    obtain ⟨n1, rfl⟩ : ∃ n1, n0 = n1 + 1 := ⟨n0 - 1, by omega⟩
    refine ⟨w, ?_, Fr.rf, fun _ _ _ => rfl, h3, h6⟩
    rw [fX5_advance_L149, h.1, h3, if_pos (nI_le (by omega) (by omega))]
  | succ r ih =>
    intro n0 p w hp hs hr h h3 h5 h6
    obtain ⟨n1, rfl⟩ : ∃ n1, n0 = n1 + 1 := ⟨n0 - 1, by omega⟩
    have hb := hB.2 p (by omega)
    by_cases q : isF_ (B p) = true
    · have q48 : 48 ≤ B p := (of_decide_eq_true q).1
      have st : ∀ v, v = fvI B s (p + 1 - s) → fX5_advance_L213 N (fX5_advance_L149 N n1) w v = fX5_advance_L149 N n1 (sI (sI w 51 6 (fvI B s (p + 1 - s))) 51 3 (nI (p + 1))) := fun v hv => by
        unfold fX5_advance_L213
        rw [bS, bS, sI_1, if_neg (by decide), h3, nI_1, hv]
      have f1 : Fr [51] w (sI (sI w 51 6 (fvI B s (p + 1 - s))) 51 3 (nI (p + 1))) := (Fr.sI (L := [51]) (by decide)).then (Fr.sI (by decide))
      have fi : ∀ i, i ≠ 3 → i ≠ 6 → (sI (sI w 51 6 (fvI B s (p + 1 - s))) 51 3 (nI (p + 1))).1 51 i = w.1 51 i := fun i h1 h2 => by
        rw [sI_1, if_neg (fun z => h1 z.2), sI_1, if_neg (fun z => h2 z.2)]
      obtain ⟨w', g1, g2, g3, g4, g5⟩ := ih n1 (p + 1) (sI (sI w 51 6 (fvI B s (p + 1 - s))) 51 3 (nI (p + 1))) (by omega) (by omega) (by omega) (h.fr (fi 1 (by decide) (by decide)) (f1.1 52 (by decide))) (by rw [sI_1, if_pos ⟨rfl, rfl⟩]) (by rw [fi 5 (by decide) (by decide)]; exact h5) (by rw [sI_1, if_neg (by decide), sI_1, if_pos ⟨rfl, rfl⟩])
      rw [spn, if_pos q]
      refine ⟨w', ?_, f1.then g2, fun i h1 h2 => by rw [g3 i h1 h2, fi i h1 h2], g4, g5⟩
      rw [fX5_advance_L149, h.1, h3, if_neg (nI_ge (by omega) (by omega)), rdA_n (by omega) (by decide), bS, bS, h.2 p (by omega), figure_n _ hb, if_neg (fun z => by rw [b01_z, q] at z; exact absurd z (by decide)), h5, pk_sub hs, h6]
      by_cases q2 : 2 ≤ p - s
      · rw [if_pos (show (2 : Int32) ≤ nI (p - s) from nI_le (a := 2) q2 (by omega)), st (-1) (by unfold fvI; rw [if_neg (by omega), if_neg (by omega)])]
        exact g1
      · rw [if_neg (show ¬ (2 : Int32) ≤ nI (p - s) from nI_ge (b := 2) (by omega) (by decide)), st _ (by
          have h9 := fv_st (B := B) (s := s) (k := p - s) (by omega) (by rw [show s + (p - s) = p by omega]; exact q48)
          rw [show s + (p - s) = p by omega, show p - s + 1 = p + 1 - s by omega] at h9
          exact h9)]
        exact g1
    · rw [spn, if_neg q]
      refine ⟨w, ?_, Fr.rf, fun _ _ _ => rfl, h3, h6⟩
      rw [fX5_advance_L149, h.1, h3, if_neg (nI_ge (by omega) (by omega)), rdA_n (by omega) (by decide), bS, bS, h.2 p (by omega), figure_n _ hb, if_pos (b01_z.mpr (by simpa using q))]
/-- the class's token, read at s -/
def AT (w : Mm) (B : Nat → Nat) (L s : Nat) : Prop := w.1 51 3 = nI (kE B L s) ∧ w.1 51 4 = nI (kK B L s) ∧ w.1 51 5 = nI s ∧ (kK B L s = 2 → w.1 51 6 = fvI B s (kE B L s - s))
theorem adv_38 {N : Nat} (hN : 1000 ≤ N) {B : Nat → Nat} {L s : Nat} (hB : TB B L) (hs : s ≤ L) {w : Mm} (h : TX w B L) (h3 : w.1 51 3 = nI s) : ∃ w', fX5_advance_L38 N w = some w' ∧ Fr [51] w w' ∧ TX w' B L ∧ AT w' B L s := by
  have hL := hB.1
  have f5 : Fr [51] w (sI w 51 5 (nI s)) := Fr.sI (by decide)
  have t5 : TX (sI w 51 5 (nI s)) B L := h.fr (by rw [sI_1, if_neg (by decide)]) (sI_o _ (by decide))
  have e3 : (sI w 51 5 (nI s)).1 51 3 = nI s := by rw [sI_1, if_neg (by decide)]; exact h3
  have e5 : (sI w 51 5 (nI s)).1 51 5 = nI s := by rw [sI_1, if_pos ⟨rfl, rfl⟩]
  unfold fX5_advance_L38
  rw [h3, bS]
  generalize sI w 51 5 (nI s) = m at *
  rw [e3, t5.1]
  unfold AT
  by_cases q0 : L ≤ s
  · rw [if_neg (nI_nlt q0 (by omega)), bS]
    have ek : kK B L s = 0 := if_pos q0
    have ee : kE B L s = s := if_pos q0
    rw [ek, ee]
    refine ⟨sI m 51 4 0, rfl, f5.then (Fr.sI (by decide)), t5.fr (by rw [sI_1, if_neg (by decide)]) (sI_o _ (by decide)), ?_, ?_, ?_, fun z => absurd z (by decide)⟩
    · rw [sI_1, if_neg (by decide)]; exact e3
    · rw [sI_1, if_pos ⟨rfl, rfl⟩]; rfl
    · rw [sI_1, if_neg (by decide)]; exact e5
  · have hb := hB.2 s (by omega)
    rw [if_pos (nI_lt (by omega) (by omega)), rdA_n (by omega) (by decide), bS, t5.2 s (by omega), letter_n _ hb]
    by_cases q1 : isL_ (B s) = true
    · have ek : kK B L s = 1 := by unfold kK; rw [if_neg q0, if_pos q1]
      have ee : kE B L s = spn isL_ B (L - s) s := by unfold kE; rw [if_neg q0, if_pos q1]
      rw [if_neg (fun z => by rw [b01_z, q1] at z; exact absurd z (by decide)), bS, ek, ee]
      have f1 : Fr [51] m (sI m 51 4 1) := Fr.sI (by decide)
      obtain ⟨w', g1, g2, g3, g4⟩ := adv_let (N := N) hB (L - s) N s (sI m 51 4 1) (by omega) (by omega) (t5.fr (by rw [sI_1, if_neg (by decide)]) (sI_o _ (by decide))) (by rw [sI_1, if_neg (by decide)]; exact e3)
      refine ⟨w', g1, (f5.then f1).then g2, t5.fr (by rw [g3 1 (by decide), sI_1, if_neg (by decide)]) (by rw [g2.1 52 (by decide), sI_o _ (by decide)]), g4, ?_, ?_, fun z => absurd z (by decide)⟩
      · rw [g3 4 (by decide), sI_1, if_pos ⟨rfl, rfl⟩]; rfl
      · rw [g3 5 (by decide), sI_1, if_neg (by decide)]; exact e5
    · rw [if_pos (b01_z.mpr (by simpa using q1)), bS, figure_n _ hb]
      by_cases q2 : isF_ (B s) = true
      · have ek : kK B L s = 2 := by unfold kK; rw [if_neg q0, if_neg q1, if_pos q2]
        have ee : kE B L s = spn isF_ B (L - s) s := by unfold kE; rw [if_neg q0, if_neg q1, if_pos q2]
        rw [if_neg (fun z => by rw [b01_z, q2] at z; exact absurd z (by decide)), bS, bS, ek, ee]
        have f1 : Fr [51] m (sI (sI m 51 4 2) 51 6 0) := (Fr.sI (L := [51]) (by decide)).then (Fr.sI (by decide))
        have fi : ∀ i, i ≠ 4 → i ≠ 6 → (sI (sI m 51 4 2) 51 6 0).1 51 i = m.1 51 i := fun i h1 h2 => by
          rw [sI_1, if_neg (fun z => h2 z.2), sI_1, if_neg (fun z => h1 z.2)]
        obtain ⟨w', g1, g2, g3, g4, g5⟩ := adv_fig (N := N) (s := s) hB (L - s) N s (sI (sI m 51 4 2) 51 6 0) (by omega) (Nat.le_refl _) (by omega) (t5.fr (fi 1 (by decide) (by decide)) (f1.1 52 (by decide))) (by rw [fi 3 (by decide) (by decide)]; exact e3) (by rw [fi 5 (by decide) (by decide)]; exact e5) (by rw [sI_1, if_pos ⟨rfl, rfl⟩, Nat.sub_self]; rfl)
        refine ⟨w', g1, (f5.then f1).then g2, t5.fr (by rw [g3 1 (by decide) (by decide)]; exact fi 1 (by decide) (by decide)) (by rw [g2.1 52 (by decide)]; exact f1.1 52 (by decide)), g4, ?_, ?_, fun _ => g5⟩
        · rw [g3 4 (by decide) (by decide), sI_1, if_neg (by decide), sI_1, if_pos ⟨rfl, rfl⟩]; rfl
        · rw [g3 5 (by decide) (by decide), fi 5 (by decide) (by decide)]; exact e5
      · have ee : kE B L s = s + 1 := by unfold kE; rw [if_neg q0, if_neg q1, if_neg q2]
        have st : ∀ t, t ≠ 2 → kK B L s = t → ∃ w', fX5_advance_L249 N m (nI t) = some w' ∧ Fr [51] w w' ∧ TX w' B L ∧ w'.1 51 3 = nI (s + 1) ∧ w'.1 51 4 = nI t ∧ w'.1 51 5 = nI s ∧ (t = 2 → w'.1 51 6 = fvI B s (s + 1 - s)) := fun t ht hk => by
          unfold fX5_advance_L249
          rw [bS, bS, sI_1, if_neg (by decide), e3, nI_1]
          refine ⟨_, rfl, f5.then ((Fr.sI (L := [51]) (by decide)).then (Fr.sI (by decide))), t5.fr (by rw [sI_1, if_neg (by decide), sI_1, if_neg (by decide)]) (by rw [sI_o _ (by decide), sI_o _ (by decide)]), ?_, ?_, ?_, fun z => absurd z ht⟩
          · rw [sI_1, if_pos ⟨rfl, rfl⟩]
          · rw [sI_1, if_neg (by decide), sI_1, if_pos ⟨rfl, rfl⟩]
          · rw [sI_1, if_neg (by decide), sI_1, if_neg (by decide)]; exact e5
        rw [if_pos (b01_z.mpr (by simpa using q2)), bS, ee]
        by_cases q3 : B s = 59
        · have ek : kK B L s = 3 := by unfold kK; rw [if_neg q0, if_neg q1, if_neg q2, if_pos q3]
          rw [if_pos (by rw [q3]; rfl), ek]
          exact st 3 (by decide) ek
        · have ek : kK B L s = 4 := by unfold kK; rw [if_neg q0, if_neg q1, if_neg q2, if_neg q3]
          rw [if_neg (show ¬ nI (B s) = 59 from fun z => q3 ((nI_eq (b := 59) (by omega) (by decide)).mp z)), ek]
          exact st 4 (by decide) ek
theorem advance_ok {N : Nat} (hN : 1000 ≤ N) {B : Nat → Nat} {L p : Nat} (hB : TB B L) (hp : p ≤ L) {w : Mm} (h : TX w B L) (h3 : w.1 51 3 = nI p) : ∃ w', fX5_advance N w = some w' ∧ Fr [51] w w' ∧ TX w' B L ∧ AT w' B L (tS B L p) := by
  have hL := hB.1
  obtain ⟨w1, g1, g2, g3, g4⟩ := adv_sp (N := N) hB (L - p) N p w (by omega) (by omega) h h3
  obtain ⟨w2, k1, k2, k3, k4⟩ := adv_38 (N := N) hN hB (tS_le hp) g3 g4
  exact ⟨w2, g1.trans k1, g2.then k2, k3, k4⟩
/-! the reference's -/
def TM (w : Mm) (B : Nat → Nat) (L : Nat) : Prop := w.1 77 16 = nI L ∧ ∀ i, i < L → w.1 89 i = nI (B i)
theorem TM.fr {w w' : Mm} {B : Nat → Nat} {L : Nat} (h : TM w B L) (h1 : w'.1 77 16 = w.1 77 16) (h2 : w'.1 89 = w.1 89) : TM w' B L := by
  unfold TM
  rw [h1, h2]
  exact h
theorem look_sp {N : Nat} {B : Nat → Nat} {L : Nat} (hB : TB B L) : ∀ (r n0 p : Nat) (w : Mm), p + r = L → r < n0 → TM w B L → w.1 77 17 = nI p → ∃ w', fX12_lookAt_L5 N n0 w = fX12_lookAt_L43 N w' ∧ Fr [77] w w' ∧ (∀ i, i ≠ 17 → w'.1 77 i = w.1 77 i) ∧ w'.1 77 17 = nI (spn isB_ B r p) := by
  intro r
  have hL := hB.1
  induction r with
  | zero =>
    intro n0 p w hp hr h h3
    obtain ⟨n1, rfl⟩ : ∃ n1, n0 = n1 + 1 := ⟨n0 - 1, by omega⟩
    refine ⟨w, ?_, Fr.rf, fun _ _ => rfl, h3⟩
    rw [fX12_lookAt_L5, h.1, h3, if_pos (nI_le (by omega) (by omega))]
  | succ r ih =>
    intro n0 p w hp hr h h3
    obtain ⟨n1, rfl⟩ : ∃ n1, n0 = n1 + 1 := ⟨n0 - 1, by omega⟩
    have hb := hB.2 p (by omega)
    rw [fX12_lookAt_L5, h.1, h3, if_neg (nI_ge (by omega) (by omega)), rdA_n (by omega) (by decide), bS, h.2 p (by omega), bS, nI_1, spn]
    by_cases q : B p = 32
    · have f1 : Fr [77] w (sI w 77 17 (nI (p + 1))) := Fr.sI (by decide)
      obtain ⟨w', g1, g2, g3, g4⟩ := ih n1 (p + 1) (sI w 77 17 (nI (p + 1))) (by omega) (by omega) (h.fr (by rw [sI_1, if_neg (by decide)]) (sI_o _ (by decide))) (by rw [sI_1, if_pos ⟨rfl, rfl⟩])
      rw [if_pos (by rw [q]; rfl), if_pos (show isB_ (B p) = true from decide_eq_true q)]
      exact ⟨w', g1, f1.then g2, fun i hi => by rw [g3 i hi, sI_1, if_neg (fun z => hi z.2)], g4⟩
    · rw [if_neg (show ¬ nI (B p) = 32 from fun z => q ((nI_eq (b := 32) (by omega) (by decide)).mp z)), if_neg (show ¬ isB_ (B p) = true from fun z => q (of_decide_eq_true z))]
      exact ⟨w, rfl, Fr.rf, fun _ _ => rfl, h3⟩
theorem look_scan {N : Nat} {B : Nat → Nat} {L s t : Nat} {q : Nat → Bool} (hB : TB B L) (ht : t = 1 ∧ q = isL_ ∨ t = 2 ∧ q = isF_) : ∀ (r n0 k : Nat) (w : Mm), s + k + r = L → r + 1 < n0 → TM w B L → w.1 77 17 = nI s → w.1 77 18 = nI k → w.1 77 19 = nI t → ∃ w', fX12_lookAt_L136 N n0 w 1 = fX12_lookAt_L215 N w' ∧ Fr [77] w w' ∧ (∀ i, i ≠ 18 → w'.1 77 i = w.1 77 i) ∧ w'.1 77 18 = nI (spn q B r (s + k) - s) := by
  intro r
  have hL := hB.1
  induction r with
  | zero =>
    intro n0 k w hk hr h h17 h18 h19
    obtain ⟨n1, rfl⟩ : ∃ n1, n0 = n1 + 1 := ⟨n0 - 1, by omega⟩
    refine ⟨w, ?_, Fr.rf, fun _ _ => rfl, by rw [h18, spn, show s + k - s = k by omega]⟩
    rw [fX12_lookAt_L136, if_neg (by decide), h.1, h17, h18, nI_add, if_pos (nI_le (by omega) (by omega))]
  | succ r ih =>
    intro n0 k w hk hr h h17 h18 h19
    obtain ⟨n1, rfl⟩ : ∃ n1, n0 = n1 + 1 := ⟨n0 - 1, by omega⟩
    have hb := hB.2 (s + k) (by omega)
    have e1 : fX12_lookAt_L136 N (n1 + 1) w 1 = fX12_lookAt_L193 N (fX12_lookAt_L136 N n1) w (b01 (q (B (s + k)))) := by
      rw [fX12_lookAt_L136, if_neg (by decide), h.1, h17, h18, nI_add, if_neg (nI_ge (by omega) (by omega)), rdA_n (by omega) (by decide), bS, h.2 _ (by omega), h19, small_n _ hb, mfigure_n _ hb]
      rcases ht with ⟨t1, t2⟩ | ⟨t1, t2⟩
      · rw [t1, t2, if_pos (show nI 1 = 1 from rfl)]
      · rw [t1, t2, if_neg (show ¬ nI 2 = 1 by decide)]
    rw [e1, spn]
    unfold fX12_lookAt_L193 fX12_lookAt_L208
    rw [h18, bS, bS, nI_1, Int32.add_zero]
    by_cases qq : q (B (s + k)) = true
    · have f1 : Fr [77] w (sI w 77 18 (nI (k + 1))) := Fr.sI (by decide)
      have fi : ∀ i, i ≠ 18 → (sI w 77 18 (nI (k + 1))).1 77 i = w.1 77 i := fun i hi => by rw [sI_1, if_neg (fun z => hi z.2)]
      obtain ⟨w', g1, g2, g3, g4⟩ := ih n1 (k + 1) (sI w 77 18 (nI (k + 1))) (by omega) (by omega) (h.fr (fi 16 (by decide)) (f1.1 89 (by decide))) (by rw [fi 17 (by decide)]; exact h17) (by rw [sI_1, if_pos ⟨rfl, rfl⟩]) (by rw [fi 19 (by decide)]; exact h19)
      rw [qq, if_neg (show ¬ b01 true = 0 by decide), if_pos rfl]
      exact ⟨w', g1, f1.then g2, fun i hi => by rw [g3 i hi, fi i hi], g4⟩
    · have f1 : Fr [77] w (sI w 77 18 (nI k)) := Fr.sI (by decide)
      obtain ⟨n2, rfl⟩ : ∃ n2, n1 = n2 + 1 := ⟨n1 - 1, by omega⟩
      have qf : q (B (s + k)) = false := by simpa using qq
      rw [qf, if_pos (show b01 false = 0 from rfl), if_neg (by decide), fX12_lookAt_L136, if_pos (show b01 false = 0 from rfl)]
      exact ⟨sI w 77 18 (nI k), rfl, f1, fun i hi => by rw [sI_1, if_neg (fun z => hi z.2)], by rw [sI_1, if_pos ⟨rfl, rfl⟩, show s + k - s = k by omega]⟩
theorem look_274 {N : Nat} {w : Mm} {n t : Nat} (hn : n < 2 ^ 31) (ht : t ≤ 4) (h18 : w.1 77 18 = nI n) (h19 : w.1 77 19 = nI t) : ∃ w', fX12_lookAt_L274 N w = some w' ∧ Fr [77] w w' ∧ (∀ i, i ≠ 19 → w'.1 77 i = w.1 77 i) ∧ w'.1 77 19 = nI (if t = 2 ∧ 2 < n then 4 else t) := by
  unfold fX12_lookAt_L274 fX12_lookAt_L295 fX12_lookAt_L299
  rw [h18, h19, bS, bS]
  have fin : ∀ v, ∃ w', some (sI w 77 19 v) = some w' ∧ Fr [77] w w' ∧ (∀ i, i ≠ 19 → w'.1 77 i = w.1 77 i) ∧ w'.1 77 19 = v := fun v => ⟨_, rfl, Fr.sI (by decide), fun i hi => by rw [sI_1, if_neg (fun z => hi z.2)], by rw [sI_1, if_pos ⟨rfl, rfl⟩]⟩
  by_cases q : t = 2
  · rw [if_pos (by rw [q]; rfl)]
    by_cases q2 : 2 < n
    · rw [if_neg (show ¬ nI n ≤ 2 from nI_ge (a := 2) q2 hn), if_pos ⟨q, q2⟩]
      exact fin 4
    · rw [if_pos (show nI n ≤ 2 from nI_le (b := 2) (by omega) (by decide)), if_neg (fun z => q2 z.2)]
      exact fin _
  · rw [if_neg (show ¬ nI t = 2 from fun z => q ((nI_eq (b := 2) (by omega) (by decide)).mp z)), if_neg (fun z => q z.1)]
    exact fin _
theorem look_val {N : Nat} (hN : 1000 ≤ N) {B : Nat → Nat} {L s n t : Nat} (hB : TB B L) (hn : 0 < n) (hsn : s + n ≤ L) (ht : t ≤ 4) (hf : t = 2 → ∀ i, i < n → 48 ≤ B (s + i)) {w : Mm} (h : TM w B L) (h17 : w.1 77 17 = nI s) (h18 : w.1 77 18 = nI n) (h19 : w.1 77 19 = nI t) (h20 : w.1 77 20 = 0) : ∃ w', fX12_lookAt_L215 N w = some w' ∧ Fr [77] w w' ∧ (∀ i, i ≠ 19 → i ≠ 20 → w'.1 77 i = w.1 77 i) ∧ w'.1 77 19 = nI (if t = 2 ∧ 2 < n then 4 else t) ∧ (t = 2 → n ≤ 2 → w'.1 77 20 = nI (kV B s n)) := by
  have hL := hB.1
  unfold fX12_lookAt_L215
  obtain ⟨n1, e1⟩ : ∃ n1, N = n1 + 3 := ⟨N - 3, by omega⟩
  rw [show fX12_lookAt_L218 N N w 0 = fX12_lookAt_L218 N (n1 + 3) w 0 by rw [← e1]]
  rw [fX12_lookAt_L218, h18, if_neg (show ¬ nI n ≤ 0 from nI_nle hn (by omega)), if_neg (show ¬ (2 : Int32) ≤ 0 by decide), h19]
  by_cases q : t = 2
  · have st : ∀ (k : Nat) (u : Mm), k < 2 → k < n → TM u B L → u.1 77 17 = nI s → u.1 77 20 = fvI B s k → (Option.bind (rdA u 89 150 ((u.1 77 17) + nI k)) fun a26 => Option.bind (some (sI u 77 20 ((((10 : Int32) * (u.1 77 20)) + a26) - (48 : Int32)))) fun m27 => (some m27)) = some (sI u 77 20 (fvI B s (k + 1))) := fun k u hk hkn hu u17 u20 => by
      rw [u17, nI_add, rdA_n (by omega) (by decide), bS, bS, hu.2 _ (by omega), u20, fv_st hk (hf q k hkn)]
    rw [if_pos (by rw [q]; rfl), h17, show (0 : Int32) = nI 0 from rfl, nI_add, Nat.add_zero, rdA_n (by omega) (by decide), bS, bS, h.2 _ (by omega), h20]
    have v1 : (10 : Int32) * 0 + nI (B s) - 48 = fvI B s 1 := fv_st (B := B) (s := s) (k := 0) (by decide) (hf q 0 hn)
    rw [v1, nI_1, Nat.zero_add]
    have f1 : Fr [77] w (sI w 77 20 (fvI B s 1)) := Fr.sI (by decide)
    have fi : ∀ i, i ≠ 20 → (sI w 77 20 (fvI B s 1)).1 77 i = w.1 77 i := fun i hi => by rw [sI_1, if_neg (fun z => hi z.2)]
    rw [fX12_lookAt_L218, fi 18 (by decide), h18]
    by_cases q1 : n = 1
    · rw [if_pos (by rw [q1]; decide)]
      obtain ⟨w', g1, g2, g3, g4⟩ := look_274 (N := N) (w := sI w 77 20 (fvI B s 1)) (n := n) (t := t) (by omega) ht (by rw [fi 18 (by decide)]; exact h18) (by rw [fi 19 (by decide)]; exact h19)
      refine ⟨w', g1, f1.then g2, fun i h1 h2 => by rw [g3 i h1, fi i h2], g4, fun _ _ => ?_⟩
      rw [g3 20 (by decide), sI_1, if_pos ⟨rfl, rfl⟩, q1]
      rfl
    · rw [if_neg (show ¬ nI n ≤ nI 1 from nI_ge (by omega) (by omega)), if_neg (show ¬ (2 : Int32) ≤ nI 1 by decide), fi 19 (by decide), h19, if_pos (by rw [q]; rfl), fi 17 (by decide), h17, nI_add, rdA_n (by omega) (by decide), bS, bS, sI_o _ (show (89 : Nat) ≠ 77 by decide), h.2 _ (by omega), sI_1, if_pos ⟨rfl, rfl⟩]
      have v2 : (10 : Int32) * fvI B s 1 + nI (B (s + 1)) - 48 = fvI B s 2 := fv_st (B := B) (s := s) (k := 1) (by decide) (hf q 1 (by omega))
      rw [v2, nI_1]
      have f2 : Fr [77] w (sI (sI w 77 20 (fvI B s 1)) 77 20 (fvI B s 2)) := f1.then (Fr.sI (by decide))
      have fj : ∀ i, i ≠ 20 → (sI (sI w 77 20 (fvI B s 1)) 77 20 (fvI B s 2)).1 77 i = w.1 77 i := fun i hi => by rw [sI_1, if_neg (fun z => hi z.2)]; exact fi i hi
      rw [fX12_lookAt_L218, fj 18 (by decide), h18, if_pos (show (2 : Int32) ≤ nI (1 + 1) by decide)]
      obtain ⟨w', g1, g2, g3, g4⟩ := look_274 (N := N) (w := sI (sI w 77 20 (fvI B s 1)) 77 20 (fvI B s 2)) (n := n) (t := t) (by omega) ht (by rw [fj 18 (by decide)]; exact h18) (by rw [fj 19 (by decide)]; exact h19)
      refine ⟨w', ?_, f2.then g2, fun i h1 h2 => by rw [g3 i h1, fj i h2], g4, fun _ z => ?_⟩
      · rw [g1]; split <;> rfl
      · rw [g3 20 (by decide), sI_1, if_pos ⟨rfl, rfl⟩, show n = 2 by omega]
        rfl
  · rw [if_neg (show ¬ nI t = 2 from fun z => q ((nI_eq (b := 2) (by omega) (by decide)).mp z))]
    obtain ⟨w', g1, g2, g3, g4⟩ := look_274 (N := N) (w := w) (n := n) (t := t) (by omega) ht h18 h19
    exact ⟨w', g1, g2, fun i h1 _ => g3 i h1, g4, fun z => absurd z q⟩
/-- the reference's token, read at s -/
def MT (w : Mm) (B : Nat → Nat) (L s : Nat) : Prop := w.1 77 17 = nI s ∧ w.1 77 18 = nI (kE B L s - s) ∧ w.1 77 19 = nI (if kK B L s = 2 ∧ 2 < kE B L s - s then 4 else kK B L s) ∧ (kK B L s = 2 → kE B L s - s ≤ 2 → w.1 77 20 = nI (kV B s (kE B L s - s)))
theorem spn_all {q : Nat → Bool} {B : Nat → Nat} : ∀ r p i, p ≤ i → i < spn q B r p → q (B i) = true := by
  intro r
  induction r with
  | zero => intro p i h1 h2; rw [spn] at h2; omega
  | succ r ih =>
    intro p i h1 h2
    rw [spn] at h2
    by_cases e : q (B p) = true
    · rw [if_pos e] at h2
      by_cases e2 : i = p
      · rw [e2]; exact e
      · exact ih (p + 1) i (by omega) h2
    · rw [if_neg e] at h2; omega
theorem look_114 {N : Nat} (hN : 1000 ≤ N) {B : Nat → Nat} {L s t : Nat} (hB : TB B L) (hs : s < L) (ht : t = kK B L s) {w : Mm} (h : TM w B L) (h17 : w.1 77 17 = nI s) (h20 : w.1 77 20 = 0) : ∃ w', fX12_lookAt_L114 N w (nI t) = some w' ∧ Fr [77] w w' ∧ (∀ i, i < 17 → w'.1 77 i = w.1 77 i) ∧ MT w' B L s := by
  have hL := hB.1
  have hk4 := kK_le B L s
  have hgt := kE_gt (B := B) hs
  have hle := kE_le (B := B) (Nat.le_of_lt hs)
  have f1 : Fr [77] w (sI (sI w 77 19 (nI t)) 77 18 1) := (Fr.sI (L := [77]) (by decide)).then (Fr.sI (by decide))
  have fi : ∀ i, i ≠ 18 → i ≠ 19 → (sI (sI w 77 19 (nI t)) 77 18 1).1 77 i = w.1 77 i := fun i h1 h2 => by
    rw [sI_1, if_neg (fun z => h1 z.2), sI_1, if_neg (fun z => h2 z.2)]
  have e19 : (sI (sI w 77 19 (nI t)) 77 18 1).1 77 19 = nI t := by rw [sI_1, if_neg (by decide), sI_1, if_pos ⟨rfl, rfl⟩]
  have e18 : (sI (sI w 77 19 (nI t)) 77 18 1).1 77 18 = nI 1 := by rw [sI_1, if_pos ⟨rfl, rfl⟩]; rfl
  unfold fX12_lookAt_L114 fX12_lookAt_L135
  rw [bS, bS, e19]
  generalize sI (sI w 77 19 (nI t)) 77 18 1 = m at *
  have tm : TM m B L := h.fr (fi 16 (by decide) (by decide)) (f1.1 89 (by decide))
  have m17 : m.1 77 17 = nI s := by rw [fi 17 (by decide) (by decide)]; exact h17
  have m20 : m.1 77 20 = 0 := by rw [fi 20 (by decide) (by decide)]; exact h20
  -- behind the scan
  have fin : ∀ (u : Mm), (∀ i, i ≠ 18 → u.1 77 i = m.1 77 i) → Fr [77] m u → u.1 77 18 = nI (kE B L s - s) → ∃ w', fX12_lookAt_L215 N u = some w' ∧ Fr [77] w w' ∧ (∀ i, i < 17 → w'.1 77 i = w.1 77 i) ∧ MT w' B L s := fun u u1 u2 u3 => by
    obtain ⟨w', g1, g2, g3, g4, g5⟩ := look_val (N := N) hN hB (s := s) (n := kE B L s - s) (t := t) (by omega) (by omega) (by omega) (fun t2 i hi => by
      rw [ht] at t2
      have hq : kE B L s = spn isF_ B (L - s) s := by
        unfold kK at t2
        unfold kE
        rw [if_neg (by omega)] at t2 ⊢
        by_cases q1 : isL_ (B s) = true
        · rw [if_pos q1] at t2; omega
        · rw [if_neg q1] at t2 ⊢
          by_cases q2 : isF_ (B s) = true
          · rw [if_pos q2]
          · rw [if_neg q2] at t2
            split at t2 <;> omega
      have := spn_all (q := isF_) (B := B) (L - s) s (s + i) (by omega) (by omega)
      exact (of_decide_eq_true this).1) (tm.fr (u1 16 (by decide)) (u2.1 89 (by decide))) (by rw [u1 17 (by decide)]; exact m17) u3 (by rw [u1 19 (by decide)]; exact e19) (by rw [u1 20 (by decide)]; exact m20)
    refine ⟨w', g1, (f1.then u2).then g2, fun i hi => by rw [g3 i (by omega) (by omega), u1 i (by omega), fi i (by omega) (by omega)], ?_, ?_, ?_, ?_⟩
    · rw [g3 17 (by decide) (by decide), u1 17 (by decide)]; exact m17
    · rw [g3 18 (by decide) (by decide)]; exact u3
    · rw [g4, ht]
    · rw [← ht]; exact g5
  by_cases q3 : 3 ≤ t
  · have ee : kE B L s = s + 1 := by
      rw [ht] at q3
      unfold kK at q3
      unfold kE
      rw [if_neg (by omega)] at q3 ⊢
      by_cases q1 : isL_ (B s) = true
      · rw [if_pos q1] at q3; omega
      · rw [if_neg q1] at q3 ⊢
        by_cases q2 : isF_ (B s) = true
        · rw [if_pos q2] at q3; omega
        · rw [if_neg q2]
    rw [if_pos (show (3 : Int32) ≤ nI t from nI_le (a := 3) q3 (by omega))]
    obtain ⟨n1, e1⟩ : ∃ n1, N = n1 + 1 := ⟨N - 1, by omega⟩
    rw [show fX12_lookAt_L136 N N m 0 = fX12_lookAt_L136 N (n1 + 1) m 0 by rw [← e1], fX12_lookAt_L136, if_pos rfl]
    exact fin m (fun _ _ => rfl) Fr.rf (by rw [ee, show s + 1 - s = 1 by omega]; exact e18)
  · rw [if_neg (show ¬ (3 : Int32) ≤ nI t from nI_ge (b := 3) (by omega) (by decide))]
    have key : ∃ q, (t = 1 ∧ q = isL_ ∨ t = 2 ∧ q = isF_) ∧ q (B s) = true ∧ kE B L s = spn q B (L - s) s := by
      have q0 : ¬ L ≤ s := by omega
      by_cases q1 : isL_ (B s) = true
      · have ek : kK B L s = 1 := by unfold kK; rw [if_neg q0, if_pos q1]
        have ee : kE B L s = spn isL_ B (L - s) s := by unfold kE; rw [if_neg q0, if_pos q1]
        exact ⟨isL_, Or.inl ⟨ht.trans ek, rfl⟩, q1, ee⟩
      · by_cases q2 : isF_ (B s) = true
        · have ek : kK B L s = 2 := by unfold kK; rw [if_neg q0, if_neg q1, if_pos q2]
          have ee : kE B L s = spn isF_ B (L - s) s := by unfold kE; rw [if_neg q0, if_neg q1, if_pos q2]
          exact ⟨isF_, Or.inr ⟨ht.trans ek, rfl⟩, q2, ee⟩
        · have ek : 3 ≤ kK B L s := by
            unfold kK
            rw [if_neg q0, if_neg q1, if_neg q2]
            split <;> omega
          omega
    obtain ⟨q, k1, k2, k3⟩ := key
    obtain ⟨u, g1, g2, g3, g4⟩ := look_scan (N := N) hB k1 (s := s) (L - s - 1) N 1 m (by omega) (by omega) tm m17 e18 e19
    rw [← spn_1 (by omega) k2, ← k3] at g4
    obtain ⟨w', p1, p2⟩ := fin u g3 g2 g4
    exact ⟨w', g1.trans p1, p2⟩
theorem look_ok {N : Nat} (hN : 1000 ≤ N) {B : Nat → Nat} {L p : Nat} (hB : TB B L) (hp : p ≤ L) {w : Mm} (h : TM w B L) : ∃ w', fX12_lookAt N w (nI p) = some w' ∧ Fr [77] w w' ∧ (∀ i, i < 17 → w'.1 77 i = w.1 77 i) ∧ MT w' B L (tS B L p) := by
  have hL := hB.1
  have f0 : Fr [77] w (sI w 77 17 (nI p)) := Fr.sI (by decide)
  obtain ⟨u, g1, g2, g3, g4⟩ := look_sp (N := N) hB (L - p) N p (sI w 77 17 (nI p)) (by omega) (by omega) (h.fr (by rw [sI_1, if_neg (by decide)]) (sI_o _ (by decide))) (by rw [sI_1, if_pos ⟨rfl, rfl⟩])
  have hs : tS B L p ≤ L := tS_le hp
  have g4 : u.1 77 17 = nI (tS B L p) := g4
  have u16 : u.1 77 16 = nI L := by rw [g3 16 (by decide), sI_1, if_neg (by decide)]; exact h.1
  have e0 : fX12_lookAt N w (nI p) = fX12_lookAt_L43 N u := by
    unfold fX12_lookAt
    rw [bS]
    exact g1
  have f2 : Fr [77] w (sI (sI (sI u 77 18 0) 77 19 0) 77 20 0) := (f0.then g2).then (((Fr.sI (L := [77]) (by decide)).then (Fr.sI (by decide))).then (Fr.sI (by decide)))
  have fi : ∀ i, i ≠ 18 → i ≠ 19 → i ≠ 20 → (sI (sI (sI u 77 18 0) 77 19 0) 77 20 0).1 77 i = u.1 77 i := fun i h1 h2 h3 => by
    rw [sI_1, if_neg (fun z => h3 z.2), sI_1, if_neg (fun z => h2 z.2), sI_1, if_neg (fun z => h1 z.2)]
  have e18 : (sI (sI (sI u 77 18 0) 77 19 0) 77 20 0).1 77 18 = 0 := by rw [sI_1, if_neg (by decide), sI_1, if_neg (by decide), sI_1, if_pos ⟨rfl, rfl⟩]
  have e19 : (sI (sI (sI u 77 18 0) 77 19 0) 77 20 0).1 77 19 = 0 := by rw [sI_1, if_neg (by decide), sI_1, if_pos ⟨rfl, rfl⟩]
  have e20 : (sI (sI (sI u 77 18 0) 77 19 0) 77 20 0).1 77 20 = 0 := by rw [sI_1, if_pos ⟨rfl, rfl⟩]
  have fj : ∀ i, i < 17 → (sI (sI (sI u 77 18 0) 77 19 0) 77 20 0).1 77 i = w.1 77 i := fun i hi => by
    rw [fi i (by omega) (by omega) (by omega), g3 i (by omega), sI_1, if_neg (by omega)]
  rw [e0]
  unfold fX12_lookAt_L43
  rw [bS, bS, bS]
  generalize sI (sI (sI u 77 18 0) 77 19 0) 77 20 0 = m at *
  have m17 : m.1 77 17 = nI (tS B L p) := by rw [fi 17 (by decide) (by decide) (by decide)]; exact g4
  have m16 : m.1 77 16 = nI L := by rw [fi 16 (by decide) (by decide) (by decide)]; exact u16
  have tm : TM m B L := h.fr (fj 16 (by decide)) (f2.1 89 (by decide))
  generalize tS B L p = s at *
  rw [m17, m16]
  by_cases q : s = L
  · rw [if_pos (by rw [q])]
    have ek : kK B L s = 0 := if_pos (by omega)
    have ee : kE B L s = s := if_pos (by omega)
    refine ⟨m, rfl, f2, fj, m17, ?_, ?_, fun z => by rw [ek] at z; exact absurd z (by decide)⟩
    · rw [ee, Nat.sub_self]; exact e18
    · rw [ek]; exact e19
  · have hb := hB.2 s (by omega)
    have st : ∀ t, t = kK B L s → ∃ w', fX12_lookAt_L114 N m (nI t) = some w' ∧ Fr [77] w w' ∧ (∀ i, i < 17 → w'.1 77 i = w.1 77 i) ∧ MT w' B L s := fun t ht => by
      obtain ⟨w', p1, p2, p3, p4⟩ := look_114 (N := N) hN hB (s := s) (by omega) ht tm m17 e20
      exact ⟨w', p1, f2.then p2, fun i hi => by rw [p3 i hi, fj i hi], p4⟩
    rw [if_neg (fun z => q ((nI_eq (by omega) (by omega)).mp z)), rdA_n (by omega) (by decide), bS, tm.2 s (by omega), small_n _ hb, mfigure_n _ hb]
    by_cases q1 : isL_ (B s) = true
    · rw [if_neg (fun z => by rw [b01_z, q1] at z; exact absurd z (by decide))]
      exact st 1 (by unfold kK; rw [if_neg (by omega), if_pos q1])
    · rw [if_pos (b01_z.mpr (by simpa using q1))]
      by_cases q2 : isF_ (B s) = true
      · rw [if_neg (fun z => by rw [b01_z, q2] at z; exact absurd z (by decide))]
        exact st 2 (by unfold kK; rw [if_neg (by omega), if_neg q1, if_pos q2])
      · rw [if_pos (b01_z.mpr (by simpa using q2))]
        by_cases q3 : B s = 59
        · rw [if_pos (by rw [q3]; rfl)]
          exact st 3 (by unfold kK; rw [if_neg (by omega), if_neg q1, if_neg q2, if_pos q3])
        · rw [if_neg (show ¬ nI (B s) = 59 from fun z => q3 ((nI_eq (b := 59) (by omega) (by decide)).mp z))]
          exact st 4 (by unfold kK; rw [if_neg (by omega), if_neg q1, if_neg q2, if_neg q3])

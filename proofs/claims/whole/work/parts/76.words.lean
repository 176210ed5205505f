/-! ===== words and numbers of the text ===== -/
def cw (i j : Nat) : Nat := (([[118, 97, 108, 108, 101, 121], [99, 97, 110, 100, 108, 101], [111, 117, 116]] : List (List Nat)).getD i []).getD j 0
theorem stC_n : ∀ i, i < 3 → ∀ j, j < stL i → stC i (nI j) = some (nI (cw i j)) := by decide +kernel
theorem stL_b : ∀ i, i < 3 → 0 < stL i ∧ stL i ≤ 6 := by decide
theorem cw_b : ∀ i, i < 3 → ∀ j, j < 6 → cw i j < 128 := by decide
def spB (B : Nat → Nat) (s i : Nat) : Nat → Bool
  | 0 => true
  | j + 1 => spB B s i j && decide (B (s + j) = cw i j)
theorem spB_mono {B : Nat → Nat} {s i j : Nat} : ∀ {n : Nat}, j ≤ n → spB B s i n = true → spB B s i j = true := by
  intro n
  induction n with
  | zero => intro h1 h2; rw [show j = 0 by omega]; exact h2
  | succ n ih =>
    intro h1 h2
    by_cases e : j = n + 1
    · rw [e]; exact h2
    · rw [spB, Bool.and_eq_true] at h2
      exact ih (by omega) h2.1
theorem spB_no {B : Nat → Nat} {s i j n : Nat} (hj : j < n) (h : ¬ B (s + j) = cw i j) : spB B s i n = false := by
  cases e : spB B s i n
  · rfl
  · have := spB_mono (show j + 1 ≤ n by omega) e
    rw [spB, Bool.and_eq_true] at this
    exact absurd (of_decide_eq_true this.2) h
/-- the token at s is the i-th word -/
def cal (B : Nat → Nat) (L s i : Nat) : Bool := decide (kE B L s - s = stL i) && spB B s i (stL i)
theorem spells_n {B : Nat → Nat} {L s i : Nat} (hB : TB B L) (hi : i < 3) (hs : s + stL i ≤ L) {w : Mm} (h : TX w B L) (h5 : w.1 51 5 = nI s) : ∀ (r n0 j : Nat), j + r = stL i → r < n0 → spB B s i j = true → fX5_spells_L20 i w n0 (nI j) = some (b01 (spB B s i (stL i))) := by
  intro r
  have hL := hB.1
  induction r with
  | zero =>
    intro n0 j hj hr ha
    obtain ⟨n1, rfl⟩ : ∃ n1, n0 = n1 + 1 := ⟨n0 - 1, by omega⟩
    have e : j = stL i := by omega
    subst e
    rw [fX5_spells_L20, if_pos (show Int32.ofNat (stL i) ≤ nI (stL i) from Int32.le_refl _), ha]
    rfl
  | succ r ih =>
    intro n0 j hj hr ha
    obtain ⟨n1, rfl⟩ : ∃ n1, n0 = n1 + 1 := ⟨n0 - 1, by omega⟩
    have hb := hB.2 (s + j) (by omega)
    have h6 := (stL_b i hi).2
    have hc := cw_b i hi j (by omega)
    rw [fX5_spells_L20, if_neg (show ¬ Int32.ofNat (stL i) ≤ nI j from nI_ge (b := stL i) (by omega) (by omega)), h5, nI_add, rdA_n (by omega) (by decide), bS, h.2 _ (by omega), stC_n i hi j (by omega), bS, nI_1]
    by_cases q : B (s + j) = cw i j
    · rw [if_pos (by rw [q])]
      exact ih n1 (j + 1) (by omega) (by omega) (by rw [spB, ha, decide_eq_true q]; rfl)
    · rw [if_neg (fun z => q ((nI_eq (by omega) (by omega)).mp z)), spB_no (j := j) (by omega) q]
      rfl
theorem spells_ok {N : Nat} (hN : 1000 ≤ N) {B : Nat → Nat} {L s i : Nat} (hB : TB B L) (hi : i < 3) (hs : s ≤ L) {w : Mm} (h : TX w B L) (ha : AT w B L s) : fX5_spells N i w = some (b01 (cal B L s i)) := by
  have hL := hB.1
  have h6 := (stL_b i hi).2
  have hge := kE_ge B L s
  have hle := kE_le (B := B) hs
  unfold fX5_spells cal
  rw [ha.1, ha.2.2.1, pk_sub hge]
  by_cases q : kE B L s - s = stL i
  · rw [if_pos (show nI (kE B L s - s) = Int32.ofNat (stL i) by rw [q]; rfl), decide_eq_true q, Bool.true_and]
    exact spells_n hB hi (by omega) h ha.2.2.1 (stL i) N 0 (Nat.zero_add _) (by omega) rfl
  · rw [if_neg (show ¬ nI (kE B L s - s) = Int32.ofNat (stL i) from fun z => q ((nI_eq (by omega) (by omega)).mp z)), decide_eq_false q, Bool.false_and]
    rfl
theorem called_n {N : Nat} {B : Nat → Nat} {L s i : Nat} (hB : TB B L) (hi : i < 3) (hs : s + stL i ≤ L) {w : Mm} (h : TM w B L) (h17 : w.1 77 17 = nI s) : ∀ (r n0 j : Nat), j + r = stL i → r + 1 < n0 → spB B s i j = true → fX12_isCalled_L26 N w n0 (nI (stL i)) (nI (cw i 0)) (nI (cw i 1)) (nI (cw i 2)) (nI (cw i 3)) (nI (cw i 4)) (nI (cw i 5)) 1 (nI j) = some (b01 (spB B s i (stL i))) := by
  intro r
  have hL := hB.1
  induction r with
  | zero =>
    intro n0 j hj hr ha
    obtain ⟨n1, rfl⟩ : ∃ n1, n0 = n1 + 1 := ⟨n0 - 1, by omega⟩
    have e : j = stL i := by omega
    subst e
    rw [fX12_isCalled_L26, if_pos (Int32.le_refl _), ha]
    rfl
  | succ r ih =>
    intro n0 j hj hr ha
    obtain ⟨n1, rfl⟩ : ∃ n1, n0 = n1 + 1 := ⟨n0 - 1, by omega⟩
    have hb := hB.2 (s + j) (by omega)
    have h6 := (stL_b i hi).2
    have hc := cw_b i hi j (by omega)
    have body : fX12_isCalled_L103 N (fX12_isCalled_L26 N w n1) w (nI (stL i)) (nI (cw i 0)) (nI (cw i 1)) (nI (cw i 2)) (nI (cw i 3)) (nI (cw i 4)) (nI (cw i 5)) (nI j) (nI (cw i j)) (nI (B (s + j))) = some (b01 (spB B s i (stL i))) := by
      unfold fX12_isCalled_L103
      rw [nI_1]
      by_cases q : B (s + j) = cw i j
      · rw [if_pos (by rw [q])]
        exact ih n1 (j + 1) (by omega) (by omega) (by rw [spB, ha, decide_eq_true q]; rfl)
      · rw [if_neg (fun z => q ((nI_eq (by omega) (by omega)).mp z)), spB_no (j := j) (by omega) q]
        obtain ⟨n2, rfl⟩ : ∃ n2, n1 = n2 + 1 := ⟨n1 - 1, by omega⟩
        rw [fX12_isCalled_L26, if_pos (show (0 : Int32) = 0 from rfl)]
        split <;> rfl
    rw [fX12_isCalled_L26, if_neg (nI_ge (by omega) (by omega)), if_neg (show ¬ (1 : Int32) = 0 by decide), h17, nI_add, rdA_n (by omega) (by decide), bS, h.2 _ (by omega)]
    have hj6 : j < 6 := by omega
    clear ih
    rcases (show j = 0 ∨ j = 1 ∨ j = 2 ∨ j = 3 ∨ j = 4 ∨ j = 5 by omega) with rfl | rfl | rfl | rfl | rfl | rfl
    · rw [if_pos (show nI 0 = 0 from rfl)]; exact body
    · rw [if_neg (show ¬ nI 1 = 0 by decide), if_pos (show nI 1 = 1 from rfl)]; exact body
    · rw [if_neg (show ¬ nI 2 = 0 by decide), if_neg (show ¬ nI 2 = 1 by decide), if_pos (show nI 2 = 2 from rfl)]; exact body
    · rw [if_neg (show ¬ nI 3 = 0 by decide), if_neg (show ¬ nI 3 = 1 by decide), if_neg (show ¬ nI 3 = 2 by decide), if_pos (show nI 3 = 3 from rfl)]; exact body
    · rw [if_neg (show ¬ nI 4 = 0 by decide), if_neg (show ¬ nI 4 = 1 by decide), if_neg (show ¬ nI 4 = 2 by decide), if_neg (show ¬ nI 4 = 3 by decide), if_pos (show nI 4 = 4 from rfl)]; exact body
    · rw [if_neg (show ¬ nI 5 = 0 by decide), if_neg (show ¬ nI 5 = 1 by decide), if_neg (show ¬ nI 5 = 2 by decide), if_neg (show ¬ nI 5 = 3 by decide), if_neg (show ¬ nI 5 = 4 by decide)]; exact body
theorem MT.k {w : Mm} {B : Nat → Nat} {L s : Nat} (h : MT w B L s) {t : Nat} (ht : t ≤ 3) (h2 : t ≠ 2) : (w.1 77 19 = nI t) ↔ kK B L s = t := by
  have hk := kK_le B L s
  rw [h.2.2.1]
  by_cases q : kK B L s = 2 ∧ 2 < kE B L s - s
  · rw [if_pos q, nI_eq (by decide) (by omega)]
    omega
  · rw [if_neg q, nI_eq (by omega) (by omega)]
theorem MT.k2 {w : Mm} {B : Nat → Nat} {L s : Nat} (h : MT w B L s) : (w.1 77 19 = 2) ↔ kK B L s = 2 ∧ kE B L s - s ≤ 2 := by
  have hk := kK_le B L s
  rw [h.2.2.1, show (2 : Int32) = nI 2 from rfl]
  by_cases q : kK B L s = 2 ∧ 2 < kE B L s - s
  · rw [if_pos q, nI_eq (by decide) (by decide)]
    omega
  · rw [if_neg q, nI_eq (by omega) (by decide)]
    omega
theorem called_ok {N : Nat} (hN : 1000 ≤ N) {B : Nat → Nat} {L s i : Nat} (hB : TB B L) (hi : i < 3) (hs : s ≤ L) {w : Mm} (h : TM w B L) (ha : MT w B L s) : fX12_isCalled N w (nI (stL i)) (nI (cw i 0)) (nI (cw i 1)) (nI (cw i 2)) (nI (cw i 3)) (nI (cw i 4)) (nI (cw i 5)) = some (b01 (decide (kK B L s = 1) && cal B L s i)) := by
  have hL := hB.1
  have h6 := stL_b i hi
  have hge := kE_ge B L s
  have hle := kE_le (B := B) hs
  have l20 : fX12_isCalled_L20 N w (nI (stL i)) (nI (cw i 0)) (nI (cw i 1)) (nI (cw i 2)) (nI (cw i 3)) (nI (cw i 4)) (nI (cw i 5)) = some (b01 false) := by
    unfold fX12_isCalled_L20 fX12_isCalled_L21
    obtain ⟨n1, e1⟩ : ∃ n1, N = n1 + 1 := ⟨N - 1, by omega⟩
    rw [e1, fX12_isCalled_L26, if_pos (show (0 : Int32) = 0 from rfl)]
    split <;> rfl
  unfold fX12_isCalled
  rw [l20]
  by_cases q1 : kK B L s = 1
  · rw [if_pos (show w.1 77 19 = 1 from (ha.k (t := 1) (by decide) (by decide)).mpr q1), decide_eq_true q1, Bool.true_and, ha.2.1]
    unfold cal
    by_cases q : kE B L s - s = stL i
    · rw [if_pos (by rw [q]), decide_eq_true q, Bool.true_and]
      exact called_n hB hi (by omega) h ha.1 (stL i) N 0 (Nat.zero_add _) (by omega) rfl
    · rw [if_neg (fun z => q ((nI_eq (by omega) (by omega)).mp z)), decide_eq_false q, Bool.false_and]
  · rw [if_neg (show ¬ w.1 77 19 = 1 from fun z => q1 ((ha.k (t := 1) (by decide) (by decide)).mp z)), decide_eq_false q1, Bool.false_and]
/-! numbers -/
/-- the token at s is a number as told, at least lo and below n -/
def numB (B : Nat → Nat) (L s lo n : Nat) : Bool := decide (kK B L s = 2 ∧ kE B L s - s ≤ 2 ∧ lo ≤ kV B s (kE B L s - s) ∧ kV B s (kE B L s - s) < n)
def nxt (B : Nat → Nat) (L s : Nat) : Nat := tS B L (kE B L s)
def vA (B : Nat → Nat) (L s : Nat) : Nat := kV B s (kE B L s - s)
theorem nxt_ge (B : Nat → Nat) (L s : Nat) : s ≤ nxt B L s := Nat.le_trans (kE_ge B L s) (tS_ge B L _)
theorem nxt_le {B : Nat → Nat} {L s : Nat} (h : s ≤ L) : nxt B L s ≤ L := tS_le (kE_le h)
theorem kV_lt {B : Nat → Nat} {L s : Nat} (hB : TB B L) (hs : s ≤ L) (hk : kK B L s = 2) (h2 : kE B L s - s ≤ 2) : 0 < kE B L s - s ∧ kV B s (kE B L s - s) < 2 ^ 20 := by
  have hsl : s < L := by
    by_cases q : s < L
    · exact q
    · have := (kK_0 (B := B) (L := L) (s := s)).mpr (by omega)
      omega
  have hgt := kE_gt (B := B) hsl
  have hle := kE_le (B := B) hs
  have b1 := hB.2 s hsl
  refine ⟨by omega, ?_⟩
  unfold kV
  split
  · omega
  · have b2 := hB.2 (s + 1) (by omega)
    omega
theorem rng_x {v lo n : Nat} (hv : v < 2 ^ 20) (hl : lo ≤ 100) (hn : n ≤ 100) : (nI v < nI lo ∨ nI n - 1 < nI v) ↔ ¬ (lo ≤ v ∧ v < n) := by
  rw [nI_ltI (by omega) (by omega)]
  rcases Nat.eq_zero_or_pos n with e | e
  · subst e
    refine ⟨fun _ z => by omega, fun _ => Or.inr ?_⟩
    exact Int32.lt_of_lt_of_le (show nI 0 - 1 < 0 by decide) (nI_pos' (by omega))
  · obtain ⟨k, rfl⟩ : ∃ k, n = k + 1 := ⟨n - 1, by omega⟩
    rw [nI_pred, nI_ltI (by omega) (by omega)]
    omega
theorem takeNumber_ok {N : Nat} (hN : 1000 ≤ N) {B : Nat → Nat} {L s lo n : Nat} {x1 x2 : Int32} (hB : TB B L) (hs : s ≤ L) (hl : lo ≤ 100) (hn : n ≤ 100) (e1 : x1 = nI lo) (e2 : x2 = nI n - 1) {w : Mm} (h : TX w B L) (h3 : w.1 51 3 = nI (kE B L s)) : ∃ w', fX5_takeNumber N w x1 x2 = some (b01 (numB B L (nxt B L s) lo n), w') ∧ Fr [51] w w' ∧ TX w' B L ∧ AT w' B L (nxt B L s) ∧ (numB B L (nxt B L s) lo n = true → w'.1 51 6 = nI (vA B L (nxt B L s))) := by
  obtain ⟨w', g1, g2, g3, g4⟩ := advance_ok (N := N) hN hB (kE_le hs) h h3
  have hs' : nxt B L s ≤ L := nxt_le hs
  have g4 : AT w' B L (nxt B L s) := g4
  have hk4 := kK_le B L (nxt B L s)
  subst e1 e2
  unfold fX5_takeNumber fX5_takeNumber_L28
  rw [g1, bS]
  generalize nxt B L s = u at *
  unfold numB vA
  refine ⟨w', ?_, g2, g3, g4, ?_⟩
  · rw [g4.2.1]
    by_cases q : kK B L u = 2
    · rw [if_pos (show nI (kK B L u) = 2 by rw [q]; rfl), g4.2.2.2 q]
      by_cases q2 : kE B L u - u ≤ 2
      · obtain ⟨k0, kv⟩ := kV_lt hB hs' q q2
        have ef : fvI B u (kE B L u - u) = nI (kV B u (kE B L u - u)) := by unfold fvI; rw [if_neg (by omega), if_pos q2]
        rw [ef]
        by_cases q3 : lo ≤ kV B u (kE B L u - u) ∧ kV B u (kE B L u - u) < n
        · rw [if_neg (fun z => (rng_x kv hl hn).mp (within_iff.mp z) q3), decide_eq_true ⟨q, q2, q3⟩]; rfl
        · rw [if_pos (within_iff.mpr ((rng_x kv hl hn).mpr q3)), decide_eq_false (fun z => q3 z.2.2)]; rfl
      · have ef : fvI B u (kE B L u - u) = -1 := by unfold fvI; rw [if_neg (by omega), if_neg q2]
        rw [ef, if_pos (within_iff.mpr (Or.inl (Int32.lt_of_lt_of_le (show (-1 : Int32) < 0 by decide) (nI_pos' (by omega))))), decide_eq_false (fun z => q2 z.2.1)]; rfl
    · rw [if_neg (show ¬ nI (kK B L u) = 2 from fun z => q ((nI_eq (b := 2) (by omega) (by decide)).mp z)), decide_eq_false (fun z => q z.1)]; rfl
  · intro z
    obtain ⟨z1, z2, z3⟩ := of_decide_eq_true z
    obtain ⟨k0, kv⟩ := kV_lt hB hs' z1 z2
    rw [g4.2.2.2 z1]
    unfold fvI
    rw [if_neg (by omega), if_pos z2]
theorem takeStop_ok {N : Nat} (hN : 1000 ≤ N) {B : Nat → Nat} {L s : Nat} (hB : TB B L) (hs : s ≤ L) {w : Mm} (h : TX w B L) (h3 : w.1 51 3 = nI (kE B L s)) : ∃ w', fX5_takeStop N w = some (b01 (decide (kK B L (nxt B L s) = 3)), w') ∧ Fr [51] w w' ∧ TX w' B L ∧ AT w' B L (nxt B L s) := by
  obtain ⟨w', g1, g2, g3, g4⟩ := advance_ok (N := N) hN hB (kE_le hs) h h3
  have g4 : AT w' B L (nxt B L s) := g4
  have hk4 := kK_le B L (nxt B L s)
  unfold fX5_takeStop
  rw [g1, bS, g4.2.1]
  refine ⟨w', ?_, g2, g3, g4⟩
  by_cases q : kK B L (nxt B L s) = 3
  · rw [if_pos (show nI (kK B L (nxt B L s)) = 3 by rw [q]; rfl), decide_eq_true q]; rfl
  · rw [if_neg (show ¬ nI (kK B L (nxt B L s)) = 3 from fun z => q ((nI_eq (b := 3) (by omega) (by decide)).mp z)), decide_eq_false q]; rfl
/-- the reference's frame -/
def FM (w w' : Mm) : Prop := Fr [77, 90, 91] w w' ∧ ∀ i, i < 17 → w'.1 77 i = w.1 77 i
theorem FM.rf {w : Mm} : FM w w := ⟨Fr.rf, fun _ _ => rfl⟩
theorem FM.then {w w1 w2 : Mm} (h1 : FM w w1) (h2 : FM w1 w2) : FM w w2 := ⟨h1.1.then h2.1, fun i hi => by rw [h2.2 i hi, h1.2 i hi]⟩
theorem TM.fm {w w' : Mm} {B : Nat → Nat} {L : Nat} (h : TM w B L) (hf : FM w w') : TM w' B L := h.fr (hf.2 16 (by decide)) (hf.1.1 89 (by decide))
theorem behind_ok {N : Nat} (hN : 1000 ≤ N) {B : Nat → Nat} {L s : Nat} (hB : TB B L) (hs : s ≤ L) {w : Mm} (h : TM w B L) (ha : MT w B L s) : ∃ w', fX12_goBehind N w = some w' ∧ Fr [77] w w' ∧ (∀ i, i < 17 → w'.1 77 i = w.1 77 i) ∧ MT w' B L (nxt B L s) := by
  have hge := kE_ge B L s
  obtain ⟨w', g1, g2, g3, g4⟩ := look_ok (N := N) hN hB (kE_le hs) h
  refine ⟨w', ?_, g2, g3, g4⟩
  unfold fX12_goBehind
  rw [ha.1, ha.2.1, nI_add, show s + (kE B L s - s) = kE B L s by omega, g1, bS]
theorem takes_no {N : Nat} {B : Nat → Nat} {L s k lo n : Nat} {x1 x2 : Int32} (hB : TB B L) (hs : s ≤ L) (hl : lo ≤ 100) (hn : n ≤ 100) (e1 : x1 = nI lo) (e2 : x2 = nI n - 1) {w : Mm} (ha : MT w B L s) (hq : ¬ numB B L s lo n = true) : fX12_takes N w (nI k) x1 x2 = some (0, w) := by
  have hk4 := kK_le B L s
  subst e1 e2
  unfold fX12_takes
  by_cases q : kK B L s = 2 ∧ kE B L s - s ≤ 2
  · obtain ⟨k0, kv⟩ := kV_lt hB hs q.1 q.2
    rw [if_pos (ha.k2.mpr q), ha.2.2.2 q.1 q.2, if_pos]
    refine in_iff.mpr ((rng_x kv hl hn).mpr (fun z => hq ?_))
    exact decide_eq_true ⟨q.1, q.2, z⟩
  · rw [if_neg (fun z => q (ha.k2.mp z))]
theorem takes_yes {N : Nat} (hN : 1000 ≤ N) {B : Nat → Nat} {L s k lo n : Nat} {x1 x2 : Int32} (hB : TB B L) (hs : s ≤ L) (hk : k < 5) (hl : lo ≤ 100) (hn : n ≤ 100) (e1 : x1 = nI lo) (e2 : x2 = nI n - 1) {w : Mm} (h : TM w B L) (ha : MT w B L s) (hq : numB B L s lo n = true) : ∃ w', fX12_takes N w (nI k) x1 x2 = some (1, w') ∧ Fr [77, 91] w w' ∧ (∀ i, i < 17 → w'.1 77 i = w.1 77 i) ∧ MT w' B L (nxt B L s) ∧ w'.1 91 k = nI (vA B L s) ∧ ∀ j, j ≠ k → w'.1 91 j = w.1 91 j := by
  obtain ⟨z1, z2, z3⟩ := of_decide_eq_true hq
  obtain ⟨k0, kv⟩ := kV_lt hB hs z1 z2
  subst e1 e2
  have f1 : Fr [77, 91] w (sI w 91 k (nI (kV B s (kE B L s - s)))) := Fr.sI (by decide)
  have m1 : MT (sI w 91 k (nI (kV B s (kE B L s - s)))) B L s := by
    unfold MT
    rw [sI_o _ (show (77 : Nat) ≠ 91 by decide)]
    exact ha
  obtain ⟨w', g1, g2, g3, g4⟩ := behind_ok (N := N) hN hB hs (h.fr (by rw [sI_o _ (by decide)]) (sI_o _ (by decide))) m1
  refine ⟨w', ?_, f1.then (g2.up (by decide)), fun i hi => by rw [g3 i hi, sI_o _ (by decide)], g4, ?_, fun j hj => ?_⟩
  · unfold fX12_takes
    rw [if_pos (ha.k2.mpr ⟨z1, z2⟩), ha.2.2.2 z1 z2, if_neg (fun z => (rng_x kv hl hn).mp (in_iff.mp z) z3), wrA_n hk (by decide), bS, g1, bS]
  · rw [g2.1 91 (by decide), sI_1, if_pos ⟨rfl, rfl⟩]; rfl
  · rw [g2.1 91 (by decide), sI_1, if_neg (fun z => hj z.2)]

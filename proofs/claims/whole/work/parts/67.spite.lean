/-! ===== spite ===== -/
def laS (A i : Nat) : Nat := if i % 2 = 0 then 0 else A
def lbS (B i : Nat) : Nat := if i < 2 then 0 else B
theorem laS_lt {A i : Nat} (h : A < 2 ^ 7) : laS A i < 2 ^ 7 := by unfold laS; split <;> omega
theorem lbS_lt {B i : Nat} (h : B < 2 ^ 7) : lbS B i < 2 ^ 7 := by unfold lbS; split <;> omega
/-- what one of them gets -/
def gS_ (d : VD) (hour p x T S : Nat) : Int32 := nI (sAc d (ow d) S hour (nI x)) - nI p * nI (pcF 7 T) / 10
theorem rest_c1 : ∀ i, i < 4 → ((nI i &&& 1 = 0) ↔ i % 2 = 0) := by decide
theorem rest_c2 : ∀ i, i < 4 → ((nI i &&& 2 = 0) ↔ i < 2) := by decide
theorem rest_c3 : ∀ i, i < 4 → ((nI i &&& 1 = 1) ↔ ¬ i % 2 = 0) := by decide
theorem rest_c4 : ∀ i, i < 4 → ((nI i ≤ 1) ↔ i < 2) := by decide
theorem rest_x1 : ∀ i, i < 4 → i ^^^ 1 < 4 ∧ nI i ^^^ 1 = nI (i ^^^ 1) := by decide
theorem rest_x2 : ∀ i, i < 4 → i ^^^ 2 < 4 ∧ nI i ^^^ 2 = nI (i ^^^ 2) := by decide
theorem rest_step {N : Nat} (hN : 100 ≤ N) {d : VD} (hv : VOK d) {a b p A B O hour i n1 : Nat} {w : Mm} (h : LPc w d) (hs : SP w d hour) (hA : A < 2 ^ 7) (hB : B < 2 ^ 7) (hO : O < 2 ^ 7) (hi : i < 4) : fX3_resting_L36 N (n1 + 1) w (nI a) (nI b) (nI p) (nI A) (nI B) (nI O) (nI i) = fX3_resting_L36 N n1 (sI (sI w 66 i (gS_ d hour p a (laS A i) ((O ||| laS A i) ||| lbS B i))) 67 i (gS_ d hour p b (lbS B i) ((O ||| laS A i) ||| lbS B i))) (nI a) (nI b) (nI p) (nI A) (nI B) (nI O) (nI (i + 1)) := by
  have hla := laS_lt (i := i) hA
  have hlb := lbS_lt (i := i) hB
  have hO1 : O ||| laS A i < 2 ^ 7 := Nat.or_lt_two_pow hO hla
  have hO2 : (O ||| laS A i) ||| lbS B i < 2 ^ 7 := Nat.or_lt_two_pow hO1 hlb
  have ho : ∀ k, k < nn d → w.1 5 k = nI (ow d k) ∧ ow d k < 4 := fun k hk => ⟨(h.2.2.2 k hk).2.2.2.1, (hv.2.2.2 k hk).2.2.2.2.1⟩
  have f1 : ∀ v, Fr [66] w (sI w 66 i v) := fun v => Fr.sI (by decide)
  have s1 : ∀ v, SP (sI w 66 i v) d hour := fun v c j hc hj => by rw [(f1 v).1 61 (by decide)]; exact hs c j hc hj
  have ho1 : ∀ v, ∀ k, k < nn d → (sI w 66 i v).1 5 k = nI (ow d k) ∧ ow d k < 4 := fun v k hk => by rw [(f1 v).1 5 (by decide)]; exact ho k hk
  have body : ∀ k36, fX3_resting_L70 N k36 w (nI a) (nI b) (nI p) (nI A) (nI B) (nI O) (nI i) (nI (laS A i)) (nI (lbS B i)) = k36 (sI (sI w 66 i (gS_ d hour p a (laS A i) ((O ||| laS A i) ||| lbS B i))) 67 i (gS_ d hour p b (lbS B i) ((O ||| laS A i) ||| lbS B i))) (nI a) (nI b) (nI p) (nI A) (nI B) (nI O) (nI (i + 1)) := fun k36 => by
    unfold fX3_resting_L70
    rw [nI_or (a := O) (by omega) (by omega), nI_or (a := O ||| laS A i) (by omega) (by omega), acresOf_ok hN h hv hs (by omega) ho, bS, bitCount_n _ (by omega), wrA_n (by omega) (by decide), bS, acresOf_ok hN (h.fr (f1 _) (by decide)) hv (s1 _) (by omega) (ho1 _), bS, bitCount_n _ (by omega), wrA_n (by omega) (by decide), bS, nI_1]
    rfl
  have l55 : ∀ k36, fX3_resting_L55 N k36 w (nI a) (nI b) (nI p) (nI A) (nI B) (nI O) (nI i) (nI (laS A i)) = fX3_resting_L70 N k36 w (nI a) (nI b) (nI p) (nI A) (nI B) (nI O) (nI i) (nI (laS A i)) (nI (lbS B i)) := fun k36 => by
    unfold fX3_resting_L55
    by_cases hq : i < 2
    · rw [if_pos ((rest_c2 i hi).mpr hq), show lbS B i = 0 from if_pos hq]; rfl
    · rw [if_neg (fun z => hq ((rest_c2 i hi).mp z)), show lbS B i = B from if_neg hq]
  rw [fX3_resting_L36, if_neg (show ¬ (4 : Int32) ≤ nI i from nI_ge (b := 4) hi (by decide)), ← body (fX3_resting_L36 N n1), ← l55]
  by_cases hq : i % 2 = 0
  · rw [if_pos ((rest_c1 i hi).mpr hq), show laS A i = 0 from if_pos hq]; rfl
  · rw [if_neg (fun z => hq ((rest_c1 i hi).mp z)), show laS A i = A from if_neg hq]
theorem rest_lay {N : Nat} (hN : 100 ≤ N) {d : VD} (hv : VOK d) {a b p A B O hour : Nat} (hA : A < 2 ^ 7) (hB : B < 2 ^ 7) (hO : O < 2 ^ 7) : ∀ (r n0 i : Nat) (w : Mm), i + r = 4 → r < n0 → LPc w d → SP w d hour → (∀ j, j < i → w.1 66 j = gS_ d hour p a (laS A j) ((O ||| laS A j) ||| lbS B j) ∧ w.1 67 j = gS_ d hour p b (lbS B j) ((O ||| laS A j) ||| lbS B j)) → ∃ w', fX3_resting_L36 N n0 w (nI a) (nI b) (nI p) (nI A) (nI B) (nI O) (nI i) = fX3_resting_L158 N N w' 0 0 ∧ Fr [66, 67] w w' ∧ ∀ j, j < 4 → w'.1 66 j = gS_ d hour p a (laS A j) ((O ||| laS A j) ||| lbS B j) ∧ w'.1 67 j = gS_ d hour p b (lbS B j) ((O ||| laS A j) ||| lbS B j) := by
  intro r
  induction r with
  | zero =>
    intro n0 i w hi hr h hs hj
    obtain ⟨n1, rfl⟩ : ∃ n1, n0 = n1 + 1 := ⟨n0 - 1, by omega⟩
    refine ⟨w, ?_, Fr.rf, fun j hj4 => hj j (by omega)⟩
    rw [fX3_resting_L36, if_pos (show (4 : Int32) ≤ nI i from nI_le (a := 4) (by omega) (by omega))]
  | succ r ih =>
    intro n0 i w hi hr h hs hj
    obtain ⟨n1, rfl⟩ : ∃ n1, n0 = n1 + 1 := ⟨n0 - 1, by omega⟩
    rw [rest_step hN hv h hs hA hB hO (by omega)]
    have f2 : ∀ v v2, Fr [66, 67] w (sI (sI w 66 i v) 67 i v2) := fun v v2 => (Fr.sI (L := [66, 67]) (by decide)).then (Fr.sI (by decide))
    obtain ⟨w', g1, g2, g3⟩ := ih n1 (i + 1) _ (by omega) (by omega) (h.fr (f2 (gS_ d hour p a (laS A i) ((O ||| laS A i) ||| lbS B i)) (gS_ d hour p b (lbS B i) ((O ||| laS A i) ||| lbS B i))) (by decide)) (fun c j hc hj => by rw [(f2 _ _).1 61 (by decide)]; exact hs c j hc hj) (fun j hj2 => by
      rw [sI_1, if_neg (by omega), sI_1, sI_1, sI_1]
      by_cases e : j = i
      · rw [if_pos ⟨rfl, e⟩, if_pos ⟨rfl, e⟩, e]; exact ⟨rfl, rfl⟩
      · rw [if_neg (by omega), if_neg (by omega), if_neg (by omega)]; exact hj j (by omega))
    exact ⟨w', g1, (f2 _ _).then g2, g3⟩
def sRest (g1 g2 : Nat → Int32) : Nat → Int32
  | 0 => 0
  | i + 1 => if g1 i < g1 (i ^^^ 1) then sRest g1 g2 i else if g2 i < g2 (i ^^^ 2) then sRest g1 g2 i else sRest g1 g2 i ||| (1 : Int32) <<< (nI i &&& 31)
theorem rest_n {N : Nat} {w : Mm} {g1 g2 : Nat → Int32} (h : ∀ j, j < 4 → w.1 66 j = g1 j ∧ w.1 67 j = g2 j) : ∀ (r n0 i : Nat), i + r = 4 → r < n0 → fX3_resting_L158 N n0 w (sRest g1 g2 i) (nI i) = some (sRest g1 g2 4, w) := by
  intro r
  induction r with
  | zero =>
    intro n0 i hi hr
    obtain ⟨n1, rfl⟩ : ∃ n1, n0 = n1 + 1 := ⟨n0 - 1, by omega⟩
    rw [fX3_resting_L158, if_pos (show (4 : Int32) ≤ nI i from nI_le (a := 4) (by omega) (by omega)), show i = 4 by omega]
  | succ r ih =>
    intro n0 i hi hr
    obtain ⟨n1, rfl⟩ : ∃ n1, n0 = n1 + 1 := ⟨n0 - 1, by omega⟩
    have ih' := ih n1 (i + 1) (by omega) (by omega)
    obtain ⟨x1, e1⟩ := rest_x1 i (by omega)
    obtain ⟨x2, e2⟩ := rest_x2 i (by omega)
    rw [sRest] at ih'
    rw [fX3_resting_L158, if_neg (show ¬ (4 : Int32) ≤ nI i from nI_ge (b := 4) (by omega) (by decide)), e1, e2, rdA_n (by omega) (by decide), bS, rdA_n x1 (by decide), bS, rdA_n (by omega) (by decide), bS, rdA_n x2 (by decide), bS, (h i (by omega)).1, (h i (by omega)).2, (h _ x1).1, (h _ x2).2, nI_1]
    by_cases q1 : g1 i < g1 (i ^^^ 1)
    · rw [if_pos q1]; rw [if_pos q1] at ih'; exact ih'
    · rw [if_neg q1]; rw [if_neg q1] at ih'
      by_cases q2 : g2 i < g2 (i ^^^ 2)
      · rw [if_pos q2]; rw [if_pos q2] at ih'; exact ih'
      · rw [if_neg q2]; rw [if_neg q2] at ih'; exact ih'
theorem mrest_n {N : Nat} {w : Mm} {g1 g2 : Nat → Int32} (h : ∀ j, j < 4 → w.1 85 j = g1 j ∧ w.1 86 j = g2 j) : ∀ (r n0 i : Nat), i + r = 4 → r < n0 → fX12_spite_L61 N n0 w (sRest g1 g2 i) (nI i) = some (sRest g1 g2 4, w) := by
  intro r
  induction r with
  | zero =>
    intro n0 i hi hr
    obtain ⟨n1, rfl⟩ : ∃ n1, n0 = n1 + 1 := ⟨n0 - 1, by omega⟩
    rw [fX12_spite_L61, if_pos (show (4 : Int32) ≤ nI i from nI_le (a := 4) (by omega) (by omega)), show i = 4 by omega]
  | succ r ih =>
    intro n0 i hi hr
    obtain ⟨n1, rfl⟩ : ∃ n1, n0 = n1 + 1 := ⟨n0 - 1, by omega⟩
    have ih' := ih n1 (i + 1) (by omega) (by omega)
    obtain ⟨x1, e1⟩ := rest_x1 i (by omega)
    obtain ⟨x2, e2⟩ := rest_x2 i (by omega)
    have l0 : ∀ k61, fX12_spite_L109 N k61 w (sRest g1 g2 i) (nI i) = k61 w (sRest g1 g2 i) (nI (i + 1)) := fun k61 => by
      unfold fX12_spite_L109 fX12_spite_L110
      rw [if_pos rfl, nI_1, Int32.or_zero]
    have l1 : ∀ k61, fX12_spite_L110 N k61 w (sRest g1 g2 i) (nI i) 1 = k61 w (sRest g1 g2 i ||| (1 : Int32) <<< (nI i &&& 31)) (nI (i + 1)) := fun k61 => by
      unfold fX12_spite_L110
      rw [if_neg (by decide), nI_1]
    rw [sRest] at ih'
    rw [fX12_spite_L61, if_neg (show ¬ (4 : Int32) ≤ nI i from nI_ge (b := 4) (by omega) (by decide)), e1, e2, rdA_n (by omega) (by decide), bS, rdA_n x1 (by decide), bS, rdA_n (by omega) (by decide), bS, rdA_n x2 (by decide), bS, (h i (by omega)).1, (h i (by omega)).2, (h _ x1).1, (h _ x2).2, l0, l1]
    by_cases q1 : g1 i < g1 (i ^^^ 1)
    · rw [if_pos q1]; rw [if_pos q1] at ih'; exact ih'
    · rw [if_neg q1]; rw [if_neg q1] at ih'
      by_cases q2 : g2 i < g2 (i ^^^ 2)
      · rw [if_pos q2]; rw [if_pos q2] at ih'; exact ih'
      · rw [if_neg q2]; rw [if_neg q2] at ih'; exact ih'
theorem NP.fr {L : List Nat} {w w' : Mm} {d : VD} (h : NP w d) (hf : Fr L w w') (hL : 78 ∉ L) : NP w' d := by
  unfold NP
  rw [hf.1 78 hL]
  exact h
theorem mown_n {N : Nat} {w : Mm} {d : VD} (h : NP w d) (hv : VOK d) {a : Nat} (ha : a < 4) : ∀ (r n0 i : Nat), i + r = nn d → r < n0 → fX12_ownOf_L4 N w n0 (nI a) (nI (sRe (fun j => decide (ow d j = a)) i)) (nI i) = some (nI (sRe (fun j => decide (ow d j = a)) (nn d))) := by
  intro r
  have hn := hv.2.1
  induction r with
  | zero =>
    intro n0 i hi hr
    obtain ⟨n1, rfl⟩ : ∃ n1, n0 = n1 + 1 := ⟨n0 - 1, by omega⟩
    unfold fX12_ownOf_L4 fX12_candles
    rw [h.1, if_pos (nI_le (by omega) (by omega)), show i = nn d by omega]
  | succ r ih =>
    intro n0 i hi hr
    obtain ⟨n1, rfl⟩ : ∃ n1, n0 = n1 + 1 := ⟨n0 - 1, by omega⟩
    have ih' := ih n1 (i + 1) (by omega) (by omega)
    have hb : sRe (fun j => decide (ow d j = a)) i < 2 ^ 7 := Nat.lt_of_lt_of_le (sRe_lt _ _) (Nat.pow_le_pow_right (by decide) (by omega))
    have h2i : (2 : Nat) ^ i < 2 ^ 7 := Nat.pow_lt_pow_right (by decide) (by omega)
    have ho := (hv.2.2.2 i (by omega)).2.2.2.2.1
    have g3 : fX12_get w (nI i) 3 = some (nI (ow d i)) := (mget_n (j := 3) (by omega) (by omega)).trans (by rw [(h.2.2.2 i (by omega)).2.2.2.1])
    rw [show sRe (fun j => decide (ow d j = a)) (i + 1) = if decide (ow d i = a) = true then sRe (fun j => decide (ow d j = a)) i ||| 2 ^ i else sRe (fun j => decide (ow d j = a)) i from rfl] at ih'
    unfold fX12_ownOf_L4 fX12_candles
    rw [h.1, if_neg (nI_ge (by omega) (by omega)), g3, bS, nI_1]
    by_cases hq : ow d i = a
    · rw [if_pos (by rw [hq]), nI_shl (by omega), nI_or (by omega) (by omega)]
      rw [if_pos (decide_eq_true hq)] at ih'
      exact ih'
    · rw [if_neg (fun z => hq ((nI_eq (by omega) (by omega)).mp z)), Int32.or_zero]
      rw [if_neg (by simpa using hq)] at ih'
      exact ih'
theorem mown_ok {N : Nat} (hN : 100 ≤ N) {w : Mm} {d : VD} (h : NP w d) (hv : VOK d) {a : Nat} (ha : a < 4) : fX12_ownOf N w (nI a) = some (nI (sRe (fun j => decide (ow d j = a)) (nn d))) :=
  mown_n h hv ha (nn d) N 0 (Nat.zero_add _) (by have := hv.2.1; omega)
theorem mrest_lay {N : Nat} (hN : 100 ≤ N) {d : VD} (hv : VOK d) {a b p A B O hour : Nat} (ha : a < 4) (hb : b < 4) (hh : hour < 12) (eA : A = sRe (fun j => decide (ow d j = a)) (nn d)) (eB : B = sRe (fun j => decide (ow d j = b)) (nn d)) (hA : A < 2 ^ 7) (hB : B < 2 ^ 7) (hO : O < 2 ^ 7) : ∀ (r n0 i S : Nat) (w : Mm), i + r = 4 → r < n0 → HP w d S (ow d) → NP w d → (∀ j, j < i → w.1 85 j = gS_ d hour p a (laS A j) ((O ||| laS A j) ||| lbS B j) ∧ w.1 86 j = gS_ d hour p b (lbS B j) ((O ||| laS A j) ||| lbS B j)) → ∃ w', fX12_layGets_L29 N n0 w (nI a) (nI b) (nI hour) (nI p) (nI O) (nI i) = some w' ∧ Fr [77, 85, 86] w w' ∧ (∀ j, j < 4 → w'.1 85 j = gS_ d hour p a (laS A j) ((O ||| laS A j) ||| lbS B j) ∧ w'.1 86 j = gS_ d hour p b (lbS B j) ((O ||| laS A j) ||| lbS B j)) ∧ w'.1 77 16 = w.1 77 16 := by
  intro r
  induction r with
  | zero =>
    intro n0 i S w hi hr h hs hj
    obtain ⟨n1, rfl⟩ : ∃ n1, n0 = n1 + 1 := ⟨n0 - 1, by omega⟩
    refine ⟨w, ?_, Fr.rf, fun j hj4 => hj j (by omega), rfl⟩
    rw [fX12_layGets_L29, if_pos (show (4 : Int32) ≤ nI i from nI_le (a := 4) (by omega) (by omega))]
  | succ r ih =>
    intro n0 i S w hi hr h hs hj
    obtain ⟨n1, rfl⟩ : ∃ n1, n0 = n1 + 1 := ⟨n0 - 1, by omega⟩
    have hi4 : i < 4 := by omega
    have hla := laS_lt (i := i) hA
    have hlb := lbS_lt (i := i) hB
    have hO1 : O ||| laS A i < 2 ^ 7 := Nat.or_lt_two_pow hO hla
    have hO2 : (O ||| laS A i) ||| lbS B i < 2 ^ 7 := Nat.or_lt_two_pow hO1 hlb
    have h1 : HP (sI w 77 6 (nI ((O ||| laS A i) ||| lbS B i))) d ((O ||| laS A i) ||| lbS B i) (ow d) := h.set
    have h2 : ∀ v, HP (sI (sI w 77 6 (nI ((O ||| laS A i) ||| lbS B i))) 85 i v) d ((O ||| laS A i) ||| lbS B i) (ow d) := fun v => h1.fr (Fr.sI (L := [85]) (by decide)) (by decide)
    have h3 : ∀ v v2, HP (sI (sI (sI w 77 6 (nI ((O ||| laS A i) ||| lbS B i))) 85 i v) 86 i v2) d ((O ||| laS A i) ||| lbS B i) (ow d) := fun v v2 => (h2 v).fr (Fr.sI (L := [86]) (by decide)) (by decide)
    have f3 : ∀ v v2, Fr [77, 85, 86] w (sI (sI (sI w 77 6 (nI ((O ||| laS A i) ||| lbS B i))) 85 i v) 86 i v2) := fun v v2 => ((Fr.sI (L := [77, 85, 86]) (by decide)).then (Fr.sI (by decide))).then (Fr.sI (by decide))
    have body : ∀ k29, fX12_layGets_L69 N k29 w (nI a) (nI b) (nI hour) (nI p) (nI O) (nI i) (nI (laS A i)) (nI (lbS B i)) = k29 (sI (sI (sI w 77 6 (nI ((O ||| laS A i) ||| lbS B i))) 85 i (gS_ d hour p a (laS A i) ((O ||| laS A i) ||| lbS B i))) 86 i (gS_ d hour p b (lbS B i) ((O ||| laS A i) ||| lbS B i))) (nI a) (nI b) (nI hour) (nI p) (nI O) (nI (i + 1)) := fun k29 => by
      unfold fX12_layGets_L69
      rw [nI_or (a := O) (by omega) (by omega), nI_or (a := O ||| laS A i) (by omega) (by omega), bS, macres_ok hN h1 hv (by omega) hh, bS, bits_ok hN (by omega), bS, wrA_n (by omega) (by decide), bS, macres_ok hN (h2 _) hv (by omega) hh, bS, bits_ok hN (by omega), bS, wrA_n (by omega) (by decide), bS, nI_1]
      rfl
    have l52 : ∀ k29, fX12_layGets_L52 N k29 w (nI a) (nI b) (nI hour) (nI p) (nI O) (nI i) (nI (laS A i)) = fX12_layGets_L69 N k29 w (nI a) (nI b) (nI hour) (nI p) (nI O) (nI i) (nI (laS A i)) (nI (lbS B i)) := fun k29 => by
      unfold fX12_layGets_L52
      by_cases hq : i < 2
      · rw [if_pos ((rest_c4 i hi4).mpr hq), show lbS B i = 0 from if_pos hq]; rfl
      · rw [if_neg (fun z => hq ((rest_c4 i hi4).mp z)), show lbS B i = B from if_neg hq, mown_ok hN hs hv hb, bS, ← eB]
    have l29 : fX12_layGets_L29 N (n1 + 1) w (nI a) (nI b) (nI hour) (nI p) (nI O) (nI i) = fX12_layGets_L52 N (fX12_layGets_L29 N n1) w (nI a) (nI b) (nI hour) (nI p) (nI O) (nI i) (nI (laS A i)) := by
      rw [fX12_layGets_L29, if_neg (show ¬ (4 : Int32) ≤ nI i from nI_ge (b := 4) (by omega) (by decide))]
      by_cases hq : i % 2 = 0
      · rw [if_neg (fun z => (rest_c3 i hi4).mp z hq), show laS A i = 0 from if_pos hq]; rfl
      · rw [if_pos ((rest_c3 i hi4).mpr hq), show laS A i = A from if_neg hq, mown_ok hN hs hv ha, bS, ← eA]
    rw [l29, l52, body]
    obtain ⟨w', g1, g2, g3, g4⟩ := ih n1 (i + 1) _ _ (by omega) (by omega) (h3 (gS_ d hour p a (laS A i) ((O ||| laS A i) ||| lbS B i)) (gS_ d hour p b (lbS B i) ((O ||| laS A i) ||| lbS B i))) (hs.fr (f3 _ _) (by decide)) (fun j hj2 => by
      rw [sI_o _ (show (85 : Nat) ≠ 86 by decide), sI_1]
      by_cases e : j = i
      · rw [if_pos ⟨rfl, e⟩, sI_1, if_pos ⟨rfl, e⟩, e]; exact ⟨rfl, rfl⟩
      · rw [if_neg (by omega), sI_1, if_neg (by omega), sI_1, if_neg (by omega), sI_o _ (show (86 : Nat) ≠ 85 by decide), sI_o _ (show (86 : Nat) ≠ 77 by decide)]; exact hj j (by omega))
    refine ⟨w', g1, (f3 _ _).then g2, g3, ?_⟩
    rw [g4, sI_o _ (by decide), sI_o _ (by decide), sI_1, if_neg (by decide)]
theorem op_spite {N : Nat} (hN : 1000 ≤ N) {w : Mm} (h : INV w) (x y z v : Int32) : OKi (fX11_spite N w x y z v) (fun w => fX12_spite N w x y z v) := by
  unfold fX11_spite fX12_spite fX11_isOwner fX12_isOwner fX11_isHour fX12_isHour fX11_spite_L37 fX12_spite_L39
  rcases rg_0_3 x with ⟨h1, h2⟩ | ⟨a, -, ha, rfl, h1, h2⟩
  · rw [if_pos h1]; exact ok_bad' (-2) h (fun w' hw' => by rw [if_pos h2])
  rw [if_neg h1]
  rcases rg_0_3 y with ⟨h3, h4⟩ | ⟨b, -, hb, rfl, h3, h4⟩
  · rw [if_pos h3]; exact ok_bad' (-2) h (fun w' hw' => by rw [if_neg h2, if_pos h4])
  rw [if_neg h3]
  by_cases hab : nI a = nI b
  · rw [if_pos hab]; exact ok_bad' (-2) h (fun w' hw' => by rw [if_neg h2, if_neg h4, if_pos hab])
  rw [if_neg hab]
  rcases rg_0_11 z with ⟨h5, h6⟩ | ⟨t, -, ht, rfl, h5, h6⟩
  · rw [if_pos h5]; exact ok_bad' (-2) h (fun w' hw' => by rw [if_neg h2, if_neg h4, if_neg hab, if_pos h6])
  rw [if_neg h5]
  rcases rg_0_99 v with ⟨h7, h8⟩ | ⟨p, -, hp, rfl, h7, h8⟩
  · rw [if_pos h7]; exact ok_bad' (-2) h (fun w' hw' => by rw [if_neg h2, if_neg h4, if_neg hab, if_neg h6, if_pos h8])
  rw [if_neg h7]
  obtain ⟨S, s1, s2, s3⟩ := h
  have hv : VOK (vd (gV S)) := s1.1.1
  have hS := li31 hv
  have hn := hv.2.1
  have hA : sRe (fun j => decide (ow (vd (gV S)) j = a)) (nn (vd (gV S))) < 2 ^ 7 := Nat.lt_of_lt_of_le (sRe_lt _ _) (Nat.pow_le_pow_right (by decide) hn)
  have hB : sRe (fun j => decide (ow (vd (gV S)) j = b)) (nn (vd (gV S))) < 2 ^ 7 := Nat.lt_of_lt_of_le (sRe_lt _ _) (Nat.pow_le_pow_right (by decide) hn)
  generalize eA : sRe (fun j => decide (ow (vd (gV S)) j = a)) (nn (vd (gV S))) = A at hA
  generalize eB : sRe (fun j => decide (ow (vd (gV S)) j = b)) (nn (vd (gV S))) = B at hB
  have hl1 : ldf (li (vd (gV S))) A < 2 ^ 7 := ldf_lt hS
  have hl2 : ldf (ldf (li (vd (gV S))) A) B < 2 ^ 7 := ldf_lt hl1
  obtain ⟨w1, e1, e2, e3⟩ := layAll_ok (N := N) (by omega) hv s2.1.lp (hour := t) (by omega)
  have l1 : LPc w1 (vd (gV S)) := s2.1.lp.fr e2 (by decide)
  obtain ⟨w2, f1, f2, f3⟩ := rest_lay (N := N) (by omega) hv (a := a) (b := b) (p := p) (hour := t) hA hB hl2 4 N 0 w1 rfl (by omega) l1 e3 (fun k hk => absurd hk (by omega))
  have e12 : Fr [61, 65, 66, 67] w w2 := (e2.up (by decide)).then (f2.up (by decide))
  obtain ⟨w3, g1, g2, g3, g4⟩ := layHand_ok (N := N) (by omega) hv (s3.np e12 (by decide))
  obtain ⟨w4, q1, q2, q3, q4⟩ := mrest_lay (N := N) (by omega) hv (a := a) (b := b) (p := p) (hour := t) (by omega) (by omega) (by omega) eA.symm eB.symm hA hB hl2 4 N 0 _ w3 rfl (by omega) g3 ((s3.np e12 (by decide)).fr g2 (by decide)) (fun k hk => absurd hk (by omega))
  have c1 := rest_n (N := N) f3 4 N 0 rfl (by omega)
  have c2 := mrest_n (N := N) q3 4 N 0 rfl (by omega)
  refine ⟨?_, w2, w4, ?_, ?_, INV.q s1 s2 s3 e12 (by decide) ((g2.up (L2 := [77, 82, 83, 85, 86]) (by decide)).then (q2.up (by decide))) (by decide) (by rw [q4]; exact g4 16 (by decide))⟩
  rotate_left
  · rw [e1, bS]
    unfold fX3_resting fX3_resting_L33
    rw [candlesOf_ok (by omega) l1 hv (by omega), bS, candlesOf_ok (by omega) l1 hv (by omega), bS, eA, eB, l1.2.2.1, nI_ldf (by omega) (by omega), nI_ldf (by omega) (by omega)]
    rw [show (0 : Int32) = nI 0 from rfl, f1]
    exact congrArg (fun q => ob2 q fun a7 m8 => some (a7, m8)) c1
  · dsimp only
    rw [if_neg h2, if_neg h4, if_neg hab, if_neg h6, if_neg h8]
    unfold fX12_layGets fX12_layGets_L26
    rw [g1, bS, mown_ok (by omega) ((s3.np e12 (by decide)).fr g2 (by decide)) hv (by omega), bS, mown_ok (by omega) ((s3.np e12 (by decide)).fr g2 (by decide)) hv (by omega), bS, eA, eB, g3.2.2.1, nI_ldf (by omega) (by omega), nI_ldf (by omega) (by omega)]
    rw [show (0 : Int32) = nI 0 from rfl, q1, bS]
    exact c2

/-! ===== where to measure next ===== -/
def cTv (f : Nat → Bool) (t : Nat → Nat) (v s : Nat) : Nat := sCt (fun S => f S && decide (t S = v)) s
theorem cTv_s (f : Nat → Bool) (t : Nat → Nat) (v s : Nat) : cTv f t v (s + 1) = if (f s && decide (t s = v)) = true then cTv f t v s + 1 else cTv f t v s := rfl
theorem cTv_le (f : Nat → Bool) (t : Nat → Nat) (v s : Nat) : cTv f t v s ≤ s := sCt_le _ s
theorem cTv_no {f : Nat → Bool} {t : Nat → Nat} {v s : Nat} (h : ¬ (f s = true ∧ t s = v)) : cTv f t v (s + 1) = cTv f t v s := by
  rw [cTv_s, if_neg]
  intro z
  rw [Bool.and_eq_true, decide_eq_true_eq] at z
  exact h z
theorem cTv_yes {f : Nat → Bool} {t : Nat → Nat} {s : Nat} (h : f s = true) : cTv f t (t s) (s + 1) = cTv f t (t s) s + 1 := by
  rw [cTv_s, if_pos]
  rw [Bool.and_eq_true, decide_eq_true_eq]
  exact ⟨h, rfl⟩
def sMo (f : Nat → Bool) (t : Nat → Nat) : Nat → Nat
  | 0 => 0
  | s + 1 => if f s = true then max (sMo f t s) (cTv f t (t s) (s + 1)) else sMo f t s
theorem sMo_le (f : Nat → Bool) (t : Nat → Nat) : ∀ s, sMo f t s ≤ s := by
  intro s
  induction s with
  | zero => exact Nat.le_refl _
  | succ s ih =>
    have := cTv_le f t (t s) (s + 1)
    rw [sMo]
    split <;> omega
theorem mostAl_n {N : Nat} {d : VD} (hv : VOK d) {f : Nat → Bool} {t : Nat → Nat} (ht : ∀ S, t S ≤ 23) : ∀ (r n0 s : Nat) (w : Mm), s + r = 2 ^ nn d → r < n0 → LPc w d → (∀ S, S < 2 ^ nn d → w.1 71 S = nI (t S) ∧ w.1 70 S = b01 (f S)) → (∀ v, v < 24 → w.1 72 v = nI (cTv f t v s)) → ∃ w', fX6_mostAlike_L30 N n0 w (nI (sMo f t s)) (nI s) = some (nI (sMo f t (2 ^ nn d)), w') ∧ Fr [72] w w' := by
  intro r
  have h7 := p2le hv
  induction r with
  | zero =>
    intro n0 s w hi hr h ha hb
    obtain ⟨n1, rfl⟩ : ∃ n1, n0 = n1 + 1 := ⟨n0 - 1, by omega⟩
    refine ⟨w, ?_, Fr.rf⟩
    rw [fX6_mostAlike_L30, hms_n h hv, if_pos (nI_le (by omega) (by omega)), show s = 2 ^ nn d by omega]
  | succ r ih =>
    intro n0 s w hi hr h ha hb
    obtain ⟨n1, rfl⟩ : ∃ n1, n0 = n1 + 1 := ⟨n0 - 1, by omega⟩
    have hts := ht s
    have hle := cTv_le f t (t s) s
    have hle1 := cTv_le f t (t s) (s + 1)
    have hml := sMo_le f t s
    obtain ⟨a1, a2⟩ := ha s (by omega)
    rw [fX6_mostAlike_L30, hms_n h hv, if_neg (nI_ge (by omega) (by omega)), rdA_n (by omega) (by decide), bS, rdA_n (by omega) (by decide), bS, a1, a2, nI_1]
    by_cases q1 : f s = true
    · have f1 : Fr [72] w (sI w 72 (t s) (nI (cTv f t (t s) (s + 1)))) := Fr.sI (by decide)
      obtain ⟨w', g1, g2⟩ := ih n1 (s + 1) (sI w 72 (t s) (nI (cTv f t (t s) (s + 1)))) (by omega) (by omega) (h.fr f1 (by decide)) (fun S hS => by rw [f1.1 71 (by decide), f1.1 70 (by decide)]; exact ha S hS) (fun v hv24 => by
        rw [sI_1]
        by_cases e : v = t s
        · rw [if_pos ⟨rfl, e⟩, e]
        · rw [if_neg (by omega), cTv_no (fun z => e z.2.symm)]; exact hb v hv24)
      refine ⟨w', ?_, f1.then g2⟩
      rw [sMo, if_pos q1] at g1
      rw [if_neg (fun z => by rw [b01_z, q1] at z; exact absurd z (by decide)), if_neg (nI_pos (by omega)), if_neg (show ¬ (23 : Int32) < nI (t s) from nI_nlt (a := 23) (by omega) (by decide)), rdA_n (by omega) (by decide), bS, hb _ (by omega), nI_1, ← cTv_yes q1, wrA_n (by omega) (by decide), bS, rdA_n (by omega) (by decide), bS, sI_1, if_pos ⟨rfl, rfl⟩, mxI_n (by omega) (by omega)]
      exact g1
    · have q1' : f s = false := by simpa using q1
      obtain ⟨w', g1, g2⟩ := ih n1 (s + 1) w (by omega) (by omega) h ha (fun v hv24 => by rw [cTv_no (fun z => q1 z.1)]; exact hb v hv24)
      rw [sMo, if_neg q1] at g1
      rw [if_pos (b01_z.mpr q1')]
      exact ⟨w', g1, g2⟩
theorem mostAl_0 {N : Nat} {d : VD} (hv : VOK d) {f : Nat → Bool} {t : Nat → Nat} (hN : 1000 ≤ N) (ht : ∀ S, t S ≤ 23) : ∀ (r n0 i : Nat) (w : Mm), i + r = 24 → r < n0 → LPc w d → (∀ S, S < 2 ^ nn d → w.1 71 S = nI (t S) ∧ w.1 70 S = b01 (f S)) → (∀ v, v < i → w.1 72 v = 0) → ∃ w', fX6_mostAlike_L7 N n0 w (nI i) = some (nI (sMo f t (2 ^ nn d)), w') ∧ Fr [72] w w' := by
  intro r
  have h7 := p2le hv
  induction r with
  | zero =>
    intro n0 i w hi hr h ha hb
    obtain ⟨n1, rfl⟩ : ∃ n1, n0 = n1 + 1 := ⟨n0 - 1, by omega⟩
    obtain ⟨w', g1, g2⟩ := mostAl_n (N := N) hv (f := f) (t := t) ht (2 ^ nn d) N 0 w (Nat.zero_add _) (by omega) h ha (fun v hv24 => (hb v (by omega)).trans rfl)
    refine ⟨w', ?_, g2⟩
    rw [fX6_mostAlike_L7, if_pos (show (23 : Int32) < nI i from nI_lt (a := 23) (by omega) (by omega))]
    exact g1
  | succ r ih =>
    intro n0 i w hi hr h ha hb
    obtain ⟨n1, rfl⟩ : ∃ n1, n0 = n1 + 1 := ⟨n0 - 1, by omega⟩
    have f1 : Fr [72] w (sI w 72 i 0) := Fr.sI (by decide)
    obtain ⟨w', g1, g2⟩ := ih n1 (i + 1) (sI w 72 i 0) (by omega) (by omega) (h.fr f1 (by decide)) (fun S hS => by rw [f1.1 71 (by decide), f1.1 70 (by decide)]; exact ha S hS) (fun v hv24 => by
      rw [sI_1]
      by_cases e : v = i
      · rw [if_pos ⟨rfl, e⟩]
      · rw [if_neg (by omega)]; exact hb v (by omega))
    refine ⟨w', ?_, f1.then g2⟩
    rw [fX6_mostAlike_L7, if_neg (show ¬ (23 : Int32) < nI i from nI_nlt (a := 23) (by omega) (by decide)), wrA_n (by omega) (by decide), bS, nI_1]
    exact g1
theorem mx_hi {L : Nat → Nat} {S k : Nat} (h : S < 2 ^ k) : sMx (lv_ S L) (k + 1) = sMx (lv_ S L) k := by
  show max (sMx (lv_ S L) k) (lv_ S L k) = _
  rw [show lv_ S L k = 0 by unfold lv_; rw [bt_lt h (Nat.le_refl _)]; rfl, Nat.max_eq_left (Nat.zero_le _)]
theorem mx_lo {L : Nat → Nat} {S k : Nat} (h : S < 2 ^ k) : sMx (lv_ (2 ^ k + S) L) (k + 1) = max (sMx (lv_ S L) k) (L k) := by
  show max (sMx (lv_ (2 ^ k + S) L) k) (lv_ (2 ^ k + S) L k) = _
  have e1 : lv_ (2 ^ k + S) L k = L k := by
    unfold lv_
    rw [bt_tb, Nat.testBit_two_pow_add_eq, Nat.testBit_lt_two_pow h]
    rfl
  rw [e1, sMx_ext (L := lv_ (2 ^ k + S) L) (M := lv_ S L)]
  intro j hj
  unfold lv_
  rw [bt_tb, bt_tb, Nat.testBit_two_pow_add_gt hj]
theorem lay_in {N : Nat} {L : Nat → Nat} {k : Nat} (hk : k < 7) (hL : ∀ j, j ≤ k → L j ≤ 23) {x1 x2 : Int32} {k9 : Mm → Int32 → Int32 → Option Mm} : ∀ (r n0 s : Nat) (w : Mm), s + r = 2 * 2 ^ k → 2 ^ k ≤ s → r < n0 → (∀ S, S < s → w.1 71 S = nI (sMx (lv_ S L) (k + 1))) → ∃ w', fX6_layLight_L43 N k9 n0 w x1 x2 (nI (2 ^ k)) (nI (L k)) (nI s) = k9 w' x1 (x2 + 1) ∧ Fr [71] w w' ∧ ∀ S, S < 2 ^ (k + 1) → w'.1 71 S = nI (sMx (lv_ S L) (k + 1)) := by
  intro r
  have h7 : (2 : Nat) ^ k ≤ 2 ^ 6 := Nat.pow_le_pow_right (by decide) (by omega)
  have e2 : (2 : Int32) * nI (2 ^ k) = nI (2 * 2 ^ k) := by rw [show (2 : Int32) = nI 2 from rfl, pk_mul]
  have e3 : (2 : Nat) ^ (k + 1) = 2 * 2 ^ k := by rw [Nat.pow_succ]; omega
  induction r with
  | zero =>
    intro n0 s w hi h2 hr ha
    obtain ⟨n1, rfl⟩ : ∃ n1, n0 = n1 + 1 := ⟨n0 - 1, by omega⟩
    refine ⟨w, ?_, Fr.rf, fun S hS => ha S (by omega)⟩
    rw [fX6_layLight_L43, e2, if_pos (nI_le (by omega) (by omega))]
  | succ r ih =>
    intro n0 s w hi h2 hr ha
    obtain ⟨n1, rfl⟩ : ∃ n1, n0 = n1 + 1 := ⟨n0 - 1, by omega⟩
    have f1 : ∀ x, Fr [71] w (sI w 71 s x) := fun x => Fr.sI (by decide)
    have hlt : s - 2 ^ k < 2 ^ k := by omega
    have hs1 : sMx (lv_ s L) (k + 1) = max (sMx (lv_ (s - 2 ^ k) L) (k + 1)) (L k) := by
      rw [mx_hi hlt, ← mx_lo hlt, show 2 ^ k + (s - 2 ^ k) = s by omega]
    have hb1 : sMx (lv_ (s - 2 ^ k) L) (k + 1) ≤ 23 := sMx_bd (fun j hj => by
      unfold lv_
      split
      · exact hL j (by omega)
      · omega)
    have hb2 := hL k (Nat.le_refl _)
    obtain ⟨w', g1, g2, g3⟩ := ih n1 (s + 1) (sI w 71 s (nI (sMx (lv_ s L) (k + 1)))) (by omega) (by omega) (by omega) (fun S hS => by
      rw [sI_1]
      by_cases e : S = s
      · rw [if_pos ⟨rfl, e⟩, e]
      · rw [if_neg (by omega)]; exact ha S (by omega))
    refine ⟨w', ?_, (f1 _).then g2, g3⟩
    rw [hs1] at g1
    rw [fX6_layLight_L43, e2, if_neg (nI_ge (by omega) (by omega)), pk_sub h2, rdA_n (by omega) (by decide), bS, ha _ (by omega), mxI_n (by omega) (by omega), wrA_n (by omega) (by decide), bS, nI_1]
    exact g1
theorem layLight_n {N : Nat} (hN : 1000 ≤ N) {d : VD} (hv : VOK d) {hour c : Nat} (hc : c < 64) : ∀ (r n0 k : Nat) (w : Mm), k + r = nn d → r < n0 → LPc w d → SPc w d hour c → (∀ S, S < 2 ^ k → w.1 71 S = nI (sMx (lv_ S (fun j => sL d hour j c)) k)) → ∃ w', fX6_layLight_L9 N n0 w (nI c) (nI k) = some w' ∧ Fr [71] w w' ∧ ∀ S, S < 2 ^ nn d → w'.1 71 S = nI (sT d S hour c) := by
  intro r
  have hn := hv.2.1
  induction r with
  | zero =>
    intro n0 k w hi hr h hs ha
    obtain ⟨n1, rfl⟩ : ∃ n1, n0 = n1 + 1 := ⟨n0 - 1, by omega⟩
    have e : k = nn d := by omega
    subst e
    refine ⟨w, ?_, Fr.rf, ha⟩
    rw [fX6_layLight_L9, h.2.1, if_pos (nI_le (by omega) (by omega))]
  | succ r ih =>
    intro n0 k w hi hr h hs ha
    obtain ⟨n1, rfl⟩ : ∃ n1, n0 = n1 + 1 := ⟨n0 - 1, by omega⟩
    have h6 : (2 : Nat) ^ k ≤ 2 ^ 6 := Nat.pow_le_pow_right (by decide) (by omega)
    have e0 : nI c * 7 + nI k = nI (c * 7 + k) := by rw [show (7 : Int32) = nI 7 from rfl, pk_mul, nI_add]
    obtain ⟨w1, g1, g2, g3⟩ := lay_in (N := N) (L := fun j => sL d hour j c) (k := k) (by omega) (fun j hj => sIf_le hv (by omega)) (x1 := nI c) (x2 := nI k) (k9 := fX6_layLight_L9 N n1) (2 ^ k) N (2 ^ k) w (by omega) (Nat.le_refl _) (by omega) (fun S hS => by rw [mx_hi hS]; exact ha S hS)
    obtain ⟨w2, k1, k2, k3⟩ := ih n1 (k + 1) w1 (by omega) (by omega) (h.fr g2 (by decide)) (fun j hj => by rw [g2.1 61 (by decide)]; exact hs j hj) g3
    refine ⟨w2, ?_, g2.then k2, k3⟩
    rw [nI_1] at g1
    rw [fX6_layLight_L9, h.2.1, if_neg (nI_ge (by omega) (by omega)), e0, rdA_n (by omega) (by decide), bS, hs k (by omega), nI_shl (by omega)]
    exact g1.trans k1
theorem mostAlike_ok {N : Nat} (hN : 1000 ≤ N) {d : VD} (hv : VOK d) {hour c : Nat} {f : Nat → Bool} (hc : c < 64) {w : Mm} (h : LPc w d) (hs : SPc w d hour c) (hf : ∀ S, S < 2 ^ nn d → w.1 70 S = b01 (f S)) : ∃ w', fX6_mostAlike N w (nI c) = some (nI (sMo f (fun S => sT d S hour c) (2 ^ nn d)), w') ∧ Fr [71, 72] w w' := by
  have hn := hv.2.1
  have f0 : Fr [71] w (sI w 71 0 0) := Fr.sI (by decide)
  obtain ⟨w1, g1, g2, g3⟩ := layLight_n (N := N) hN hv (hour := hour) hc (nn d) N 0 (sI w 71 0 0) (Nat.zero_add _) (by omega) (h.fr f0 (by decide)) (fun j hj => by rw [f0.1 61 (by decide)]; exact hs j hj) (fun S hS => by
    have : (2 : Nat) ^ 0 = 1 := rfl
    rw [sI_1, if_pos ⟨rfl, by omega⟩]; rfl)
  have f1 := f0.then g2
  obtain ⟨w2, k1, k2⟩ := mostAl_0 (N := N) hv (f := f) (t := fun S => sT d S hour c) hN (fun S => sT_le hv S hour c) 24 N 0 w1 rfl (by omega) (h.fr f1 (by decide)) (fun S hS => ⟨g3 S hS, by rw [f1.1 70 (by decide)]; exact hf S hS⟩) (fun v hv0 => absurd hv0 (by omega))
  refine ⟨w2, ?_, (f1.up (by decide)).then (k2.up (by decide))⟩
  unfold fX6_mostAlike fX6_layLight
  rw [bS, show fX6_layLight_L9 N N (sI w 71 0 0) (nI c) (0 : Int32) = some w1 from g1, bS]
  exact k1
def sK (f : Nat → Nat) : Nat → Nat → Int32 → Int32 → Int32
  | 0, _, b, _ => b
  | r + 1, i, b, v => if v ≤ nI (f i) then sK f r (i + 1) b v else sK f r (i + 1) (nI i) (nI (f i))
theorem bestCell_n {N : Nat} (hN : 1000 ≤ N) {d : VD} (hv : VOK d) {hour ct : Nat} {f : Nat → Bool} (h0 : 0 < ct) (h1 : ct < 2 ^ 31) : ∀ (r n0 i : Nat) (b v : Int32) (w : Mm), i + r = 64 → r < n0 → LPc w d → SP w d hour → (∀ S, S < 2 ^ nn d → w.1 70 S = b01 (f S)) → w.1 68 4 = nI ct → ∃ w', fX6_bestCell_L8 N n0 w b v (nI i) = some (sK (fun c => sMo f (fun S => sT d S hour c) (2 ^ nn d)) r i b v, w') ∧ Fr [71, 72] w w' := by
  intro r
  induction r with
  | zero =>
    intro n0 i b v w hi hr h hs hf h68
    obtain ⟨n1, rfl⟩ : ∃ n1, n0 = n1 + 1 := ⟨n0 - 1, by omega⟩
    refine ⟨w, ?_, Fr.rf⟩
    rw [fX6_bestCell_L8, h68, if_neg (nI_nle h0 h1), if_pos (show (64 : Int32) ≤ nI i from nI_le (a := 64) (by omega) (by omega))]
    rfl
  | succ r ih =>
    intro n0 i b v w hi hr h hs hf h68
    obtain ⟨n1, rfl⟩ : ∃ n1, n0 = n1 + 1 := ⟨n0 - 1, by omega⟩
    obtain ⟨w1, g1, g2⟩ := mostAlike_ok (N := N) hN hv (hour := hour) (c := i) (f := f) (by omega) h (hs.at (by omega)) hf
    have ih' := fun b v => ih n1 (i + 1) b v w1 (by omega) (by omega) (h.fr g2 (by decide)) (fun c j hc hj => by rw [g2.1 61 (by decide)]; exact hs c j hc hj) (fun S hS => by rw [g2.1 70 (by decide)]; exact hf S hS) (by rw [g2.1 68 (by decide)]; exact h68)
    rw [fX6_bestCell_L8, h68, if_neg (nI_nle h0 h1), if_neg (show ¬ (64 : Int32) ≤ nI i from nI_ge (b := 64) (by omega) (by decide)), g1, oS, nI_1]
    rw [sK]
    by_cases q : v ≤ nI (sMo f (fun S => sT d S hour i) (2 ^ nn d))
    · rw [if_pos q, if_pos q]
      obtain ⟨w2, k1, k2⟩ := ih' b v
      exact ⟨w2, k1, g2.then k2⟩
    · rw [if_neg q, if_neg q]
      obtain ⟨w2, k1, k2⟩ := ih' (nI i) (nI (sMo f (fun S => sT d S hour i) (2 ^ nn d)))
      exact ⟨w2, k1, g2.then k2⟩
/-! the reference's -/
theorem mLike_n {N : Nat} (hN : 1000 ≤ N) {d : VD} (hv : VOK d) {hour c : Nat} {o : Nat → Nat} {f : Nat → Bool} (hc : c < 64) (hh : hour < 12) : ∀ (r n0 s S : Nat) (w : Mm), s + r = 2 ^ nn d → r < n0 → HP w d S o → (∀ S, S < 2 ^ nn d → w.1 87 S = b01 (f S)) → (∀ v, v < 24 → w.1 88 v = nI (cTv f (fun S => sT d S hour c) v s)) → ∃ w' S', fX12_mostLike_L29 N n0 w (nI c) (nI hour) (nI (sMo f (fun S => sT d S hour c) s)) (nI s) = some (nI (sMo f (fun S => sT d S hour c) (2 ^ nn d)), w') ∧ Fr [77, 88] w w' ∧ HP w' d S' o ∧ w'.1 77 14 = w.1 77 14 ∧ w'.1 77 16 = w.1 77 16 := by
  intro r
  have h7 := p2le hv
  have hn := hv.2.1
  induction r with
  | zero =>
    intro n0 s S w hi hr h ha hb
    obtain ⟨n1, rfl⟩ : ∃ n1, n0 = n1 + 1 := ⟨n0 - 1, by omega⟩
    refine ⟨w, S, ?_, Fr.rf, h, rfl, rfl⟩
    unfold fX12_mostLike_L29 fX12_candles
    rw [h.1, nI_shl (by omega), if_pos (nI_le (by omega) (by omega)), show s = 2 ^ nn d by omega]
  | succ r ih =>
    intro n0 s S w hi hr h ha hb
    obtain ⟨n1, rfl⟩ : ∃ n1, n0 = n1 + 1 := ⟨n0 - 1, by omega⟩
    have hts : sT d s hour c ≤ 23 := sT_le hv s hour c
    have hle := cTv_le f (fun S => sT d S hour c) (sT d s hour c) s
    have hle1 := cTv_le f (fun S => sT d S hour c) (sT d s hour c) (s + 1)
    have hml := sMo_le f (fun S => sT d S hour c) s
    have a2 := ha s (by omega)
    unfold fX12_mostLike_L29 fX12_candles
    rw [h.1, nI_shl (by omega), if_neg (nI_ge (by omega) (by omega)), rdA_n (by omega) (by decide), bS, a2, nI_1]
    by_cases q1 : f s = true
    · have hp1 : HP (sI w 77 6 (nI s)) d s o := h.set
      have hy : cTv f (fun S => sT d S hour c) (sT d s hour c) (s + 1) = cTv f (fun S => sT d S hour c) (sT d s hour c) s + 1 := cTv_yes q1
      have f1 : Fr [77, 88] w (sI (sI w 77 6 (nI s)) 88 (sT d s hour c) (nI (cTv f (fun S => sT d S hour c) (sT d s hour c) (s + 1)))) := (Fr.sI (L := [77, 88]) (by decide)).then (Fr.sI (by decide))
      obtain ⟨w', S', g1, g2, g3, g4, g5⟩ := ih n1 (s + 1) s (sI (sI w 77 6 (nI s)) 88 (sT d s hour c) (nI (cTv f (fun S => sT d S hour c) (sT d s hour c) (s + 1)))) (by omega) (by omega) (hp1.fr (Fr.sI (L := [88]) (by decide)) (by decide)) (fun S hS => by rw [f1.1 87 (by decide)]; exact ha S hS) (fun v hv24 => by
        rw [sI_1]
        by_cases e : v = sT d s hour c
        · rw [if_pos ⟨rfl, e⟩, e]
        · rw [if_neg (by omega), sI_o _ (by decide), show cTv f (fun S => sT d S hour c) v (s + 1) = cTv f (fun S => sT d S hour c) v s from cTv_no (fun z => e z.2.symm)]; exact hb v hv24)
      refine ⟨w', S', ?_, f1.then g2, g3, by rw [g4, sI_o _ (by decide), sI_1, if_neg (by decide)], by rw [g5, sI_o _ (by decide), sI_1, if_neg (by decide)]⟩
      rw [sMo, if_pos q1] at g1
      have e88 : (sI (sI w 77 6 (nI s)) 88 (sT d s hour c) (nI (cTv f (fun S => sT d S hour c) (sT d s hour c) (s + 1)))).1 88 (sT d s hour c) = nI (cTv f (fun S => sT d S hour c) (sT d s hour c) (s + 1)) := by rw [sI_1, if_pos ⟨rfl, rfl⟩]
      rw [if_neg (fun z => by rw [b01_z, q1] at z; exact absurd z (by decide)), bS, mlightIn_ok (by omega) hp1 hv (by omega) hc hh, bS, rdA_n (by omega) (by decide), bS, sI_o _ (by decide), hb _ (by omega), nI_1, ← hy, wrA_n (by omega) (by decide), bS, rdA_n (by omega) (by decide), bS, bS, e88]
      unfold fX12_mostLike_L97
      rw [nI_1]
      by_cases q2 : cTv f (fun S => sT d S hour c) (sT d s hour c) (s + 1) ≤ sMo f (fun S => sT d S hour c) s
      · rw [if_pos (nI_le q2 (by omega))]
        rw [Nat.max_eq_left q2] at g1
        exact g1
      · rw [if_neg (nI_ge (by omega) (by omega))]
        rw [Nat.max_eq_right (by omega)] at g1
        exact g1
    · have q1' : f s = false := by simpa using q1
      obtain ⟨w', S', g1, g2, g3, g4, g5⟩ := ih n1 (s + 1) S w (by omega) (by omega) h ha (fun v hv24 => by rw [cTv_no (fun z => q1 z.1)]; exact hb v hv24)
      rw [sMo, if_neg q1] at g1
      rw [if_pos (b01_z.mpr q1')]
      exact ⟨w', S', g1, g2, g3, g4, g5⟩
theorem mLike_0 {N : Nat} (hN : 1000 ≤ N) {d : VD} (hv : VOK d) {hour c : Nat} {o : Nat → Nat} {f : Nat → Bool} (hc : c < 64) (hh : hour < 12) {S : Nat} : ∀ (r n0 i : Nat) (w : Mm), i + r = 24 → r < n0 → HP w d S o → (∀ S, S < 2 ^ nn d → w.1 87 S = b01 (f S)) → (∀ v, v < i → w.1 88 v = 0) → ∃ w' S', fX12_mostLike_L5 N n0 w (nI c) (nI hour) 0 (nI i) = some (nI (sMo f (fun S => sT d S hour c) (2 ^ nn d)), w') ∧ Fr [77, 88] w w' ∧ HP w' d S' o ∧ w'.1 77 14 = w.1 77 14 ∧ w'.1 77 16 = w.1 77 16 := by
  intro r
  have h7 := p2le hv
  induction r with
  | zero =>
    intro n0 i w hi hr h ha hb
    obtain ⟨n1, rfl⟩ : ∃ n1, n0 = n1 + 1 := ⟨n0 - 1, by omega⟩
    obtain ⟨w', S', g1, g2⟩ := mLike_n (N := N) hN hv (f := f) hc hh (2 ^ nn d) N 0 S w (Nat.zero_add _) (by omega) h ha (fun v hv24 => (hb v (by omega)).trans rfl)
    refine ⟨w', S', ?_, g2⟩
    rw [fX12_mostLike_L5, if_pos (show (24 : Int32) ≤ nI i from nI_le (a := 24) (by omega) (by omega))]
    exact g1
  | succ r ih =>
    intro n0 i w hi hr h ha hb
    obtain ⟨n1, rfl⟩ : ∃ n1, n0 = n1 + 1 := ⟨n0 - 1, by omega⟩
    have f1 : Fr [88] w (sI w 88 i 0) := Fr.sI (by decide)
    obtain ⟨w', S', g1, g2, g3, g4, g5⟩ := ih n1 (i + 1) (sI w 88 i 0) (by omega) (by omega) (h.fr f1 (by decide)) (fun S hS => by rw [f1.1 87 (by decide)]; exact ha S hS) (fun v hv24 => by
      rw [sI_1]
      by_cases e : v = i
      · rw [if_pos ⟨rfl, e⟩]
      · rw [if_neg (by omega)]; exact hb v (by omega))
    refine ⟨w', S', ?_, (f1.up (by decide)).then g2, g3, by rw [g4, sI_o _ (by decide)], by rw [g5, sI_o _ (by decide)]⟩
    rw [fX12_mostLike_L5, if_neg (show ¬ (24 : Int32) ≤ nI i from nI_ge (b := 24) (by omega) (by decide)), wrA_n (by omega) (by decide), bS, nI_1]
    exact g1
theorem mMeas_n {N : Nat} (hN : 1000 ≤ N) {d : VD} (hv : VOK d) {hour ct : Nat} {o : Nat → Nat} {f : Nat → Bool} (hh : hour < 12) (h0 : 0 < ct) (h1 : ct < 2 ^ 31) : ∀ (r n0 i S : Nat) (b v : Int32) (w : Mm), i + r = 64 → r < n0 → HP w d S o → (∀ S, S < 2 ^ nn d → w.1 87 S = b01 (f S)) → w.1 77 14 = nI ct → ∃ w', fX12_measure_L26 N n0 w (nI hour) b v (nI i) = some (sK (fun c => sMo f (fun S => sT d S hour c) (2 ^ nn d)) r i b v, w') ∧ Fr [77, 88] w w' ∧ w'.1 77 16 = w.1 77 16 := by
  intro r
  induction r with
  | zero =>
    intro n0 i S b v w hi hr h hf h68
    obtain ⟨n1, rfl⟩ : ∃ n1, n0 = n1 + 1 := ⟨n0 - 1, by omega⟩
    refine ⟨w, ?_, Fr.rf, rfl⟩
    rw [fX12_measure_L26, if_pos (show (64 : Int32) ≤ nI i from nI_le (a := 64) (by omega) (by omega))]
    rfl
  | succ r ih =>
    intro n0 i S b v w hi hr h hf h68
    obtain ⟨n1, rfl⟩ : ∃ n1, n0 = n1 + 1 := ⟨n0 - 1, by omega⟩
    obtain ⟨w1, S1, g1, g2, g3, g4, g5⟩ := mLike_0 (N := N) hN hv (hour := hour) (c := i) (f := f) (by omega) hh 24 N 0 w rfl (by omega) h hf (fun v hv0 => absurd hv0 (by omega))
    have ih' := fun b v => ih n1 (i + 1) S1 b v w1 (by omega) (by omega) g3 (fun S hS => by rw [g2.1 87 (by decide)]; exact hf S hS) (by rw [g4]; exact h68)
    rw [fX12_measure_L26, h68, if_neg (show ¬ (64 : Int32) ≤ nI i from nI_ge (b := 64) (by omega) (by decide)), if_neg (nI_nle h0 h1), show fX12_mostLike N w (nI i) (nI hour) = _ from g1, oS]
    unfold fX12_measure_L61
    rw [nI_1]
    rw [sK]
    by_cases q : v ≤ nI (sMo f (fun S => sT d S hour i) (2 ^ nn d))
    · rw [if_pos q, if_pos q, if_pos q]
      obtain ⟨w2, k1, k2, k3⟩ := ih' b v
      exact ⟨w2, k1, g2.then k2, by rw [k3, g5]⟩
    · rw [if_neg q, if_neg q, if_neg q]
      obtain ⟨w2, k1, k2, k3⟩ := ih' (nI i) (nI (sMo f (fun S => sT d S hour i) (2 ^ nn d)))
      exact ⟨w2, k1, g2.then k2, by rw [k3, g5]⟩
theorem op_measure {N : Nat} (hN : 1000 ≤ N) {w : Mm} (h : INV w) (x : Int32) : OKi (fX11_measure N w x) (fun w => fX12_measure N w x) := by
  unfold fX11_measure fX12_measure fX11_isHour fX12_isHour
  rcases rg_0_11 x with ⟨h1, h2⟩ | ⟨t, -, ht, rfl, h1, h2⟩
  · rw [if_pos h1]; exact ok_bad' (-2) h (fun w' hw' => by rw [if_pos h2])
  rw [if_neg h1]
  obtain ⟨S, s1, s2, s3⟩ := h
  have hv : VOK (vd (gV S)) := s1.1.1
  have h7 := p2le hv
  have hn := hv.2.1
  obtain ⟨w1, e1, e2, e3⟩ := layAll_ok (N := N) (by omega) hv s2.1.lp (hour := t) (by omega)
  have c1 := s2.scr e2 (by decide)
  obtain ⟨w2, k1, k2, k3, k4⟩ := layFitting_ok (N := N) hN s1.1 c1.1
  have l2 : LPc w2 (vd (gV S)) := c1.1.lp.fr k2 (by decide)
  have sp2 : SP w2 (vd (gV S)) t := fun c j hc hj => by rw [k2.1 61 (by decide)]; exact e3 c j hc hj
  have f12 : Fr [61, 65, 68, 70] w w2 := (e2.up (by decide)).then (k2.up (by decide))
  generalize hf : (fun S_1 => sFt (vd (gV S)) (rC (gV S)) (rH (gV S)) (rL (gV S)) S_1 (nR (gV S))) = f at k4
  have k3' : ∀ T, T < 2 ^ nn (vd (gV S)) → w2.1 70 T = b01 (f T) := by rw [← hf]; exact k3
  have hct := sCt_le f (2 ^ nn (vd (gV S)))
  by_cases hz : sCt f (2 ^ nn (vd (gV S))) = 0
  · have m2 := s3.scr f12 (by decide)
    obtain ⟨w3, S', g1, g2, g3, g4, g5, g6⟩ := layFits_ok (N := N) hN s1.1 m2.1
    rw [hf] at g5
    obtain ⟨n1, rfl⟩ : ∃ n1, N = n1 + 1 := ⟨N - 1, by omega⟩
    refine ⟨-1, w2, w3, ?_, ?_, INV.q s1 s2 s3 f12 (by decide) g2 (by decide) g6⟩
    · rw [e1, bS, k1, bS]
      unfold fX6_bestCell
      rw [fX6_bestCell_L8, k4, hz, if_pos (show nI 0 ≤ 0 by decide), oS]
    · dsimp only
      rw [if_neg h2, g1, bS, fX12_measure_L26, g5, hz, if_neg (show ¬ (64 : Int32) ≤ 0 by decide), if_pos (show nI 0 ≤ 0 by decide)]
  · obtain ⟨w3, q1, q2⟩ := bestCell_n (N := N) hN hv (hour := t) (ct := sCt f (2 ^ nn (vd (gV S)))) (f := f) (by omega) (by omega) 64 N 0 (-1) 129 w2 rfl (by omega) l2 sp2 k3' k4
    have f13 : Fr [61, 65, 68, 70, 71, 72] w w3 := (f12.up (by decide)).then (q2.up (by decide))
    have m3 := s3.scr f13 (by decide)
    obtain ⟨w4, S', g1, g2, g3, g4, g5, g6⟩ := layFits_ok (N := N) hN s1.1 m3.1
    rw [hf] at g5
    have g4' : ∀ T, T < 2 ^ nn (vd (gV S)) → w4.1 87 T = b01 (f T) := by rw [← hf]; exact g4
    obtain ⟨w5, p1, p2, p3⟩ := mMeas_n (N := N) hN hv (hour := t) (ct := sCt f (2 ^ nn (vd (gV S)))) (f := f) (by omega) (by omega) (by omega) 64 N 0 S' (-1) 1000000 w4 rfl (by omega) g3 g4' g5
    have hf0 : sMo f (fun T => sT (vd (gV S)) T t 0) (2 ^ nn (vd (gV S))) ≤ 128 := Nat.le_trans (sMo_le _ _ _) h7
    have hs1 : ∀ v, ¬ v ≤ nI (sMo f (fun T => sT (vd (gV S)) T t 0) (2 ^ nn (vd (gV S)))) → sK (fun c => sMo f (fun T => sT (vd (gV S)) T t c) (2 ^ nn (vd (gV S)))) 64 0 (-1) v = sK (fun c => sMo f (fun T => sT (vd (gV S)) T t c) (2 ^ nn (vd (gV S)))) 63 1 (nI 0) (nI (sMo f (fun T => sT (vd (gV S)) T t 0) (2 ^ nn (vd (gV S))))) := fun v hvv => by
      rw [sK, if_neg hvv]
    rw [hs1 129 (nI_ge (b := 129) (by omega) (by decide))] at q1
    rw [hs1 1000000 (nI_ge (b := 1000000) (by omega) (by decide))] at p1
    refine ⟨?_, w3, w5, ?_, ?_, INV.q s1 s2 s3 f13 (by decide) ((g2.up (L2 := [77, 82, 83, 87, 88]) (by decide)).then (p2.up (by decide))) (by decide) (by rw [p3]; exact g6)⟩
    rotate_left
    · rw [e1, bS, k1, bS, show fX6_bestCell N w2 = _ from q1, oS]
    · dsimp only
      rw [if_neg h2, g1, bS]
      exact p1

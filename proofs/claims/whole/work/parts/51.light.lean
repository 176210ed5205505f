theorem bS {α β : Type} {a : α} {f : α → Option β} : Option.bind (some a) f = f a := rfl
theorem oS {α β : Type} {a : α} {w : Mm} {k : α → Mm → Option β} : ob2 (some (a, w)) k = k a w := rfl
/-! ===== a valley's candles ===== -/
/-- fog, how many, lit (bits); of each candle kind, cell, height, owner, tallow -/
abbrev VD : Type := Nat × Nat × Nat × (Nat → Nat) × (Nat → Nat) × (Nat → Nat) × (Nat → Nat) × (Nat → Nat)
def fo (d : VD) : Nat := d.1
def nn (d : VD) : Nat := d.2.1
def li (d : VD) : Nat := d.2.2.1
def kd (d : VD) : Nat → Nat := d.2.2.2.1
def ce (d : VD) : Nat → Nat := d.2.2.2.2.1
def he (d : VD) : Nat → Nat := d.2.2.2.2.2.1
def ow (d : VD) : Nat → Nat := d.2.2.2.2.2.2.1
def ta (d : VD) : Nat → Nat := d.2.2.2.2.2.2.2
def VOK (d : VD) : Prop := fo d ≤ 9 ∧ nn d ≤ 7 ∧ li d < 2 ^ nn d ∧ ∀ k, k < nn d → kd d k < 6 ∧ ce d k < 64 ∧ 1 ≤ he d k ∧ he d k ≤ 20 ∧ ow d k < 4 ∧ ta d k ≤ 12
/-- the land's picture: objects 1 to 6 -/
def LPc (w : Mm) (d : VD) : Prop := w.1 1 0 = nI (fo d) ∧ w.1 1 1 = nI (nn d) ∧ w.1 1 2 = nI (li d) ∧ ∀ k, k < nn d → w.1 2 k = nI (kd d k) ∧ w.1 3 k = nI (ce d k) ∧ w.1 4 k = nI (he d k) ∧ w.1 5 k = nI (ow d k) ∧ w.1 6 k = nI (ta d k)
theorem LPc.fr {L : List Nat} {w w' : Mm} {d : VD} (h : LPc w d) (hf : Fr L w w') (hL : 1 ∉ L ∧ 2 ∉ L ∧ 3 ∉ L ∧ 4 ∉ L ∧ 5 ∉ L ∧ 6 ∉ L) : LPc w' d := by
  obtain ⟨a1, a2, a3, a4, a5, a6⟩ := hL
  unfold LPc
  rw [hf.1 1 a1, hf.1 2 a2, hf.1 3 a3, hf.1 4 a4, hf.1 5 a5, hf.1 6 a6]
  exact h
def sHrs (j t : Nat) : Nat := match j with
  | 0 => t
  | 1 => t / 2
  | 2 => t
  | 3 => 2 * t
  | 4 => t / 2 + 2
  | _ => 12
def sStr (j h d : Nat) : Nat := match j with
  | 0 => h - d
  | 1 => if d < h then h - d + 3 else 0
  | 2 => h - (d - 2)
  | 3 => h - (d - 2)
  | 4 => (if d < h then h - d + 3 else 0) / 2
  | _ => if d < h then 1 else 0
def sFar (a b : Nat) : Nat := ((a % 8 - b % 8) + (b % 8 - a % 8)) + ((a / 8 - b / 8) + (b / 8 - a / 8))
/-- its light as far as 'far', were it lit -/
def sIf (d : VD) (k far hour : Nat) : Nat := if hour < sHrs (kd d k) (ta d k) then sStr (kd d k) (he d k) far - fo d else 0
/-- its light in a cell, were it lit -/
def sL (d : VD) (hour k c : Nat) : Nat := sIf d k (sFar (ce d k) c) hour
theorem sFar_le {a b : Nat} (ha : a < 64) (hb : b < 64) : sFar a b ≤ 14 := by
  unfold sFar
  omega
theorem sStr_le {j h d : Nat} (hh : h ≤ 20) : sStr j h d ≤ 23 := by
  unfold sStr
  split
  all_goals first | omega | (split <;> omega) | (split; omega; split <;> omega)
theorem sIf_le {d : VD} (hv : VOK d) {k far hour : Nat} (hk : k < nn d) : sIf d k far hour ≤ 23 := by
  unfold sIf
  have := sStr_le (j := kd d k) (d := far) (hv.2.2.2 k hk).2.2.2.1
  split <;> omega
theorem hours_n : ∀ j, j < 6 → ∀ t, t < 13 → fD_hours j (nI t) = nI (sHrs j t) := by decide +kernel
theorem strength_n : ∀ j, j < 6 → ∀ h, h < 21 → ∀ f, f < 15 → fD_strength j (nI h) (nI f) = nI (sStr j h f) := by decide +kernel
theorem far_n {a b : Nat} (ha : a < 64) (hb : b < 64) : fX11_farBetween (nI a) (nI b) = nI (sFar a b) := by
  unfold fX11_farBetween sFar
  have e1 : nI a - nI a / 8 * 8 = nI (a % 8) := pk_rem (d := 8) (by omega) (by decide) (by decide)
  have e2 : nI b - nI b / 8 * 8 = nI (b % 8) := pk_rem (d := 8) (by omega) (by decide) (by decide)
  have e3 : nI a / 8 = nI (a / 8) := pk_div (d := 8) (by omega) (by decide) (by decide)
  have e4 : nI b / 8 = nI (b / 8) := pk_div (d := 8) (by omega) (by decide) (by decide)
  rw [e1, e2, e3, e4, abI_n (by omega) (by omega), abI_n (by omega) (by omega), nI_add]
theorem farFrom_n {w : Mm} {d : VD} (h : LPc w d) (hv : VOK d) {k c : Nat} (hk : k < nn d) (hc : c < 64) : fX8_farFrom 1 w (nI k) (nI c) = some (nI (sFar (ce d k) c)) := by
  unfold fX8_farFrom
  have hn := hv.2.1
  rw [rdA_n (by omega) (by decide), bS, (h.2.2.2 k hk).2.1, far_n (hv.2.2.2 k hk).2.1 hc]
theorem ifLit_n {w : Mm} {d : VD} (h : LPc w d) (hv : VOK d) {k far hour : Nat} (hk : k < nn d) (hf : far ≤ 14) (hh : hour < 12) : fX3_ifLit w (nI k) (nI far) (nI hour) = some (nI (sIf d k far hour)) := by
  unfold fX3_ifLit
  have hn := hv.2.1
  obtain ⟨k1, k2, k3, k4, k5, k6⟩ := hv.2.2.2 k hk
  obtain ⟨p1, p2, p3, p4, p5⟩ := h.2.2.2 k hk
  have hs : sHrs (kd d k) (ta d k) ≤ 24 := by
    unfold sHrs
    split <;> omega
  rw [rdA_n (by omega) (by decide), bS, p1, rdR_n k1 (by decide), bS, rdA_n (by omega) (by decide), bS, p5, hours_n _ k1 _ (by omega)]
  unfold sIf
  by_cases hc : hour < sHrs (kd d k) (ta d k)
  · rw [if_pos ((nI_ltI (by omega) (by omega)).mpr hc), if_pos hc, rdA_n (by omega) (by decide), bS, p3, strength_n _ k1 _ (by omega) _ (by omega), h.1]
    have := sStr_le (j := kd d k) (d := far) k4
    rw [nI_sub0 (by omega) (by have := hv.1; omega)]
  · rw [if_neg (fun z => hc ((nI_ltI (by omega) (by omega)).mp z)), if_neg hc]
    rfl
/-! the rows by distance, and by cell -/
/-- what layAll lays: each candle's light in each cell, were it lit -/
def SP (w : Mm) (d : VD) (hour : Nat) : Prop := ∀ c k, c < 64 → k < nn d → w.1 61 (c * 7 + k) = nI (sL d hour k c)
theorem layFar_n {N : Nat} {d : VD} (hv : VOK d) {k hour : Nat} (hk : k < nn d) (hh : hour < 12) : ∀ (r n0 i : Nat) (w : Mm), i + r = 15 → r < n0 → LPc w d → (∀ j, j < i → w.1 65 j = nI (sIf d k j hour)) → ∃ w', fX3_layFar_L2 N n0 w (nI k) (nI hour) (nI i) = some w' ∧ Fr [65] w w' ∧ ∀ j, j < 15 → w'.1 65 j = nI (sIf d k j hour) := by
  intro r
  induction r with
  | zero =>
    intro n0 i w hi hn h hj
    obtain ⟨n1, rfl⟩ : ∃ n1, n0 = n1 + 1 := ⟨n0 - 1, by omega⟩
    refine ⟨w, ?_, Fr.rf, fun j h15 => hj j (by omega)⟩
    rw [fX3_layFar_L2, if_pos]
    exact (nI_ltI (a := 14) (by decide) (by omega)).mpr (by omega)
  | succ r ih =>
    intro n0 i w hi hn h hj
    obtain ⟨n1, rfl⟩ : ∃ n1, n0 = n1 + 1 := ⟨n0 - 1, by omega⟩
    rw [fX3_layFar_L2, if_neg (show ¬ (14 : Int32) < nI i from nI_nlt (a := 14) (b := i) (by omega) (by decide)), ifLit_n h hv hk (by omega) hh, bS, wrA_n (by omega) (by decide), bS, nI_1]
    obtain ⟨w', e1, e2, e3⟩ := ih n1 (i + 1) (sI w 65 i (nI (sIf d k i hour))) (by omega) (by omega) (h.fr (Fr.sI (L := [65]) (by decide)) (by decide)) (fun j hj2 => by
      rw [sI_1]
      by_cases e : j = i
      · rw [if_pos ⟨rfl, e⟩, e]
      · rw [if_neg (fun z => e z.2)]; exact hj j (by omega))
    exact ⟨w', e1, (Fr.sI (by decide)).then e2, e3⟩
theorem layAll_in {N : Nat} {d : VD} (hv : VOK d) {k hour : Nat} (hk : k < nn d) {k2 : Mm → Int32 → Int32 → Option Mm} : ∀ (r n0 i : Nat) (w : Mm), i + r = 64 → r < n0 → LPc w d → (∀ j, j < 15 → w.1 65 j = nI (sIf d k j hour)) → ∃ w', fX3_layAll_L21 N k2 n0 w (nI hour) (nI k) (nI i) = k2 w' (nI hour) (nI k + 1) ∧ Fr [61] w w' ∧ (∀ c, i ≤ c → c < 64 → w'.1 61 (c * 7 + k) = nI (sL d hour k c)) ∧ ∀ j, (∀ c, i ≤ c → c < 64 → j ≠ c * 7 + k) → w'.1 61 j = w.1 61 j := by
  intro r
  induction r with
  | zero =>
    intro n0 i w hi hn h hj
    obtain ⟨n1, rfl⟩ : ∃ n1, n0 = n1 + 1 := ⟨n0 - 1, by omega⟩
    refine ⟨w, ?_, Fr.rf, fun c h1 h2 => by omega, fun j _ => rfl⟩
    rw [fX3_layAll_L21, if_pos]
    exact (nI_leI (a := 64) (by decide) (by omega)).mpr (by omega)
  | succ r ih =>
    intro n0 i w hi hn h hj
    obtain ⟨n1, rfl⟩ : ∃ n1, n0 = n1 + 1 := ⟨n0 - 1, by omega⟩
    have hn7 := hv.2.1
    have hfar := sFar_le (hv.2.2.2 k hk).2.1 (show i < 64 by omega)
    have e0 : nI i * 7 + nI k = nI (i * 7 + k) := by
      rw [show (7 : Int32) = nI 7 from rfl, pk_mul, nI_add]
    rw [fX3_layAll_L21, if_neg (show ¬ (64 : Int32) ≤ nI i from nI_ge (b := 64) (by omega) (by decide)), farFrom_n h hv hk (by omega), bS, rdA_n (by omega) (by decide), bS, hj _ (by omega), e0, wrA_n (by omega) (by decide), bS, nI_1]
    obtain ⟨w', e1, e2, e3, e4⟩ := ih n1 (i + 1) (sI w 61 (i * 7 + k) (nI (sIf d k (sFar (ce d k) i) hour))) (by omega) (by omega) (h.fr (Fr.sI (L := [61]) (by decide)) (by decide)) (fun j h15 => by
      rw [sI_1, if_neg (by omega)]; exact hj j h15)
    refine ⟨w', e1, (Fr.sI (by decide)).then e2, fun c h1 h2 => ?_, fun j h1 => ?_⟩
    · by_cases e : c = i
      · subst e
        rw [e4 _ (fun c2 h3 h4 h5 => by omega), sI_1, if_pos ⟨rfl, rfl⟩]
        rfl
      · exact e3 c (by omega) h2
    · rw [e4 j (fun c h2 h3 => h1 c (by omega) h3), sI_1, if_neg (fun z => h1 i (Nat.le_refl _) (by omega) z.2)]
theorem layAll_n {N : Nat} (hN : 100 ≤ N) {d : VD} (hv : VOK d) {hour : Nat} (hh : hour < 12) : ∀ (r n0 i : Nat) (w : Mm), i + r = nn d → r < n0 → LPc w d → (∀ c k, c < 64 → k < i → w.1 61 (c * 7 + k) = nI (sL d hour k c)) → ∃ w', fX3_layAll_L2 N n0 w (nI hour) (nI i) = some w' ∧ Fr [61, 65] w w' ∧ SP w' d hour := by
  intro r
  induction r with
  | zero =>
    intro n0 i w hi hn h hj
    obtain ⟨n1, rfl⟩ : ∃ n1, n0 = n1 + 1 := ⟨n0 - 1, by omega⟩
    have hn7 := hv.2.1
    refine ⟨w, ?_, Fr.rf, fun c k h1 h2 => hj c k h1 (by omega)⟩
    rw [fX3_layAll_L2, if_pos]
    rw [h.2.1]
    exact (nI_leI (by omega) (by omega)).mpr (by omega)
  | succ r ih =>
    intro n0 i w hi hn h hj
    obtain ⟨n1, rfl⟩ : ∃ n1, n0 = n1 + 1 := ⟨n0 - 1, by omega⟩
    have hn7 := hv.2.1
    obtain ⟨w1, a1, a2, a3⟩ := layFar_n (N := N) hv (k := i) (hour := hour) (by omega) hh 15 N 0 w rfl (by omega) h (fun j hj => absurd hj (by omega))
    obtain ⟨w2, b1, b2, b3, b4⟩ := layAll_in (N := N) hv (k := i) (hour := hour) (by omega) (k2 := fX3_layAll_L2 N n1) 64 N 0 w1 rfl (by omega) (h.fr a2 (by decide)) a3
    have f12 : Fr [61, 65] w w2 := (a2.up (by decide)).then (b2.up (by decide))
    obtain ⟨w3, c1, c2, c3⟩ := ih n1 (i + 1) w2 (by omega) (by omega) (h.fr f12 (by decide)) (fun c k h1 h2 => by
      by_cases e : k = i
      · rw [e]; exact b3 c (Nat.zero_le _) h1
      · rw [b4 _ (fun c2 _ h4 h5 => by omega), a2.1 61 (by decide)]
        exact hj c k h1 (by omega))
    refine ⟨w3, ?_, f12.then c2, c3⟩
    rw [fX3_layAll_L2, if_neg]
    · have a1' : fX3_layFar N w (nI i) (nI hour) = some w1 := a1
      rw [a1', bS]
      show fX3_layAll_L21 N (fX3_layAll_L2 N n1) N w1 (nI hour) (nI i) (nI 0) = _
      rw [b1, nI_1]
      exact c1
    · rw [h.2.1]
      exact fun z => absurd ((nI_leI (by omega) (by omega)).mp z) (by omega)
theorem layAll_ok {N : Nat} (hN : 100 ≤ N) {w : Mm} {d : VD} (hv : VOK d) (h : LPc w d) {hour : Nat} (hh : hour < 12) : ∃ w', fX3_layAll N w (nI hour) = some w' ∧ Fr [61, 65] w w' ∧ SP w' d hour :=
  layAll_n hN hv hh (nn d) N 0 w (by omega) (by have := hv.2.1; omega) h (fun c k _ hk => absurd hk (by omega))

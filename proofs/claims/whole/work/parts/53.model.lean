/-! ===== the reference's lights ===== -/
theorem nI_5k (k j : Nat) : (6 + 5 * nI k) + nI j = nI (6 + 5 * k + j) := by
  rw [show (5 : Int32) = nI 5 from rfl, show (6 : Int32) = nI 6 from rfl, pk_mul, nI_add, nI_add]
theorem mget_n {w : Mm} {k j : Nat} (hk : k < 7) (hj : j < 5) : fX12_get w (nI k) (nI j) = some (w.1 78 (6 + 5 * k + j)) := by
  unfold fX12_get
  rw [nI_5k, rdA_n (by omega) (by decide), bS]
theorem mstrength_n : ∀ j, j < 6 → ∀ h, h < 21 → ∀ f, f < 15 → fX12_strength (nI j) (nI h) (nI f) = nI (sStr j h f) := by decide +kernel
theorem mhours_n : ∀ j, j < 6 → ∀ t, t < 13 → fX12_burnsFor (nI j) (nI t) = nI (sHrs j t) := by decide +kernel
theorem mapart_n {a b : Nat} (ha : a < 2 ^ 31) (hb : b < 2 ^ 31) : fX12_apart (nI a) (nI b) = nI ((a - b) + (b - a)) := by
  unfold fX12_apart
  by_cases h : a ≤ b
  · rw [if_pos (nI_le h hb), pk_sub h, show a - b = 0 by omega, Nat.zero_add]
  · rw [if_neg (nI_ge (by omega) ha), pk_sub (by omega), show b - a = 0 by omega, Nat.add_zero]
theorem mfar_n {a b : Nat} (ha : a < 64) (hb : b < 64) : fX12_far (nI a) (nI b) = nI (sFar a b) := by
  unfold fX12_far sFar
  have e1 : nI a - nI a / 8 * 8 = nI (a % 8) := pk_rem (d := 8) (by omega) (by decide) (by decide)
  have e2 : nI b - nI b / 8 * 8 = nI (b % 8) := pk_rem (d := 8) (by omega) (by decide) (by decide)
  have e3 : nI a / 8 = nI (a / 8) := pk_div (d := 8) (by omega) (by decide) (by decide)
  have e4 : nI b / 8 = nI (b / 8) := pk_div (d := 8) (by omega) (by decide) (by decide)
  rw [e1, e2, e3, e4, mapart_n (by omega) (by omega), mapart_n (by omega) (by omega), nI_add]
/-- the reference's hand: what lights ask of 'now', the set that is lit, cells and owners in hand -/
def HP (w : Mm) (d : VD) (S : Nat) (o : Nat → Nat) : Prop := w.1 78 0 = nI (nn d) ∧ w.1 78 1 = nI (fo d) ∧ w.1 77 6 = nI S ∧ ∀ k, k < nn d → w.1 78 (6 + 5 * k) = nI (kd d k) ∧ w.1 78 (6 + 5 * k + 2) = nI (he d k) ∧ w.1 78 (6 + 5 * k + 4) = nI (ta d k) ∧ w.1 82 k = nI (ce d k) ∧ w.1 83 k = nI (o k)
theorem HP.fr {L : List Nat} {w w' : Mm} {d : VD} {S : Nat} {o : Nat → Nat} (h : HP w d S o) (hf : Fr L w w') (hL : 77 ∉ L ∧ 78 ∉ L ∧ 82 ∉ L ∧ 83 ∉ L) : HP w' d S o := by
  unfold HP
  rw [hf.1 77 hL.1, hf.1 78 hL.2.1, hf.1 82 hL.2.2.1, hf.1 83 hL.2.2.2]
  exact h
theorem mlightOf_n {w : Mm} {d : VD} {S : Nat} {o : Nat → Nat} (h : HP w d S o) (hv : VOK d) (hS : S < 2 ^ 31) {k c hour : Nat} (hk : k < nn d) (hc : c < 64) (hh : hour < 12) : fX12_lightOf w (nI k) (nI c) (nI hour) = some (nI (lv_ S (fun k => sL d hour k c) k)) := by
  have hn := hv.2.1
  obtain ⟨k1, k2, k3, k4, k5, k6⟩ := hv.2.2.2 k hk
  obtain ⟨p1, p2, p3, p4, p5⟩ := h.2.2.2 k hk
  have hs : sHrs (kd d k) (ta d k) ≤ 24 := by
    unfold sHrs
    split <;> omega
  have hst := sStr_le (j := kd d k) (d := sFar (ce d k) c) k4
  have hfar := sFar_le k2 hc
  have g0 : fX12_get w (nI k) 0 = some (nI (kd d k)) := (mget_n (j := 0) (by omega) (by omega)).trans (by rw [← p1]; rfl)
  have g2 : fX12_get w (nI k) 2 = some (nI (he d k)) := (mget_n (j := 2) (by omega) (by omega)).trans (by rw [← p2])
  have g4 : fX12_get w (nI k) 4 = some (nI (ta d k)) := (mget_n (j := 4) (by omega) (by omega)).trans (by rw [← p3])
  have e0 : fX12_lightOf_L39 w (nI k) (nI c) (nI (kd d k)) = some 0 := by
    unfold fX12_lightOf_L39 fX12_lightOf_L40 fX12_lightOf_L72 fX12_lightOf_L87
    rw [g2, bS, rdA_n (by omega) (by decide), bS, if_pos rfl]
  have e1 : fX12_lightOf_L40 w (nI k) (nI c) (nI (kd d k)) 1 = some (nI (sStr (kd d k) (he d k) (sFar (ce d k) c) - fo d)) := by
    unfold fX12_lightOf_L40 fX12_lightOf_L72 fX12_lightOf_L87
    have hf := hv.1
    rw [g2, bS, rdA_n (by omega) (by decide), bS, p4, mfar_n k2 hc, mstrength_n _ k1 _ (by omega) _ (by omega), h.2.1, if_neg (by decide)]
    by_cases hb : sStr (kd d k) (he d k) (sFar (ce d k) c) ≤ fo d
    · rw [show sStr (kd d k) (he d k) (sFar (ce d k) c) - fo d = 0 by omega]
      by_cases hz : sStr (kd d k) (he d k) (sFar (ce d k) c) = fo d
      · rw [hz, pk_sub (Nat.le_refl _), Nat.sub_self, if_pos (show nI 0 ≤ 0 from Int32.le_refl _)]
        rfl
      · rw [if_pos (Int32.le_of_lt (pk_sneg (by omega) (by omega)))]
        rfl
    · rw [pk_sub (by omega), if_neg (nI_nle (by omega) (by omega))]
  unfold fX12_lightOf lv_
  rw [g0, bS, h.2.2.1]
  by_cases hbit : bt S k = true
  · rw [if_pos ((nI_bit1 hS (by omega)).mpr hbit), g4, bS, mhours_n _ k1 _ (by omega), if_pos hbit]
    by_cases hc2 : hour < sHrs (kd d k) (ta d k)
    · rw [if_neg (nI_ge hc2 (by omega)), e1]
      show _ = some (nI (sIf d k (sFar (ce d k) c) hour))
      unfold sIf
      rw [if_pos hc2]
    · rw [if_pos (nI_le (by omega) (by omega)), e0]
      show _ = some (nI (sIf d k (sFar (ce d k) c) hour))
      unfold sIf
      rw [if_neg hc2]
      rfl
  · rw [if_neg (fun z => hbit ((nI_bit1 hS (by omega)).mp z)), e0, if_neg hbit]
    rfl
theorem lv_le {d : VD} (hv : VOK d) {S hour c k : Nat} (hk : k < nn d) : lv_ S (fun k => sL d hour k c) k ≤ 23 := by
  unfold lv_
  split
  · exact sIf_le hv hk
  · omega
theorem mlightIn_n {N : Nat} {w : Mm} {d : VD} {S : Nat} {o : Nat → Nat} (h : HP w d S o) (hv : VOK d) (hS : S < 2 ^ 31) {c hour : Nat} (hc : c < 64) (hh : hour < 12) : ∀ (r n0 i : Nat), i + r = nn d → r < n0 → fX12_lightIn_L5 N w n0 (nI c) (nI hour) (nI (sMx (lv_ S (fun k => sL d hour k c)) i)) (nI i) = some (nI (sMx (lv_ S (fun k => sL d hour k c)) (nn d))) := by
  intro r
  have hn7 := hv.2.1
  induction r with
  | zero =>
    intro n0 i hi hn
    obtain ⟨n1, rfl⟩ : ∃ n1, n0 = n1 + 1 := ⟨n0 - 1, by omega⟩
    rw [fX12_lightIn_L5]
    unfold fX12_candles
    rw [h.1, if_pos (nI_le (by omega) (by omega)), show i = nn d by omega]
  | succ r ih =>
    intro n0 i hi hn
    obtain ⟨n1, rfl⟩ : ∃ n1, n0 = n1 + 1 := ⟨n0 - 1, by omega⟩
    have ih := ih n1 (i + 1) (by omega) (by omega)
    have hm : sMx (lv_ S (fun k => sL d hour k c)) i ≤ 23 := sMx_bd (fun k hk => lv_le hv (by omega))
    have hl := lv_le hv (S := S) (hour := hour) (c := c) (k := i) (by omega)
    have e : sMx (lv_ S (fun k => sL d hour k c)) (i + 1) = max (sMx (lv_ S (fun k => sL d hour k c)) i) (lv_ S (fun k => sL d hour k c) i) := rfl
    rw [fX12_lightIn_L5]
    unfold fX12_candles
    rw [h.1, if_neg (nI_ge (by omega) (by omega)), mlightOf_n h hv hS (by omega) hc hh, bS]
    rw [e] at ih
    by_cases hb : lv_ S (fun k => sL d hour k c) i ≤ sMx (lv_ S (fun k => sL d hour k c)) i
    · rw [if_pos (nI_le hb (by omega)), nI_1]
      rw [Nat.max_eq_left hb] at ih
      exact ih
    · rw [if_neg (nI_ge (by omega) (by omega)), nI_1]
      rw [Nat.max_eq_right (by omega)] at ih
      exact ih
/-- how light a cell is by a set of lit ones -/
def sT (d : VD) (S hour c : Nat) : Nat := sMx (lv_ S (fun k => sL d hour k c)) (nn d)
theorem sT_le {d : VD} (hv : VOK d) (S hour c : Nat) : sT d S hour c ≤ 23 := sMx_bd (fun k hk => lv_le hv hk)
theorem mlightIn_ok {N : Nat} (hN : 100 ≤ N) {w : Mm} {d : VD} {S : Nat} {o : Nat → Nat} (h : HP w d S o) (hv : VOK d) (hS : S < 2 ^ 31) {c hour : Nat} (hc : c < 64) (hh : hour < 12) : fX12_lightIn N w (nI c) (nI hour) = some (nI (sT d S hour c)) :=
  mlightIn_n h hv hS hc hh (nn d) N 0 (by omega) (by have := hv.2.1; omega)
theorem mwhose_n {N : Nat} {w : Mm} {d : VD} {S : Nat} {o : Nat → Nat} (h : HP w d S o) (hv : VOK d) (hS : S < 2 ^ 31) {c hour : Nat} (hc : c < 64) (hh : hour < 12) : ∀ (r n0 i : Nat), i + r = nn d → r < n0 → fX12_whose_L13 N w n0 (nI c) (nI hour) (nI (sT d S hour c)) (sWf (lv_ S (fun k => sL d hour k c)) o (sT d S hour c) i) (nI i) = some (sW d o S hour c) := by
  intro r
  have hn7 := hv.2.1
  induction r with
  | zero =>
    intro n0 i hi hn
    obtain ⟨n1, rfl⟩ : ∃ n1, n0 = n1 + 1 := ⟨n0 - 1, by omega⟩
    rw [fX12_whose_L13]
    unfold fX12_candles
    rw [h.1, if_pos (nI_le (by omega) (by omega)), show i = nn d by omega]
    rfl
  | succ r ih =>
    intro n0 i hi hn
    obtain ⟨n1, rfl⟩ : ∃ n1, n0 = n1 + 1 := ⟨n0 - 1, by omega⟩
    have ih := ih n1 (i + 1) (by omega) (by omega)
    have ht := sT_le hv S hour c
    have hl := lv_le hv (S := S) (hour := hour) (c := c) (k := i) (by omega)
    rw [fX12_whose_L13]
    unfold fX12_candles
    rw [h.1, if_neg (nI_ge (by omega) (by omega))]
    by_cases h0 : sT d S hour c = 0
    · rw [h0, if_pos (show nI 0 ≤ 0 from Int32.le_refl _)]
      have z : ∀ m, sWf (lv_ S (fun k => sL d hour k c)) o 0 m = -1 := by
        intro m
        induction m with
        | zero => rfl
        | succ m im => rw [sWf, if_pos (Or.inl rfl), im]
      unfold sW sWho
      rw [show sMx (lv_ S (fun k => sL d hour k c)) (nn d) = 0 from h0, z, z]
    · rw [if_neg (nI_nle (by omega) (by omega)), mlightOf_n h hv hS (by omega) hc hh, bS]
      simp only [sWf] at ih
      unfold fX12_whose_L43
      by_cases h1 : lv_ S (fun k => sL d hour k c) i = sT d S hour c
      · rw [if_pos (by rw [h1]), if_neg (by decide), rdA_n (by omega) (by decide), bS, (h.2.2.2 i (by omega)).2.2.2.2]
        rw [if_neg (by omega)] at ih
        by_cases h2 : sWf (lv_ S (fun k => sL d hour k c)) o (sT d S hour c) i = nI (o i)
        · rw [if_pos h2, nI_1]
          rw [if_pos h2] at ih
          exact ih
        · rw [if_neg h2]
          rw [if_neg h2] at ih
          by_cases h3 : sWf (lv_ S (fun k => sL d hour k c)) o (sT d S hour c) i = -1
          · rw [if_pos h3, bS, nI_1]
            rw [if_pos h3] at ih
            exact ih
          · rw [if_neg h3, nI_1]
            rw [if_neg h3] at ih
            exact ih
      · rw [if_neg (fun z => h1 ((nI_eq (by omega) (by omega)).mp z)), if_pos rfl, nI_1]
        rw [if_pos (Or.inr h1)] at ih
        exact ih
theorem mwhose_ok {N : Nat} (hN : 100 ≤ N) {w : Mm} {d : VD} {S : Nat} {o : Nat → Nat} (h : HP w d S o) (hv : VOK d) (hS : S < 2 ^ 31) {c hour : Nat} (hc : c < 64) (hh : hour < 12) : fX12_whose N w (nI c) (nI hour) = some (sW d o S hour c) := by
  unfold fX12_whose
  rw [mlightIn_ok hN h hv hS hc hh, bS]
  exact mwhose_n h hv hS hc hh (nn d) N 0 (by omega) (by have := hv.2.1; omega)
theorem macres_n {N : Nat} (hN : 100 ≤ N) {w : Mm} {d : VD} {S : Nat} {o : Nat → Nat} {x : Int32} (h : HP w d S o) (hv : VOK d) (hS : S < 2 ^ 31) {hour : Nat} (hh : hour < 12) : ∀ (r n0 i : Nat), i + r = 64 → r < n0 → fX12_acresOf_L5 N w n0 x (nI hour) (nI (sCt (fun c => decide (sW d o S hour c = x)) i)) (nI i) = some (nI (sAc d o S hour x)) := by
  intro r
  induction r with
  | zero =>
    intro n0 i hi hn
    obtain ⟨n1, rfl⟩ : ∃ n1, n0 = n1 + 1 := ⟨n0 - 1, by omega⟩
    rw [fX12_acresOf_L5, if_pos (show (64 : Int32) ≤ nI i from nI_le (a := 64) (by omega) (by omega)), show i = 64 by omega]
    rfl
  | succ r ih =>
    intro n0 i hi hn
    obtain ⟨n1, rfl⟩ : ∃ n1, n0 = n1 + 1 := ⟨n0 - 1, by omega⟩
    have ih := ih n1 (i + 1) (by omega) (by omega)
    rw [fX12_acresOf_L5, if_neg (show ¬ (64 : Int32) ≤ nI i from nI_ge (b := 64) (by omega) (by decide)), mwhose_ok hN h hv hS (by omega) hh, bS]
    simp only [sCt] at ih
    by_cases e : sW d o S hour i = x
    · rw [if_pos e, nI_1, nI_1]
      rw [if_pos (by simp [e])] at ih
      exact ih
    · rw [if_neg e, nI_1, show (0 : Int32) = nI 0 from rfl, nI_add]
      rw [if_neg (by simp [e])] at ih
      exact ih
theorem macres_ok {N : Nat} (hN : 100 ≤ N) {w : Mm} {d : VD} {S : Nat} {o : Nat → Nat} {x : Int32} (h : HP w d S o) (hv : VOK d) (hS : S < 2 ^ 31) {hour : Nat} (hh : hour < 12) : fX12_acresOf N w x (nI hour) = some (nI (sAc d o S hour x)) :=
  macres_n hN h hv hS hh 64 N 0 rfl (by omega)
/-- the reference's 'now', as far as candles go -/
def NP (w : Mm) (d : VD) : Prop := w.1 78 0 = nI (nn d) ∧ w.1 78 1 = nI (fo d) ∧ w.1 78 2 = nI (li d) ∧ ∀ k, k < nn d → w.1 78 (6 + 5 * k) = nI (kd d k) ∧ w.1 78 (6 + 5 * k + 1) = nI (ce d k) ∧ w.1 78 (6 + 5 * k + 2) = nI (he d k) ∧ w.1 78 (6 + 5 * k + 3) = nI (ow d k) ∧ w.1 78 (6 + 5 * k + 4) = nI (ta d k)
theorem layHand_n {N : Nat} {d : VD} (hv : VOK d) : ∀ (r n0 i : Nat) (w : Mm), i + r = nn d → r < n0 → NP w d → w.1 77 6 = nI (li d) → (∀ k, k < i → w.1 82 k = nI (ce d k) ∧ w.1 83 k = nI (ow d k)) → ∃ w', fX12_layHand_L12 N n0 w (nI i) = some w' ∧ Fr [82, 83] w w' ∧ HP w' d (li d) (ow d) := by
  intro r
  have hn7 := hv.2.1
  induction r with
  | zero =>
    intro n0 i w hi hn h hl hj
    obtain ⟨n1, rfl⟩ : ∃ n1, n0 = n1 + 1 := ⟨n0 - 1, by omega⟩
    refine ⟨w, ?_, Fr.rf, h.1, h.2.1, hl, fun k hk => ⟨(h.2.2.2 k hk).1, (h.2.2.2 k hk).2.2.1, (h.2.2.2 k hk).2.2.2.2, (hj k (by omega)).1, (hj k (by omega)).2⟩⟩
    rw [fX12_layHand_L12]
    unfold fX12_candles
    rw [h.1, if_pos (nI_le (by omega) (by omega))]
  | succ r ih =>
    intro n0 i w hi hn h hl hj
    obtain ⟨n1, rfl⟩ : ∃ n1, n0 = n1 + 1 := ⟨n0 - 1, by omega⟩
    have g1 : fX12_get w (nI i) 1 = some (nI (ce d i)) := (mget_n (j := 1) (by omega) (by omega)).trans (by rw [(h.2.2.2 i (by omega)).2.1])
    have g3 : fX12_get (sI w 82 i (nI (ce d i))) (nI i) 3 = some (nI (ow d i)) := (mget_n (j := 3) (by omega) (by omega)).trans (by rw [sI_o _ (by decide), (h.2.2.2 i (by omega)).2.2.2.1])
    have f1 : Fr [82, 83] w (sI (sI w 82 i (nI (ce d i))) 83 i (nI (ow d i))) := (Fr.sI (L := [82, 83]) (by decide)).then (Fr.sI (by decide))
    obtain ⟨w', e1, e2, e3⟩ := ih n1 (i + 1) (sI (sI w 82 i (nI (ce d i))) 83 i (nI (ow d i))) (by omega) (by omega) (by unfold NP; rw [f1.1 78 (by decide)]; exact h) (by rw [f1.1 77 (by decide)]; exact hl) (fun k hk => by
      rw [sI_1, sI_1, sI_1, sI_1]
      by_cases e : k = i
      · subst e; simp
      · simp [e]; exact hj k (by omega))
    refine ⟨w', ?_, f1.then e2, e3⟩
    rw [fX12_layHand_L12]
    unfold fX12_candles
    rw [h.1, if_neg (nI_ge (by omega) (by omega)), g1, bS, wrA_n (by omega) (by decide), bS, g3, bS, wrA_n (by omega) (by decide), bS, nI_1]
    exact e1
/-- behind layHand: only the hand has changed -/
theorem layHand_ok {N : Nat} (hN : 100 ≤ N) {w : Mm} {d : VD} (hv : VOK d) (h : NP w d) : ∃ w', fX12_layHand N w = some w' ∧ Fr [77, 82, 83] w w' ∧ HP w' d (li d) (ow d) ∧ ∀ i, i ≠ 6 → w'.1 77 i = w.1 77 i := by
  unfold fX12_layHand
  obtain ⟨w', e1, e2, e3⟩ := layHand_n (N := N) hv (nn d) N 0 (sI w 77 6 (w.1 78 2)) (by omega) (by have := hv.2.1; omega) (by unfold NP; rw [sI_o _ (by decide)]; exact h) (by rw [sI_1, if_pos ⟨rfl, rfl⟩]; exact h.2.2.1) (fun k hk => absurd hk (by omega))
  refine ⟨w', ?_, (Fr.sI (L := [77, 82, 83]) (by decide)).then (e2.up (by decide)), e3, fun i hi => ?_⟩
  · rw [bS]; exact e1
  · rw [e2.1 77 (by decide), sI_1, if_neg (fun z => hi z.2)]

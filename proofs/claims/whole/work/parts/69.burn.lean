/-! ===== which candles burn ===== -/
theorem nar1 : vp_nar .boolean 1 = 1 := by decide
theorem nar0 : vp_nar .boolean 0 = 0 := by decide
/-- a set fits the first readings -/
def sFt (d : VD) (rc rh rl : Nat → Nat) (S : Nat) : Nat → Bool
  | 0 => true
  | i + 1 => sFt d rc rh rl S i && decide (sT d S (rh i) (rc i) = rl i)
theorem sFt_mono {d : VD} {rc rh rl : Nat → Nat} {S i : Nat} : ∀ {n : Nat}, i ≤ n → sFt d rc rh rl S n = true → sFt d rc rh rl S i = true := by
  intro n
  induction n with
  | zero => intro h1 h2; rw [show i = 0 by omega]; exact h2
  | succ n ih =>
    intro h1 h2
    by_cases e : i = n + 1
    · rw [e]; exact h2
    · rw [sFt, Bool.and_eq_true] at h2
      exact ih (by omega) h2.1
theorem sFt_no {d : VD} {rc rh rl : Nat → Nat} {S i n : Nat} (hi : i < n) (h : ¬ sT d S (rh i) (rc i) = rl i) : sFt d rc rh rl S n = false := by
  cases e : sFt d rc rh rl S n
  · rfl
  · have := sFt_mono (show i + 1 ≤ n by omega) e
    rw [sFt, Bool.and_eq_true] at this
    exact absurd (of_decide_eq_true this.2) h
theorem fit_eq {v t A B : Nat} (hE : v ≠ 0 → (A = 0 ↔ t < v)) (hT : B = 0 ↔ t < v + 1) : ((decide (v = 0) || !decide (A = 0)) && decide (B = 0)) = decide (t = v) := by
  rw [Bool.eq_iff_iff, Bool.and_eq_true, Bool.or_eq_true, Bool.not_eq_true', decide_eq_true_eq, decide_eq_false_iff_not, decide_eq_true_eq, decide_eq_true_eq, hT]
  by_cases h0 : v = 0
  · constructor
    · intro z; omega
    · intro z; exact ⟨Or.inl h0, by omega⟩
  · rw [hE h0]
    constructor
    · intro z; omega
    · intro z; exact ⟨Or.inr (by omega), by omega⟩
theorem hms_n {w : Mm} {d : VD} (h : LPc w d) (hv : VOK d) : fX6_howManySets w = nI (2 ^ nn d) := by
  have hn := hv.2.1
  unfold fX6_howManySets
  rw [h.2.1, nI_shl (by omega)]
theorem b01_1 : b01 true = 1 := rfl
theorem b01_0 : b01 false = 0 := rfl
theorem fit_in {N : Nat} {d : VD} (hv : VOK d) {v E T : Nat} {x1 : Int32} {g g' : Nat → Bool} (hv0 : v < 2 ^ 30) (hE : E < 2 ^ 7) (hT : T < 2 ^ 7) (hg : ∀ S, S < 2 ^ nn d → g' S = (g S && ((decide (v = 0) || !decide (S &&& E = 0)) && decide (S &&& T = 0)))) {k25 : Mm → Int32 → Option Mm} : ∀ (r n0 s : Nat) (w : Mm), s + r = 2 ^ nn d → r < n0 → LPc w d → (∀ S, S < s → w.1 70 S = b01 (g' S)) → (∀ S, s ≤ S → S < 2 ^ nn d → w.1 70 S = b01 (g S)) → ∃ w', fX6_layFitting_L106 N k25 n0 w x1 (nI v) (nI E) (nI T) (nI s) = k25 w' (x1 + 1) ∧ Fr [70] w w' ∧ ∀ S, S < 2 ^ nn d → w'.1 70 S = b01 (g' S) := by
  intro r
  have h7 := p2le hv
  induction r with
  | zero =>
    intro n0 s w hi hr h ha hb
    obtain ⟨n1, rfl⟩ : ∃ n1, n0 = n1 + 1 := ⟨n0 - 1, by omega⟩
    refine ⟨w, ?_, Fr.rf, fun S hS => ha S (by omega)⟩
    rw [fX6_layFitting_L106, hms_n h hv, if_pos (nI_le (by omega) (by omega))]
  | succ r ih =>
    intro n0 s w hi hr h ha hb
    obtain ⟨n1, rfl⟩ : ∃ n1, n0 = n1 + 1 := ⟨n0 - 1, by omega⟩
    have f1 : ∀ x, Fr [70] w (sI w 70 s x) := fun x => Fr.sI (by decide)
    obtain ⟨w', g1, g2, g3⟩ := ih n1 (s + 1) (sI w 70 s (b01 (g' s))) (by omega) (by omega) (h.fr (f1 _) (by decide)) (fun S hS => by
      rw [sI_1]
      by_cases e : S = s
      · rw [if_pos ⟨rfl, e⟩, e]
      · rw [if_neg (by omega)]; exact ha S (by omega)) (fun S hS hS2 => by
      rw [sI_1, if_neg (by omega)]; exact hb S (by omega) hS2)
    refine ⟨w', ?_, (f1 _).then g2, g3⟩
    have hsE : s &&& E ≤ s := Nat.and_le_left
    have hsT : s &&& T ≤ s := Nat.and_le_left
    have zE : (nI (s &&& E) = 0) ↔ s &&& E = 0 := nI_eq (b := 0) (by omega) (by decide)
    have zT : (nI (s &&& T) = 0) ↔ s &&& T = 0 := nI_eq (b := 0) (by omega) (by decide)
    have zv : (nI v = 0) ↔ v = 0 := nI_eq (b := 0) (by omega) (by decide)
    have w0 : ∀ k106, fX6_layFitting_L166 N k25 k106 w x1 (nI v) (nI E) (nI T) (nI s) (nI s) = k106 (sI w 70 s (b01 false)) x1 (nI v) (nI E) (nI T) (nI (s + 1)) := fun k106 => by
      unfold fX6_layFitting_L166 fX6_layFitting_L167
      rw [nar0, wrA_n (by omega) (by decide), bS, nI_1]
      rfl
    have w1 : ∀ k106, fX6_layFitting_L167 N k25 k106 w x1 (nI v) (nI E) (nI T) (nI s) 1 (nI s) = k106 (sI w 70 s (b01 true)) x1 (nI v) (nI E) (nI T) (nI (s + 1)) := fun k106 => by
      unfold fX6_layFitting_L167
      rw [nar1, wrA_n (by omega) (by decide), bS, nI_1]
      rfl
    have key : ∀ k106 (t : Bool), fX6_layFitting_L131 N k25 k106 w x1 (nI v) (nI E) (nI T) (nI s) (b01 t) = k106 (sI w 70 s (b01 (g s && (t && decide (s &&& T = 0))))) x1 (nI v) (nI E) (nI T) (nI (s + 1)) := fun k106 t => by
      unfold fX6_layFitting_L131
      rw [rdA_n (by omega) (by decide), bS, hb s (Nat.le_refl _) (by omega), nI_and (by omega) (by omega), w0, w1]
      by_cases q1 : g s = true
      · rw [if_neg (fun z => by rw [b01_z, q1] at z; exact absurd z (by decide)), q1]
        by_cases q2 : t = true
        · rw [if_neg (fun z => by rw [b01_z, q2] at z; exact absurd z (by decide)), q2]
          by_cases q3 : s &&& T = 0
          · rw [if_pos (zT.mpr q3), decide_eq_true q3]; rfl
          · rw [if_neg (fun z => q3 (zT.mp z)), decide_eq_false q3]; rfl
        · have q2' : t = false := by simpa using q2
          rw [if_pos (b01_z.mpr q2'), q2']; rfl
      · have q1' : g s = false := by simpa using q1
        rw [if_pos (b01_z.mpr q1'), q1']; rfl
    rw [hg s (by omega)] at g1
    have key1 : ∀ k106, fX6_layFitting_L131 N k25 k106 w x1 (nI v) (nI E) (nI T) (nI s) 1 = k106 (sI w 70 s (b01 (g s && (true && decide (s &&& T = 0))))) x1 (nI v) (nI E) (nI T) (nI (s + 1)) := fun k106 => key k106 true
    have key0 : ∀ k106, fX6_layFitting_L131 N k25 k106 w x1 (nI v) (nI E) (nI T) (nI s) 0 = k106 (sI w 70 s (b01 (g s && (false && decide (s &&& T = 0))))) x1 (nI v) (nI E) (nI T) (nI (s + 1)) := fun k106 => key k106 false
    rw [fX6_layFitting_L106, hms_n h hv, if_neg (nI_ge (by omega) (by omega)), nI_and (by omega) (by omega), key1, key0]
    by_cases q1 : v = 0
    · rw [if_pos (zv.mpr q1)]
      rw [decide_eq_true q1, Bool.true_or] at g1
      exact g1
    · rw [if_neg (fun z => q1 (zv.mp z))]
      rw [decide_eq_false q1, Bool.false_or] at g1
      by_cases q2 : s &&& E = 0
      · rw [if_pos (zE.mpr q2)]
        rw [decide_eq_true q2] at g1
        exact g1
      · rw [if_neg (fun z => q2 (zE.mp z))]
        rw [decide_eq_false q2] at g1
        exact g1
theorem fit_ct {N : Nat} {d : VD} (hv : VOK d) {f : Nat → Bool} : ∀ (r n0 s : Nat) (w : Mm), s + r = 2 ^ nn d → r < n0 → LPc w d → (∀ S, S < 2 ^ nn d → w.1 70 S = b01 (f S)) → w.1 68 4 = nI (sCt f s) → ∃ w', fX6_layFitting_L187 N n0 w (nI s) = some w' ∧ Fr [68] w w' ∧ w'.1 68 4 = nI (sCt f (2 ^ nn d)) := by
  intro r
  have h7 := p2le hv
  induction r with
  | zero =>
    intro n0 s w hi hr h ha hb
    obtain ⟨n1, rfl⟩ : ∃ n1, n0 = n1 + 1 := ⟨n0 - 1, by omega⟩
    refine ⟨w, ?_, Fr.rf, by rw [hb, show s = 2 ^ nn d by omega]⟩
    rw [fX6_layFitting_L187, hms_n h hv, if_pos (nI_le (by omega) (by omega))]
  | succ r ih =>
    intro n0 s w hi hr h ha hb
    obtain ⟨n1, rfl⟩ : ∃ n1, n0 = n1 + 1 := ⟨n0 - 1, by omega⟩
    have f1 : ∀ x, Fr [68] w (sI w 68 4 x) := fun x => Fr.sI (by decide)
    obtain ⟨w', g1, g2, g3⟩ := ih n1 (s + 1) (sI w 68 4 (nI (sCt f (s + 1)))) (by omega) (by omega) (h.fr (f1 _) (by decide)) (fun S hS => by rw [sI_o _ (by decide)]; exact ha S hS) (by rw [sI_1, if_pos ⟨rfl, rfl⟩])
    refine ⟨w', ?_, (f1 _).then g2, g3⟩
    rw [show sCt f (s + 1) = if f s = true then sCt f s + 1 else sCt f s from rfl] at g1
    rw [fX6_layFitting_L187, hms_n h hv, if_neg (nI_ge (by omega) (by omega)), rdA_n (by omega) (by decide), bS, ha s (by omega), hb]
    unfold fX6_layFitting_L214
    rw [bS, bS, nI_1, nI_1, Int32.add_zero]
    by_cases q1 : f s = true
    · rw [if_neg (fun z => by rw [b01_z, q1] at z; exact absurd z (by decide))]
      rw [if_pos q1] at g1
      exact g1
    · have q1' : f s = false := by simpa using q1
      rw [if_pos (b01_z.mpr q1')]
      rw [if_neg q1] at g1
      exact g1
theorem fit_rd {N : Nat} (hN : 1000 ≤ N) {d : VD} (hv : VOK d) {nr : Nat} {rc rh rl : Nat → Nat} (hnr : nr ≤ 6) (hr0 : ∀ i, i < nr → rc i < 64 ∧ rh i < 12 ∧ rl i ≤ 23) : ∀ (r n0 i : Nat) (w : Mm), i + r = nr → r < n0 → LPc w d → CVr w 1 nr rc rh rl → (∀ S, S < 2 ^ nn d → w.1 70 S = b01 (sFt d rc rh rl S i)) → ∃ w', fX6_layFitting_L25 N n0 w (nI i) = some w' ∧ Fr [68, 70] w w' ∧ (∀ S, S < 2 ^ nn d → w'.1 70 S = b01 (sFt d rc rh rl S nr)) ∧ w'.1 68 4 = nI (sCt (fun S => sFt d rc rh rl S nr) (2 ^ nn d)) := by
  intro r
  have h7 := p2le hv
  induction r with
  | zero =>
    intro n0 i w hi hr h hc ha
    obtain ⟨n1, rfl⟩ : ∃ n1, n0 = n1 + 1 := ⟨n0 - 1, by omega⟩
    have e : i = nr := by omega
    subst e
    have f1 : Fr [68] w (sI w 68 4 0) := Fr.sI (by decide)
    obtain ⟨w', g1, g2, g3⟩ := fit_ct (N := N) hv (f := fun S => sFt d rc rh rl S i) (2 ^ nn d) N 0 (sI w 68 4 0) (Nat.zero_add _) (by omega) (h.fr f1 (by decide)) (fun S hS => by rw [sI_o _ (by decide)]; exact ha S hS) (by rw [sI_1, if_pos ⟨rfl, rfl⟩]; rfl)
    refine ⟨w', ?_, (f1.up (by decide)).then (g2.up (by decide)), fun S hS => ?_, g3⟩
    · rw [fX6_layFitting_L25, hc.1, if_pos (nI_le (by omega) (by omega)), bS]
      exact g1
    · rw [g2.1 70 (by decide), sI_o _ (by decide)]; exact ha S hS
  | succ r ih =>
    intro n0 i w hi hr h hc ha
    obtain ⟨n1, rfl⟩ : ∃ n1, n0 = n1 + 1 := ⟨n0 - 1, by omega⟩
    obtain ⟨b1, b2, b3⟩ := hr0 i (by omega)
    obtain ⟨c1, c2, c3⟩ := hc.2 i (by omega)
    have c1' : w.1 8 i = nI (rc i) := c1
    have c2' : w.1 9 i = nI (rh i) := c2
    have c3' : w.1 10 i = nI (rl i) := c3
    have hE := sR_lt hv (rh i) (rc i) (rl i)
    have hT := sR_lt hv (rh i) (rc i) (rl i + 1)
    obtain ⟨w1, g1, g2, g3⟩ := fit_in (N := N) hv (v := rl i) (E := sR d (rh i) (rc i) (rl i)) (T := sR d (rh i) (rc i) (rl i + 1)) (x1 := nI i) (g := fun S => sFt d rc rh rl S i) (g' := fun S => sFt d rc rh rl S (i + 1)) (by omega) hE hT (fun S hS => by
      rw [fit_eq (t := sT d S (rh i) (rc i))]
      · rfl
      · intro h0
        rw [Nat.and_comm]
        exact sR_z (by omega)
      · rw [Nat.and_comm]
        exact sR_z (by omega)) (k25 := fX6_layFitting_L25 N n1) (2 ^ nn d) N 0 w (Nat.zero_add _) (by omega) h (fun S hS => absurd hS (by omega)) (fun S _ hS => ha S hS)
    obtain ⟨w2, k1, k2, k3, k4⟩ := ih n1 (i + 1) w1 (by omega) (by omega) (h.fr g2 (by decide)) (hc.fr (by rw [g2.1 1 (by decide)]) (fun j h1 h2 => g2.1 _ (by simp; omega))) g3
    refine ⟨w2, ?_, (g2.up (by decide)).then k2, k3, k4⟩
    rw [nI_1] at g1
    rw [fX6_layFitting_L25, hc.1, if_neg (nI_ge (by omega) (by omega)), rdA_n (by omega) (by decide), bS, rdA_n (by omega) (by decide), bS, rdA_n (by omega) (by decide), bS, c1', c2', c3', reaching_ok (by omega) h hv b1 b2 (by omega), bS, bS, bS, nI_1, reaching_ok (by omega) h hv b1 b2 (by omega), bS]
    exact g1.trans k1
theorem fit_1 {N : Nat} {d : VD} (hv : VOK d) : ∀ (r n0 s : Nat) (w : Mm), s + r = 2 ^ nn d → r < n0 → LPc w d → (∀ S, S < s → w.1 70 S = 1) → ∃ w', fX6_layFitting_L2 N n0 w (nI s) = fX6_layFitting_L25 N N w' 0 ∧ Fr [70] w w' ∧ ∀ S, S < 2 ^ nn d → w'.1 70 S = 1 := by
  intro r
  have h7 := p2le hv
  induction r with
  | zero =>
    intro n0 s w hi hr h ha
    obtain ⟨n1, rfl⟩ : ∃ n1, n0 = n1 + 1 := ⟨n0 - 1, by omega⟩
    refine ⟨w, ?_, Fr.rf, fun S hS => ha S (by omega)⟩
    rw [fX6_layFitting_L2, hms_n h hv, if_pos (nI_le (by omega) (by omega))]
  | succ r ih =>
    intro n0 s w hi hr h ha
    obtain ⟨n1, rfl⟩ : ∃ n1, n0 = n1 + 1 := ⟨n0 - 1, by omega⟩
    have f1 : Fr [70] w (sI w 70 s 1) := Fr.sI (by decide)
    obtain ⟨w', g1, g2, g3⟩ := ih n1 (s + 1) (sI w 70 s 1) (by omega) (by omega) (h.fr f1 (by decide)) (fun S hS => by
      rw [sI_1]
      by_cases e : S = s
      · rw [if_pos ⟨rfl, e⟩]
      · rw [if_neg (by omega)]; exact ha S (by omega))
    refine ⟨w', ?_, f1.then g2, g3⟩
    rw [fX6_layFitting_L2, hms_n h hv, if_neg (nI_ge (by omega) (by omega)), nar1, wrA_n (by omega) (by decide), bS, nI_1]
    exact g1
theorem layFitting_ok {N : Nat} (hN : 1000 ≤ N) {w : Mm} {V : VV} (hV : VVOK V) (h : CV w 1 V) : ∃ w', fX6_layFitting N w = some w' ∧ Fr [68, 70] w w' ∧ (∀ S, S < 2 ^ nn (vd V) → w'.1 70 S = b01 (sFt (vd V) (rC V) (rH V) (rL V) S (nR V))) ∧ w'.1 68 4 = nI (sCt (fun S => sFt (vd V) (rC V) (rH V) (rL V) S (nR V)) (2 ^ nn (vd V))) := by
  have hv : VOK (vd V) := hV.1
  have h7 := p2le hv
  obtain ⟨w1, g1, g2, g3⟩ := fit_1 (N := N) hv (2 ^ nn (vd V)) N 0 w (Nat.zero_add _) (by omega) h.lp (fun S hS => absurd hS (by omega))
  obtain ⟨w2, k1, k2, k3, k4⟩ := fit_rd (N := N) hN hv hV.2.2.1.1 hV.2.2.1.2 (nR V) N 0 w1 (Nat.zero_add _) (by have := hV.2.2.1.1; omega) (h.lp.fr g2 (by decide)) ((CV_iff.mp h).2.2.1.fr (by rw [g2.1 1 (by decide)]) (fun j h1 h2 => g2.1 _ (by simp; omega))) g3
  exact ⟨w2, g1.trans k1, (g2.up (by decide)).then k2, k3, k4⟩
/-! the reference's -/
theorem areSo_n {N : Nat} (hN : 100 ≤ N) {w : Mm} {d : VD} (hv : VOK d) {nr S : Nat} {rc rh rl o : Nat → Nat} (hp : HP w d S o) (hnr : nr ≤ 6) (hr0 : ∀ i, i < nr → rc i < 64 ∧ rh i < 12 ∧ rl i ≤ 23) (hS : S < 2 ^ 7) (hc : MVr (w.1 78) nr rc rh rl) : ∀ (r n0 i : Nat), i + r = nr → r < n0 → sFt d rc rh rl S i = true → fX12_areSo_L4 N w n0 1 (nI i) = some (b01 (sFt d rc rh rl S nr)) := by
  intro r
  induction r with
  | zero =>
    intro n0 i hi hr ha
    obtain ⟨n1, rfl⟩ : ∃ n1, n0 = n1 + 1 := ⟨n0 - 1, by omega⟩
    rw [fX12_areSo_L4, hc.1, if_pos (nI_le (by omega) (by omega)), ← show i = nr by omega, ha]
    rfl
  | succ r ih =>
    intro n0 i hi hr ha
    obtain ⟨n1, rfl⟩ : ∃ n1, n0 = n1 + 1 := ⟨n0 - 1, by omega⟩
    obtain ⟨b1, b2, b3⟩ := hr0 i (by omega)
    obtain ⟨c1, c2, c3⟩ := hc.2 i (by omega)
    have ht := sT_le hv S (rh i) (rc i)
    have e47 : 47 + 3 * nI i = nI (47 + 3 * i) := by rw [show (47 : Int32) = nI 47 from rfl, show (3 : Int32) = nI 3 from rfl, pk_mul, nI_add]
    have e48 : nI (47 + 3 * i) + 1 = nI (47 + 3 * i + 1) := nI_1 _
    have e49 : nI (47 + 3 * i) + 2 = nI (47 + 3 * i + 2) := nI_add _ 2
    rw [fX12_areSo_L4, hc.1, if_neg (nI_ge (by omega) (by omega)), if_neg (show ¬ (1 : Int32) = 0 by decide), e47, e48, e49, rdA_n (by omega) (by decide), bS, rdA_n (by omega) (by decide), bS, c1, c2, mlightIn_ok hN hp hv (by omega) b1 b2, bS, rdA_n (by omega) (by decide), bS, c3, nI_1]
    by_cases hz : sT d S (rh i) (rc i) = rl i
    · rw [if_pos (by rw [hz])]
      exact ih n1 (i + 1) (by omega) (by omega) (by rw [sFt, ha, decide_eq_true hz]; rfl)
    · rw [if_neg (fun z => hz ((nI_eq (by omega) (by omega)).mp z)), sFt_no (i := i) (by omega) hz]
      obtain ⟨n2, rfl⟩ : ∃ n2, n1 = n2 + 1 := ⟨n1 - 1, by omega⟩
      rw [fX12_areSo_L4, if_pos (show (0 : Int32) = 0 from rfl)]
      split <;> rfl
theorem nar_b (b : Bool) : vp_nar .boolean (b01 b) = b01 b := by
  cases b
  · exact nar0
  · exact nar1
theorem layFits_n {N : Nat} (hN : 1000 ≤ N) {d : VD} (hv : VOK d) {nr : Nat} {rc rh rl o : Nat → Nat} (hnr : nr ≤ 6) (hr0 : ∀ i, i < nr → rc i < 64 ∧ rh i < 12 ∧ rl i ≤ 23) : ∀ (r n0 s S : Nat) (w : Mm), s + r = 2 ^ nn d → r < n0 → HP w d S o → MVr (w.1 78) nr rc rh rl → (∀ T, T < s → w.1 87 T = b01 (sFt d rc rh rl T nr)) → w.1 77 14 = nI (sCt (fun T => sFt d rc rh rl T nr) s) → ∃ w' S', fX12_layFits_L11 N n0 w (nI s) = some w' ∧ Fr [77, 87] w w' ∧ HP w' d S' o ∧ (∀ T, T < 2 ^ nn d → w'.1 87 T = b01 (sFt d rc rh rl T nr)) ∧ w'.1 77 14 = nI (sCt (fun T => sFt d rc rh rl T nr) (2 ^ nn d)) ∧ w'.1 77 16 = w.1 77 16 := by
  intro r
  have h7 := p2le hv
  have hn := hv.2.1
  induction r with
  | zero =>
    intro n0 s S w hi hr hp hc ha hb
    obtain ⟨n1, rfl⟩ : ∃ n1, n0 = n1 + 1 := ⟨n0 - 1, by omega⟩
    refine ⟨w, S, ?_, Fr.rf, hp, fun T hT => ha T (by omega), by rw [hb, show s = 2 ^ nn d by omega], rfl⟩
    unfold fX12_layFits_L11 fX12_candles
    rw [hp.1, nI_shl (by omega), if_pos (nI_le (by omega) (by omega))]
  | succ r ih =>
    intro n0 s S w hi hr hp hc ha hb
    obtain ⟨n1, rfl⟩ : ∃ n1, n0 = n1 + 1 := ⟨n0 - 1, by omega⟩
    have hp1 : HP (sI w 77 6 (nI s)) d s o := hp.set
    have ea : fX12_areSo N (sI w 77 6 (nI s)) = some (b01 (sFt d rc rh rl s nr)) := areSo_n (by omega) hv hp1 hnr hr0 (by omega) (by rw [sI_o _ (by decide)]; exact hc) nr N 0 (Nat.zero_add _) (by omega) rfl
    have hp2 : HP (sI (sI w 77 6 (nI s)) 87 s (b01 (sFt d rc rh rl s nr))) d s o := hp1.fr (Fr.sI (L := [87]) (by decide)) (by decide)
    have hp3 : ∀ x, HP (sI (sI (sI w 77 6 (nI s)) 87 s (b01 (sFt d rc rh rl s nr))) 77 14 x) d s o := fun x => by
      refine ⟨?_, ?_, ?_, ?_⟩
      · rw [sI_o _ (by decide)]; exact hp2.1
      · rw [sI_o _ (by decide)]; exact hp2.2.1
      · rw [sI_1, if_neg (by decide)]; exact hp2.2.2.1
      · rw [sI_o _ (show (78 : Nat) ≠ 77 by decide), sI_o _ (show (82 : Nat) ≠ 77 by decide), sI_o _ (show (83 : Nat) ≠ 77 by decide)]; exact hp2.2.2.2
    have f3 : ∀ x, Fr [77, 87] w (sI (sI (sI w 77 6 (nI s)) 87 s (b01 (sFt d rc rh rl s nr))) 77 14 x) := fun x => ((Fr.sI (L := [77, 87]) (by decide)).then (Fr.sI (by decide))).then (Fr.sI (by decide))
    obtain ⟨w', S', g1, g2, g3, g4, g5, g6⟩ := ih n1 (s + 1) s (sI (sI (sI w 77 6 (nI s)) 87 s (b01 (sFt d rc rh rl s nr))) 77 14 (nI (sCt (fun T => sFt d rc rh rl T nr) (s + 1)))) (by omega) (by omega) (hp3 _) (by rw [(f3 _).1 78 (by decide)]; exact hc) (fun T hT => by
      rw [sI_o _ (by decide), sI_1]
      by_cases e : T = s
      · rw [if_pos ⟨rfl, e⟩, e]
      · rw [if_neg (by omega), sI_o _ (by decide)]; exact ha T (by omega)) (by rw [sI_1, if_pos ⟨rfl, rfl⟩])
    refine ⟨w', S', ?_, (f3 _).then g2, g3, g4, g5, by rw [g6, sI_1, if_neg (by decide), sI_o _ (by decide), sI_1, if_neg (by decide)]⟩
    have e14 : (sI (sI w 77 6 (nI s)) 87 s (b01 (sFt d rc rh rl s nr))).1 77 14 = nI (sCt (fun T => sFt d rc rh rl T nr) s) := by
      rw [sI_o _ (by decide), sI_1, if_neg (by decide)]; exact hb
    have e87 : (sI (sI w 77 6 (nI s)) 87 s (b01 (sFt d rc rh rl s nr))).1 87 s = b01 (sFt d rc rh rl s nr) := by
      rw [sI_1, if_pos ⟨rfl, rfl⟩]
    rw [show sCt (fun T => sFt d rc rh rl T nr) (s + 1) = if sFt d rc rh rl s nr = true then sCt (fun T => sFt d rc rh rl T nr) s + 1 else sCt (fun T => sFt d rc rh rl T nr) s from rfl] at g1
    unfold fX12_layFits_L11 fX12_candles
    rw [hp.1, nI_shl (by omega), if_neg (nI_ge (by omega) (by omega)), bS, ea, bS, nar_b, wrA_n (by omega) (by decide), bS, rdA_n (by omega) (by decide), bS, e87, e14]
    unfold fX12_layFits_L55
    rw [bS, bS, nI_1, nI_1, Int32.add_zero]
    by_cases q1 : sFt d rc rh rl s nr = true
    · rw [if_neg (fun z => by rw [b01_z, q1] at z; exact absurd z (by decide))]
      rw [if_pos q1] at g1
      exact g1
    · have q1' : sFt d rc rh rl s nr = false := by simpa using q1
      rw [if_pos (b01_z.mpr q1')]
      rw [if_neg q1] at g1
      exact g1
theorem layFits_ok {N : Nat} (hN : 1000 ≤ N) {w : Mm} {V : VV} (hV : VVOK V) (h : MV (w.1 78) V) : ∃ w' S', fX12_layFits N w = some w' ∧ Fr [77, 82, 83, 87] w w' ∧ HP w' (vd V) S' (ow (vd V)) ∧ (∀ T, T < 2 ^ nn (vd V) → w'.1 87 T = b01 (sFt (vd V) (rC V) (rH V) (rL V) T (nR V))) ∧ w'.1 77 14 = nI (sCt (fun T => sFt (vd V) (rC V) (rH V) (rL V) T (nR V)) (2 ^ nn (vd V))) ∧ w'.1 77 16 = w.1 77 16 := by
  have hv : VOK (vd V) := hV.1
  have h7 := p2le hv
  have f0 : Fr [77] w (sI w 77 14 0) := Fr.sI (by decide)
  obtain ⟨w1, g1, g2, g3, g4⟩ := layHand_ok (N := N) (by omega) hv (h.np.fr f0 (by decide))
  obtain ⟨w2, S', k1, k2, k3, k4, k5, k6⟩ := layFits_n (N := N) hN hv hV.2.2.1.1 hV.2.2.1.2 (2 ^ nn (vd V)) N 0 _ w1 (Nat.zero_add _) (by omega) g3 (by rw [g2.1 78 (by decide), f0.1 78 (by decide)]; exact (MV_iff.mp h).2.2.1) (fun T hT => absurd hT (by omega)) (by rw [g4 14 (by decide), sI_1, if_pos ⟨rfl, rfl⟩]; rfl)
  refine ⟨w2, S', ?_, ((f0.up (by decide)).then (g2.up (by decide))).then (k2.up (by decide)), k3, k4, k5, ?_⟩
  · unfold fX12_layFits
    rw [bS, g1, bS]
    exact k1
  · rw [k6, g4 16 (by decide), sI_1, if_neg (by decide)]
def sIa (f : Nat → Bool) (x : Int32) : Nat → Int32
  | 0 => x
  | s + 1 => if f s = true then sIa f x s &&& nI s else sIa f x s
theorem inAll_n {N : Nat} {w : Mm} {d : VD} (h : LPc w d) (hv : VOK d) {f : Nat → Bool} {x : Int32} (ha : ∀ S, S < 2 ^ nn d → w.1 70 S = b01 (f S)) : ∀ (r n0 s : Nat), s + r = 2 ^ nn d → r < n0 → fX6_inAll_L18 N w n0 (sIa f x s) (nI s) = some (sIa f x (2 ^ nn d)) := by
  intro r
  have h7 := p2le hv
  induction r with
  | zero =>
    intro n0 s hi hr
    obtain ⟨n1, rfl⟩ : ∃ n1, n0 = n1 + 1 := ⟨n0 - 1, by omega⟩
    rw [fX6_inAll_L18, hms_n h hv, if_pos (nI_le (by omega) (by omega)), show s = 2 ^ nn d by omega]
  | succ r ih =>
    intro n0 s hi hr
    obtain ⟨n1, rfl⟩ : ∃ n1, n0 = n1 + 1 := ⟨n0 - 1, by omega⟩
    have ih' := ih n1 (s + 1) (by omega) (by omega)
    rw [sIa] at ih'
    rw [fX6_inAll_L18, hms_n h hv, if_neg (nI_ge (by omega) (by omega)), rdA_n (by omega) (by decide), bS, ha s (by omega), nI_1]
    by_cases q1 : f s = true
    · rw [if_neg (fun z => by rw [b01_z, q1] at z; exact absurd z (by decide))]
      rw [if_pos q1] at ih'
      exact ih'
    · have q1' : f s = false := by simpa using q1
      rw [if_pos (b01_z.mpr q1')]
      rw [if_neg q1] at ih'
      exact ih'
theorem and_m1 (x : Int32) : x &&& (-1 : Int32) = x := by
  apply Int32.toBitVec_inj.mp
  show x.toBitVec &&& (-1 : Int32).toBitVec = x.toBitVec
  rw [show (-1 : Int32).toBitVec = BitVec.allOnes 32 from by decide, BitVec.and_allOnes]
def bnA (what ct x : Int32) : Int32 := if what = 0 then ct else if ct = 0 then -1 else x
theorem mburn_n {N : Nat} {w : Mm} {d : VD} {S : Nat} {o : Nat → Nat} (h : HP w d S o) (hv : VOK d) {f : Nat → Bool} {x what : Int32} (ha : ∀ S, S < 2 ^ nn d → w.1 87 S = b01 (f S)) : ∀ (r n0 s : Nat), s + r = 2 ^ nn d → r < n0 → fX12_burn_L32 N n0 w what (sIa f x s) (nI s) = some (bnA what (w.1 77 14) (sIa f x (2 ^ nn d)), w) := by
  intro r
  have h7 := p2le hv
  have hn := hv.2.1
  induction r with
  | zero =>
    intro n0 s hi hr
    obtain ⟨n1, rfl⟩ : ∃ n1, n0 = n1 + 1 := ⟨n0 - 1, by omega⟩
    unfold fX12_burn_L32 fX12_candles bnA
    rw [h.1, nI_shl (by omega), if_pos (nI_le (by omega) (by omega)), show s = 2 ^ nn d by omega]
    split
    · rfl
    · split <;> rfl
  | succ r ih =>
    intro n0 s hi hr
    obtain ⟨n1, rfl⟩ : ∃ n1, n0 = n1 + 1 := ⟨n0 - 1, by omega⟩
    have ih' := ih n1 (s + 1) (by omega) (by omega)
    rw [sIa] at ih'
    unfold fX12_burn_L32 fX12_candles
    rw [h.1, nI_shl (by omega), if_neg (nI_ge (by omega) (by omega)), rdA_n (by omega) (by decide), bS, ha s (by omega), nI_1, and_m1]
    by_cases q1 : f s = true
    · rw [if_neg (fun z => by rw [b01_z, q1] at z; exact absurd z (by decide))]
      rw [if_pos q1] at ih'
      exact ih'
    · have q1' : f s = false := by simpa using q1
      rw [if_pos (b01_z.mpr q1')]
      rw [if_neg q1] at ih'
      exact ih'
theorem op_burn {N : Nat} (hN : 1000 ≤ N) {w : Mm} (h : INV w) (x : Int32) : OKi (fX11_burn N w x) (fun w => fX12_burn N w x) := by
  unfold fX11_burn fX12_burn
  rcases rg_0_1 x with ⟨h1, h2⟩ | ⟨a, -, ha, rfl, h1, h2⟩
  · rw [if_pos h1]; exact ok_bad' (-10) h (fun w' hw' => by rw [if_pos h2])
  rw [if_neg h1]
  obtain ⟨S, s1, s2, s3⟩ := h
  have hv : VOK (vd (gV S)) := s1.1.1
  have h7 := p2le hv
  have hn := hv.2.1
  obtain ⟨w1, e1, e2, e3, e4⟩ := layFitting_ok (N := N) hN s1.1 s2.1
  have l1 : LPc w1 (vd (gV S)) := s2.1.lp.fr e2 (by decide)
  have m1 := s3.scr e2 (by decide)
  obtain ⟨w2, S', g1, g2, g3, g4, g5, g6⟩ := layFits_ok (N := N) hN s1.1 m1.1
  have hi := INV.q s1 s2 s3 e2 (by decide) g2 (by decide) g6
  have hb := mburn_n (N := N) g3 hv (x := nI (2 ^ nn (vd (gV S))) - 1) (what := nI a) g4 (2 ^ nn (vd (gV S))) N 0 (Nat.zero_add _) (by omega)
  have hm : fX12_burn_L26 N w1 (nI a) (((1 : Int32) <<< ((fX12_candles w1) &&& 31)) - (1 : Int32)) = some (bnA (nI a) (w2.1 77 14) (sIa (fun T => sFt (vd (gV S)) (rC (gV S)) (rH (gV S)) (rL (gV S)) T (nR (gV S))) (nI (2 ^ nn (vd (gV S))) - 1) (2 ^ nn (vd (gV S)))), w2) := by
    have m10 : w1.1 78 0 = nI (nn (vd (gV S))) := m1.1.1.1
    unfold fX12_burn_L26 fX12_candles
    rw [g1, bS, m10, nI_shl (by omega)]
    exact hb
  refine ⟨bnA (nI a) (w2.1 77 14) (sIa (fun T => sFt (vd (gV S)) (rC (gV S)) (rH (gV S)) (rL (gV S)) T (nR (gV S))) (nI (2 ^ nn (vd (gV S))) - 1) (2 ^ nn (vd (gV S)))), w1, w2, ?_, ?_, hi⟩
  · rw [e1, bS, e4]
    unfold bnA
    rw [g5]
    by_cases q : nI a = 0
    · rw [if_pos q, if_pos q]
    · rw [if_neg q, if_neg q]
      unfold fX6_inAll
      rw [e4, hms_n l1 hv]
      by_cases q2 : nI (sCt (fun S_1 => sFt (vd (gV S)) (rC (gV S)) (rH (gV S)) (rL (gV S)) S_1 (nR (gV S))) (2 ^ nn (vd (gV S)))) = 0
      · rw [if_pos q2, if_pos q2, bS]
      · rw [if_neg q2, if_neg q2]
        have hc := inAll_n (N := N) l1 hv (x := nI (2 ^ nn (vd (gV S))) - 1) e3 (2 ^ nn (vd (gV S))) N 0 (Nat.zero_add _) (by omega)
        rw [show fX6_inAll_L18 N w1 N (nI (2 ^ nn (vd (gV S))) - 1) (0 : Int32) = _ from hc, bS]
  · dsimp only
    rw [if_neg h2]
    exact hm
